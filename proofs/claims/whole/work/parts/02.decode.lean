/-! decode rows of the code, as the program printed them -/
theorem dX0_init_0 : decode cX0_init 0 = .ok (.aload_n 0, 1) := by decide +kernel
theorem dX0_init_1 : decode cX0_init 1 = .ok (.invokespecial 3, 3) := by decide +kernel
theorem dX0_init_4 : decode cX0_init 4 = .ok (.aload_n 0, 1) := by decide +kernel
theorem dX0_init_5 : decode cX0_init 5 = .ok (.iconst 0, 1) := by decide +kernel
theorem dX0_init_6 : decode cX0_init 6 = .ok (.putfield 9, 3) := by decide +kernel
theorem dX0_init_9 : decode cX0_init 9 = .ok (.aload_n 0, 1) := by decide +kernel
theorem dX0_init_10 : decode cX0_init 10 = .ok (.iconst 0, 1) := by decide +kernel
theorem dX0_init_11 : decode cX0_init 11 = .ok (.putfield 15, 3) := by decide +kernel
theorem dX0_init_14 : decode cX0_init 14 = .ok (.aload_n 0, 1) := by decide +kernel
theorem dX0_init_15 : decode cX0_init 15 = .ok (.bipush 7, 2) := by decide +kernel
theorem dX0_init_17 : decode cX0_init 17 = .ok (.newarray .int, 2) := by decide +kernel
theorem dX0_init_19 : decode cX0_init 19 = .ok (.putfield 18, 3) := by decide +kernel
theorem dX0_init_22 : decode cX0_init 22 = .ok (.aload_n 0, 1) := by decide +kernel
theorem dX0_init_23 : decode cX0_init 23 = .ok (.bipush 7, 2) := by decide +kernel
theorem dX0_init_25 : decode cX0_init 25 = .ok (.newarray .long, 2) := by decide +kernel
theorem dX0_init_27 : decode cX0_init 27 = .ok (.putfield 22, 3) := by decide +kernel
theorem dX0_init_30 : decode cX0_init 30 = .ok (.aload_n 0, 1) := by decide +kernel
theorem dX0_init_31 : decode cX0_init 31 = .ok (.bipush 7, 2) := by decide +kernel
theorem dX0_init_33 : decode cX0_init 33 = .ok (.newarray .long, 2) := by decide +kernel
theorem dX0_init_35 : decode cX0_init 35 = .ok (.putfield 26, 3) := by decide +kernel
theorem dX0_init_38 : decode cX0_init 38 = .ok (.aload_n 0, 1) := by decide +kernel
theorem dX0_init_39 : decode cX0_init 39 = .ok (.bipush 7, 2) := by decide +kernel
theorem dX0_init_41 : decode cX0_init 41 = .ok (.newarray .int, 2) := by decide +kernel
theorem dX0_init_43 : decode cX0_init 43 = .ok (.putfield 29, 3) := by decide +kernel
theorem dX0_init_46 : decode cX0_init 46 = .ok (.aload_n 0, 1) := by decide +kernel
theorem dX0_init_47 : decode cX0_init 47 = .ok (.iconst 0, 1) := by decide +kernel
theorem dX0_init_48 : decode cX0_init 48 = .ok (.putfield 32, 3) := by decide +kernel
theorem dX0_init_51 : decode cX0_init 51 = .ok (.return_, 1) := by decide +kernel
theorem dX0_begin_0 : decode cX0_begin 0 = .ok (.aload_n 0, 1) := by decide +kernel
theorem dX0_begin_1 : decode cX0_begin 1 = .ok (.aload_n 1, 1) := by decide +kernel
theorem dX0_begin_2 : decode cX0_begin 2 = .ok (.invokevirtual 35, 3) := by decide +kernel
theorem dX0_begin_5 : decode cX0_begin 5 = .ok (.aload_n 0, 1) := by decide +kernel
theorem dX0_begin_6 : decode cX0_begin 6 = .ok (.aload_n 1, 1) := by decide +kernel
theorem dX0_begin_7 : decode cX0_begin 7 = .ok (.invokevirtual 39, 3) := by decide +kernel
theorem dX0_begin_10 : decode cX0_begin 10 = .ok (.return_, 1) := by decide +kernel
theorem dX0_byColours_0 : decode cX0_byColours 0 = .ok (.aload_n 0, 1) := by decide +kernel
theorem dX0_byColours_1 : decode cX0_byColours 1 = .ok (.iconst 0, 1) := by decide +kernel
theorem dX0_byColours_2 : decode cX0_byColours 2 = .ok (.putfield 9, 3) := by decide +kernel
theorem dX0_byColours_5 : decode cX0_byColours 5 = .ok (.aload_n 0, 1) := by decide +kernel
theorem dX0_byColours_6 : decode cX0_byColours 6 = .ok (.iconst 0, 1) := by decide +kernel
theorem dX0_byColours_7 : decode cX0_byColours 7 = .ok (.putfield 15, 3) := by decide +kernel
theorem dX0_byColours_10 : decode cX0_byColours 10 = .ok (.iconst 0, 1) := by decide +kernel
theorem dX0_byColours_11 : decode cX0_byColours 11 = .ok (.istore_n 2, 1) := by decide +kernel
theorem dX0_byColours_12 : decode cX0_byColours 12 = .ok (.iload_n 2, 1) := by decide +kernel
theorem dX0_byColours_13 : decode cX0_byColours 13 = .ok (.bipush 10, 2) := by decide +kernel
theorem dX0_byColours_15 : decode cX0_byColours 15 = .ok (.if_icmp .ge 91, 3) := by decide +kernel
theorem dX0_byColours_18 : decode cX0_byColours 18 = .ok (.aload_n 0, 1) := by decide +kernel
theorem dX0_byColours_19 : decode cX0_byColours 19 = .ok (.getfield 9, 3) := by decide +kernel
theorem dX0_byColours_22 : decode cX0_byColours 22 = .ok (.bipush 7, 2) := by decide +kernel
theorem dX0_byColours_24 : decode cX0_byColours 24 = .ok (.if_icmp .ge 82, 3) := by decide +kernel
theorem dX0_byColours_27 : decode cX0_byColours 27 = .ok (.iconst 0, 1) := by decide +kernel
theorem dX0_byColours_28 : decode cX0_byColours 28 = .ok (.istore_n 3, 1) := by decide +kernel
theorem dX0_byColours_29 : decode cX0_byColours 29 = .ok (.iconst 0, 1) := by decide +kernel
theorem dX0_byColours_30 : decode cX0_byColours 30 = .ok (.istore 4, 2) := by decide +kernel
theorem dX0_byColours_32 : decode cX0_byColours 32 = .ok (.iload 4, 2) := by decide +kernel
theorem dX0_byColours_34 : decode cX0_byColours 34 = .ok (.aload_n 1, 1) := by decide +kernel
theorem dX0_byColours_35 : decode cX0_byColours 35 = .ok (.getfield 42, 3) := by decide +kernel
theorem dX0_byColours_38 : decode cX0_byColours 38 = .ok (.if_icmp .ge 27, 3) := by decide +kernel
theorem dX0_byColours_41 : decode cX0_byColours 41 = .ok (.aload_n 1, 1) := by decide +kernel
theorem dX0_byColours_42 : decode cX0_byColours 42 = .ok (.getfield 45, 3) := by decide +kernel
theorem dX0_byColours_45 : decode cX0_byColours 45 = .ok (.iload 4, 2) := by decide +kernel
theorem dX0_byColours_47 : decode cX0_byColours 47 = .ok (.iaload, 1) := by decide +kernel
theorem dX0_byColours_48 : decode cX0_byColours 48 = .ok (.iload_n 2, 1) := by decide +kernel
theorem dX0_byColours_49 : decode cX0_byColours 49 = .ok (.if_icmp .ne 10, 3) := by decide +kernel
theorem dX0_byColours_52 : decode cX0_byColours 52 = .ok (.iload_n 3, 1) := by decide +kernel
theorem dX0_byColours_53 : decode cX0_byColours 53 = .ok (.iconst 1, 1) := by decide +kernel
theorem dX0_byColours_54 : decode cX0_byColours 54 = .ok (.iload 4, 2) := by decide +kernel
theorem dX0_byColours_56 : decode cX0_byColours 56 = .ok (.ishl, 1) := by decide +kernel
theorem dX0_byColours_57 : decode cX0_byColours 57 = .ok (.ior, 1) := by decide +kernel
theorem dX0_byColours_58 : decode cX0_byColours 58 = .ok (.istore_n 3, 1) := by decide +kernel
theorem dX0_byColours_59 : decode cX0_byColours 59 = .ok (.iinc 4 1, 3) := by decide +kernel
theorem dX0_byColours_62 : decode cX0_byColours 62 = .ok (.goto (-30), 3) := by decide +kernel
theorem dX0_byColours_65 : decode cX0_byColours 65 = .ok (.iload_n 3, 1) := by decide +kernel
theorem dX0_byColours_66 : decode cX0_byColours 66 = .ok (.ifCond .eq 34, 3) := by decide +kernel
theorem dX0_byColours_69 : decode cX0_byColours 69 = .ok (.aload_n 0, 1) := by decide +kernel
theorem dX0_byColours_70 : decode cX0_byColours 70 = .ok (.getfield 18, 3) := by decide +kernel
theorem dX0_byColours_73 : decode cX0_byColours 73 = .ok (.aload_n 0, 1) := by decide +kernel
theorem dX0_byColours_74 : decode cX0_byColours 74 = .ok (.getfield 9, 3) := by decide +kernel
theorem dX0_byColours_77 : decode cX0_byColours 77 = .ok (.iload_n 3, 1) := by decide +kernel
theorem dX0_byColours_78 : decode cX0_byColours 78 = .ok (.iastore, 1) := by decide +kernel
theorem dX0_byColours_79 : decode cX0_byColours 79 = .ok (.aload_n 0, 1) := by decide +kernel
theorem dX0_byColours_80 : decode cX0_byColours 80 = .ok (.getfield 22, 3) := by decide +kernel
theorem dX0_byColours_83 : decode cX0_byColours 83 = .ok (.aload_n 0, 1) := by decide +kernel
theorem dX0_byColours_84 : decode cX0_byColours 84 = .ok (.getfield 9, 3) := by decide +kernel
theorem dX0_byColours_87 : decode cX0_byColours 87 = .ok (.iload_n 2, 1) := by decide +kernel
theorem dX0_byColours_88 : decode cX0_byColours 88 = .ok (.i2l, 1) := by decide +kernel
theorem dX0_byColours_89 : decode cX0_byColours 89 = .ok (.lastore, 1) := by decide +kernel
theorem dX0_byColours_90 : decode cX0_byColours 90 = .ok (.aload_n 0, 1) := by decide +kernel
theorem dX0_byColours_91 : decode cX0_byColours 91 = .ok (.dup, 1) := by decide +kernel
theorem dX0_byColours_92 : decode cX0_byColours 92 = .ok (.getfield 9, 3) := by decide +kernel
theorem dX0_byColours_95 : decode cX0_byColours 95 = .ok (.iconst 1, 1) := by decide +kernel
theorem dX0_byColours_96 : decode cX0_byColours 96 = .ok (.iadd, 1) := by decide +kernel
theorem dX0_byColours_97 : decode cX0_byColours 97 = .ok (.putfield 9, 3) := by decide +kernel
theorem dX0_byColours_100 : decode cX0_byColours 100 = .ok (.iinc 2 1, 3) := by decide +kernel
theorem dX0_byColours_103 : decode cX0_byColours 103 = .ok (.goto (-91), 3) := by decide +kernel
theorem dX0_byColours_106 : decode cX0_byColours 106 = .ok (.return_, 1) := by decide +kernel
theorem dX0_refine_0 : decode cX0_refine 0 = .ok (.aload_n 0, 1) := by decide +kernel
theorem dX0_refine_1 : decode cX0_refine 1 = .ok (.iconst 0, 1) := by decide +kernel
theorem dX0_refine_2 : decode cX0_refine 2 = .ok (.putfield 15, 3) := by decide +kernel
theorem dX0_refine_5 : decode cX0_refine 5 = .ok (.aload_n 0, 1) := by decide +kernel
theorem dX0_refine_6 : decode cX0_refine 6 = .ok (.getfield 9, 3) := by decide +kernel
theorem dX0_refine_9 : decode cX0_refine 9 = .ok (.aload_n 1, 1) := by decide +kernel
theorem dX0_refine_10 : decode cX0_refine 10 = .ok (.getfield 42, 3) := by decide +kernel
theorem dX0_refine_13 : decode cX0_refine 13 = .ok (.if_icmp .ge 33, 3) := by decide +kernel
theorem dX0_refine_16 : decode cX0_refine 16 = .ok (.aload_n 0, 1) := by decide +kernel
theorem dX0_refine_17 : decode cX0_refine 17 = .ok (.getfield 15, 3) := by decide +kernel
theorem dX0_refine_20 : decode cX0_refine 20 = .ok (.bipush 7, 2) := by decide +kernel
theorem dX0_refine_22 : decode cX0_refine 22 = .ok (.if_icmp .ge 24, 3) := by decide +kernel
theorem dX0_refine_25 : decode cX0_refine 25 = .ok (.aload_n 0, 1) := by decide +kernel
theorem dX0_refine_26 : decode cX0_refine 26 = .ok (.aload_n 1, 1) := by decide +kernel
theorem dX0_refine_27 : decode cX0_refine 27 = .ok (.invokevirtual 48, 3) := by decide +kernel
theorem dX0_refine_30 : decode cX0_refine 30 = .ok (.ifCond .eq 16, 3) := by decide +kernel
theorem dX0_refine_33 : decode cX0_refine 33 = .ok (.aload_n 0, 1) := by decide +kernel
theorem dX0_refine_34 : decode cX0_refine 34 = .ok (.dup, 1) := by decide +kernel
theorem dX0_refine_35 : decode cX0_refine 35 = .ok (.getfield 15, 3) := by decide +kernel
theorem dX0_refine_38 : decode cX0_refine 38 = .ok (.iconst 1, 1) := by decide +kernel
theorem dX0_refine_39 : decode cX0_refine 39 = .ok (.iadd, 1) := by decide +kernel
theorem dX0_refine_40 : decode cX0_refine 40 = .ok (.putfield 15, 3) := by decide +kernel
theorem dX0_refine_43 : decode cX0_refine 43 = .ok (.goto (-38), 3) := by decide +kernel
theorem dX0_refine_46 : decode cX0_refine 46 = .ok (.return_, 1) := by decide +kernel
theorem dX0_divide_0 : decode cX0_divide 0 = .ok (.iconst 0, 1) := by decide +kernel
theorem dX0_divide_1 : decode cX0_divide 1 = .ok (.istore_n 2, 1) := by decide +kernel
theorem dX0_divide_2 : decode cX0_divide 2 = .ok (.iload_n 2, 1) := by decide +kernel
theorem dX0_divide_3 : decode cX0_divide 3 = .ok (.aload_n 1, 1) := by decide +kernel
theorem dX0_divide_4 : decode cX0_divide 4 = .ok (.getfield 42, 3) := by decide +kernel
theorem dX0_divide_7 : decode cX0_divide 7 = .ok (.if_icmp .ge 21, 3) := by decide +kernel
theorem dX0_divide_10 : decode cX0_divide 10 = .ok (.aload_n 0, 1) := by decide +kernel
theorem dX0_divide_11 : decode cX0_divide 11 = .ok (.getfield 26, 3) := by decide +kernel
theorem dX0_divide_14 : decode cX0_divide 14 = .ok (.iload_n 2, 1) := by decide +kernel
theorem dX0_divide_15 : decode cX0_divide 15 = .ok (.aload_n 0, 1) := by decide +kernel
theorem dX0_divide_16 : decode cX0_divide 16 = .ok (.aload_n 1, 1) := by decide +kernel
theorem dX0_divide_17 : decode cX0_divide 17 = .ok (.iload_n 2, 1) := by decide +kernel
theorem dX0_divide_18 : decode cX0_divide 18 = .ok (.invokevirtual 52, 3) := by decide +kernel
theorem dX0_divide_21 : decode cX0_divide 21 = .ok (.lastore, 1) := by decide +kernel
theorem dX0_divide_22 : decode cX0_divide 22 = .ok (.iinc 2 1, 3) := by decide +kernel
theorem dX0_divide_25 : decode cX0_divide 25 = .ok (.goto (-23), 3) := by decide +kernel
theorem dX0_divide_28 : decode cX0_divide 28 = .ok (.aload_n 0, 1) := by decide +kernel
theorem dX0_divide_29 : decode cX0_divide 29 = .ok (.iconst 0, 1) := by decide +kernel
theorem dX0_divide_30 : decode cX0_divide 30 = .ok (.putfield 32, 3) := by decide +kernel
theorem dX0_divide_33 : decode cX0_divide 33 = .ok (.iconst 0, 1) := by decide +kernel
theorem dX0_divide_34 : decode cX0_divide 34 = .ok (.istore_n 2, 1) := by decide +kernel
theorem dX0_divide_35 : decode cX0_divide 35 = .ok (.iload_n 2, 1) := by decide +kernel
theorem dX0_divide_36 : decode cX0_divide 36 = .ok (.aload_n 0, 1) := by decide +kernel
theorem dX0_divide_37 : decode cX0_divide 37 = .ok (.getfield 9, 3) := by decide +kernel
theorem dX0_divide_40 : decode cX0_divide 40 = .ok (.if_icmp .ge 19, 3) := by decide +kernel
theorem dX0_divide_43 : decode cX0_divide 43 = .ok (.aload_n 0, 1) := by decide +kernel
theorem dX0_divide_44 : decode cX0_divide 44 = .ok (.aload_n 0, 1) := by decide +kernel
theorem dX0_divide_45 : decode cX0_divide 45 = .ok (.getfield 18, 3) := by decide +kernel
theorem dX0_divide_48 : decode cX0_divide 48 = .ok (.iload_n 2, 1) := by decide +kernel
theorem dX0_divide_49 : decode cX0_divide 49 = .ok (.iaload, 1) := by decide +kernel
theorem dX0_divide_50 : decode cX0_divide 50 = .ok (.invokevirtual 56, 3) := by decide +kernel
theorem dX0_divide_53 : decode cX0_divide 53 = .ok (.iinc 2 1, 3) := by decide +kernel
theorem dX0_divide_56 : decode cX0_divide 56 = .ok (.goto (-21), 3) := by decide +kernel
theorem dX0_divide_59 : decode cX0_divide 59 = .ok (.aload_n 0, 1) := by decide +kernel
theorem dX0_divide_60 : decode cX0_divide 60 = .ok (.getfield 32, 3) := by decide +kernel
theorem dX0_divide_63 : decode cX0_divide 63 = .ok (.aload_n 0, 1) := by decide +kernel
theorem dX0_divide_64 : decode cX0_divide 64 = .ok (.getfield 9, 3) := by decide +kernel
theorem dX0_divide_67 : decode cX0_divide 67 = .ok (.if_icmp .le 7, 3) := by decide +kernel
theorem dX0_divide_70 : decode cX0_divide 70 = .ok (.iconst 1, 1) := by decide +kernel
theorem dX0_divide_71 : decode cX0_divide 71 = .ok (.goto 4, 3) := by decide +kernel
theorem dX0_divide_74 : decode cX0_divide 74 = .ok (.iconst 0, 1) := by decide +kernel
theorem dX0_divide_75 : decode cX0_divide 75 = .ok (.istore_n 2, 1) := by decide +kernel
theorem dX0_divide_76 : decode cX0_divide 76 = .ok (.aload_n 0, 1) := by decide +kernel
theorem dX0_divide_77 : decode cX0_divide 77 = .ok (.aload_n 0, 1) := by decide +kernel
theorem dX0_divide_78 : decode cX0_divide 78 = .ok (.getfield 32, 3) := by decide +kernel
theorem dX0_divide_81 : decode cX0_divide 81 = .ok (.putfield 9, 3) := by decide +kernel
theorem dX0_divide_84 : decode cX0_divide 84 = .ok (.aload_n 0, 1) := by decide +kernel
theorem dX0_divide_85 : decode cX0_divide 85 = .ok (.getfield 29, 3) := by decide +kernel
theorem dX0_divide_88 : decode cX0_divide 88 = .ok (.iconst 0, 1) := by decide +kernel
theorem dX0_divide_89 : decode cX0_divide 89 = .ok (.aload_n 0, 1) := by decide +kernel
theorem dX0_divide_90 : decode cX0_divide 90 = .ok (.getfield 18, 3) := by decide +kernel
theorem dX0_divide_93 : decode cX0_divide 93 = .ok (.iconst 0, 1) := by decide +kernel
theorem dX0_divide_94 : decode cX0_divide 94 = .ok (.aload_n 0, 1) := by decide +kernel
theorem dX0_divide_95 : decode cX0_divide 95 = .ok (.getfield 9, 3) := by decide +kernel
theorem dX0_divide_98 : decode cX0_divide 98 = .ok (.invokestatic 60, 3) := by decide +kernel
theorem dX0_divide_101 : decode cX0_divide 101 = .ok (.iload_n 2, 1) := by decide +kernel
theorem dX0_divide_102 : decode cX0_divide 102 = .ok (.ireturn, 1) := by decide +kernel
theorem dX0_signOf_0 : decode cX0_signOf 0 = .ok (.lconst 0, 1) := by decide +kernel
theorem dX0_signOf_1 : decode cX0_signOf 1 = .ok (.lstore_n 3, 1) := by decide +kernel
theorem dX0_signOf_2 : decode cX0_signOf 2 = .ok (.iconst 0, 1) := by decide +kernel
theorem dX0_signOf_3 : decode cX0_signOf 3 = .ok (.istore 5, 2) := by decide +kernel
theorem dX0_signOf_5 : decode cX0_signOf 5 = .ok (.iload 5, 2) := by decide +kernel
theorem dX0_signOf_7 : decode cX0_signOf 7 = .ok (.aload_n 0, 1) := by decide +kernel
theorem dX0_signOf_8 : decode cX0_signOf 8 = .ok (.getfield 9, 3) := by decide +kernel
theorem dX0_signOf_11 : decode cX0_signOf 11 = .ok (.if_icmp .ge 50, 3) := by decide +kernel
theorem dX0_signOf_14 : decode cX0_signOf 14 = .ok (.iconst 1, 1) := by decide +kernel
theorem dX0_signOf_15 : decode cX0_signOf 15 = .ok (.istore 6, 2) := by decide +kernel
theorem dX0_signOf_17 : decode cX0_signOf 17 = .ok (.iload 6, 2) := by decide +kernel
theorem dX0_signOf_19 : decode cX0_signOf 19 = .ok (.iconst 4, 1) := by decide +kernel
theorem dX0_signOf_20 : decode cX0_signOf 20 = .ok (.if_icmp .ge 35, 3) := by decide +kernel
theorem dX0_signOf_23 : decode cX0_signOf 23 = .ok (.lload_n 3, 1) := by decide +kernel
theorem dX0_signOf_24 : decode cX0_signOf 24 = .ok (.iconst 3, 1) := by decide +kernel
theorem dX0_signOf_25 : decode cX0_signOf 25 = .ok (.lshl, 1) := by decide +kernel
theorem dX0_signOf_26 : decode cX0_signOf 26 = .ok (.aload_n 1, 1) := by decide +kernel
theorem dX0_signOf_27 : decode cX0_signOf 27 = .ok (.getfield 66, 3) := by decide +kernel
theorem dX0_signOf_30 : decode cX0_signOf 30 = .ok (.iload 6, 2) := by decide +kernel
theorem dX0_signOf_32 : decode cX0_signOf 32 = .ok (.aaload, 1) := by decide +kernel
theorem dX0_signOf_33 : decode cX0_signOf 33 = .ok (.iload_n 2, 1) := by decide +kernel
theorem dX0_signOf_34 : decode cX0_signOf 34 = .ok (.iaload, 1) := by decide +kernel
theorem dX0_signOf_35 : decode cX0_signOf 35 = .ok (.aload_n 0, 1) := by decide +kernel
theorem dX0_signOf_36 : decode cX0_signOf 36 = .ok (.getfield 18, 3) := by decide +kernel
theorem dX0_signOf_39 : decode cX0_signOf 39 = .ok (.iload 5, 2) := by decide +kernel
theorem dX0_signOf_41 : decode cX0_signOf 41 = .ok (.iaload, 1) := by decide +kernel
theorem dX0_signOf_42 : decode cX0_signOf 42 = .ok (.iand, 1) := by decide +kernel
theorem dX0_signOf_43 : decode cX0_signOf 43 = .ok (.invokestatic 70, 3) := by decide +kernel
theorem dX0_signOf_46 : decode cX0_signOf 46 = .ok (.i2l, 1) := by decide +kernel
theorem dX0_signOf_47 : decode cX0_signOf 47 = .ok (.lor, 1) := by decide +kernel
theorem dX0_signOf_48 : decode cX0_signOf 48 = .ok (.lstore_n 3, 1) := by decide +kernel
theorem dX0_signOf_49 : decode cX0_signOf 49 = .ok (.iinc 6 1, 3) := by decide +kernel
theorem dX0_signOf_52 : decode cX0_signOf 52 = .ok (.goto (-35), 3) := by decide +kernel
theorem dX0_signOf_55 : decode cX0_signOf 55 = .ok (.iinc 5 1, 3) := by decide +kernel
theorem dX0_signOf_58 : decode cX0_signOf 58 = .ok (.goto (-53), 3) := by decide +kernel
theorem dX0_signOf_61 : decode cX0_signOf 61 = .ok (.lload_n 3, 1) := by decide +kernel
theorem dX0_signOf_62 : decode cX0_signOf 62 = .ok (.lreturn, 1) := by decide +kernel
theorem dX0_split_0 : decode cX0_split 0 = .ok (.iload_n 1, 1) := by decide +kernel
theorem dX0_split_1 : decode cX0_split 1 = .ok (.istore_n 2, 1) := by decide +kernel
theorem dX0_split_2 : decode cX0_split 2 = .ok (.iload_n 2, 1) := by decide +kernel
theorem dX0_split_3 : decode cX0_split 3 = .ok (.ifCond .eq 133, 3) := by decide +kernel
theorem dX0_split_6 : decode cX0_split 6 = .ok (.aload_n 0, 1) := by decide +kernel
theorem dX0_split_7 : decode cX0_split 7 = .ok (.getfield 32, 3) := by decide +kernel
theorem dX0_split_10 : decode cX0_split 10 = .ok (.bipush 7, 2) := by decide +kernel
theorem dX0_split_12 : decode cX0_split 12 = .ok (.if_icmp .ge 124, 3) := by decide +kernel
theorem dX0_split_15 : decode cX0_split 15 = .ok (.ldc2_w 76, 3) := by decide +kernel
theorem dX0_split_18 : decode cX0_split 18 = .ok (.lstore_n 3, 1) := by decide +kernel
theorem dX0_split_19 : decode cX0_split 19 = .ok (.iconst 0, 1) := by decide +kernel
theorem dX0_split_20 : decode cX0_split 20 = .ok (.istore 5, 2) := by decide +kernel
theorem dX0_split_22 : decode cX0_split 22 = .ok (.iconst 0, 1) := by decide +kernel
theorem dX0_split_23 : decode cX0_split 23 = .ok (.istore 6, 2) := by decide +kernel
theorem dX0_split_25 : decode cX0_split 25 = .ok (.iload 6, 2) := by decide +kernel
theorem dX0_split_27 : decode cX0_split 27 = .ok (.bipush 7, 2) := by decide +kernel
theorem dX0_split_29 : decode cX0_split 29 = .ok (.if_icmp .ge 66, 3) := by decide +kernel
theorem dX0_split_32 : decode cX0_split 32 = .ok (.iload_n 2, 1) := by decide +kernel
theorem dX0_split_33 : decode cX0_split 33 = .ok (.iload 6, 2) := by decide +kernel
theorem dX0_split_35 : decode cX0_split 35 = .ok (.ishr, 1) := by decide +kernel
theorem dX0_split_36 : decode cX0_split 36 = .ok (.iconst 1, 1) := by decide +kernel
theorem dX0_split_37 : decode cX0_split 37 = .ok (.iand, 1) := by decide +kernel
theorem dX0_split_38 : decode cX0_split 38 = .ok (.ifCond .eq 51, 3) := by decide +kernel
theorem dX0_split_41 : decode cX0_split 41 = .ok (.aload_n 0, 1) := by decide +kernel
theorem dX0_split_42 : decode cX0_split 42 = .ok (.getfield 26, 3) := by decide +kernel
theorem dX0_split_45 : decode cX0_split 45 = .ok (.iload 6, 2) := by decide +kernel
theorem dX0_split_47 : decode cX0_split 47 = .ok (.laload, 1) := by decide +kernel
theorem dX0_split_48 : decode cX0_split 48 = .ok (.lload_n 3, 1) := by decide +kernel
theorem dX0_split_49 : decode cX0_split 49 = .ok (.lcmp, 1) := by decide +kernel
theorem dX0_split_50 : decode cX0_split 50 = .ok (.ifCond .gt 39, 3) := by decide +kernel
theorem dX0_split_53 : decode cX0_split 53 = .ok (.aload_n 0, 1) := by decide +kernel
theorem dX0_split_54 : decode cX0_split 54 = .ok (.getfield 26, 3) := by decide +kernel
theorem dX0_split_57 : decode cX0_split 57 = .ok (.iload 6, 2) := by decide +kernel
theorem dX0_split_59 : decode cX0_split 59 = .ok (.laload, 1) := by decide +kernel
theorem dX0_split_60 : decode cX0_split 60 = .ok (.lload_n 3, 1) := by decide +kernel
theorem dX0_split_61 : decode cX0_split 61 = .ok (.lcmp, 1) := by decide +kernel
theorem dX0_split_62 : decode cX0_split 62 = .ok (.ifCond .ge 10, 3) := by decide +kernel
theorem dX0_split_65 : decode cX0_split 65 = .ok (.iconst 1, 1) := by decide +kernel
theorem dX0_split_66 : decode cX0_split 66 = .ok (.iload 6, 2) := by decide +kernel
theorem dX0_split_68 : decode cX0_split 68 = .ok (.ishl, 1) := by decide +kernel
theorem dX0_split_69 : decode cX0_split 69 = .ok (.goto 10, 3) := by decide +kernel
theorem dX0_split_72 : decode cX0_split 72 = .ok (.iload 5, 2) := by decide +kernel
theorem dX0_split_74 : decode cX0_split 74 = .ok (.iconst 1, 1) := by decide +kernel
theorem dX0_split_75 : decode cX0_split 75 = .ok (.iload 6, 2) := by decide +kernel
theorem dX0_split_77 : decode cX0_split 77 = .ok (.ishl, 1) := by decide +kernel
theorem dX0_split_78 : decode cX0_split 78 = .ok (.ior, 1) := by decide +kernel
theorem dX0_split_79 : decode cX0_split 79 = .ok (.istore 5, 2) := by decide +kernel
theorem dX0_split_81 : decode cX0_split 81 = .ok (.aload_n 0, 1) := by decide +kernel
theorem dX0_split_82 : decode cX0_split 82 = .ok (.getfield 26, 3) := by decide +kernel
theorem dX0_split_85 : decode cX0_split 85 = .ok (.iload 6, 2) := by decide +kernel
theorem dX0_split_87 : decode cX0_split 87 = .ok (.laload, 1) := by decide +kernel
theorem dX0_split_88 : decode cX0_split 88 = .ok (.lstore_n 3, 1) := by decide +kernel
theorem dX0_split_89 : decode cX0_split 89 = .ok (.iinc 6 1, 3) := by decide +kernel
theorem dX0_split_92 : decode cX0_split 92 = .ok (.goto (-67), 3) := by decide +kernel
theorem dX0_split_95 : decode cX0_split 95 = .ok (.aload_n 0, 1) := by decide +kernel
theorem dX0_split_96 : decode cX0_split 96 = .ok (.getfield 29, 3) := by decide +kernel
theorem dX0_split_99 : decode cX0_split 99 = .ok (.aload_n 0, 1) := by decide +kernel
theorem dX0_split_100 : decode cX0_split 100 = .ok (.getfield 32, 3) := by decide +kernel
theorem dX0_split_103 : decode cX0_split 103 = .ok (.iload 5, 2) := by decide +kernel
theorem dX0_split_105 : decode cX0_split 105 = .ok (.iastore, 1) := by decide +kernel
theorem dX0_split_106 : decode cX0_split 106 = .ok (.aload_n 0, 1) := by decide +kernel
theorem dX0_split_107 : decode cX0_split 107 = .ok (.getfield 22, 3) := by decide +kernel
theorem dX0_split_110 : decode cX0_split 110 = .ok (.aload_n 0, 1) := by decide +kernel
theorem dX0_split_111 : decode cX0_split 111 = .ok (.getfield 32, 3) := by decide +kernel
theorem dX0_split_114 : decode cX0_split 114 = .ok (.lload_n 3, 1) := by decide +kernel
theorem dX0_split_115 : decode cX0_split 115 = .ok (.lastore, 1) := by decide +kernel
theorem dX0_split_116 : decode cX0_split 116 = .ok (.aload_n 0, 1) := by decide +kernel
theorem dX0_split_117 : decode cX0_split 117 = .ok (.dup, 1) := by decide +kernel
theorem dX0_split_118 : decode cX0_split 118 = .ok (.getfield 32, 3) := by decide +kernel
theorem dX0_split_121 : decode cX0_split 121 = .ok (.iconst 1, 1) := by decide +kernel
theorem dX0_split_122 : decode cX0_split 122 = .ok (.iadd, 1) := by decide +kernel
theorem dX0_split_123 : decode cX0_split 123 = .ok (.putfield 32, 3) := by decide +kernel
theorem dX0_split_126 : decode cX0_split 126 = .ok (.iload_n 2, 1) := by decide +kernel
theorem dX0_split_127 : decode cX0_split 127 = .ok (.iload 5, 2) := by decide +kernel
theorem dX0_split_129 : decode cX0_split 129 = .ok (.iconst (-1), 1) := by decide +kernel
theorem dX0_split_130 : decode cX0_split 130 = .ok (.ixor, 1) := by decide +kernel
theorem dX0_split_131 : decode cX0_split 131 = .ok (.iand, 1) := by decide +kernel
theorem dX0_split_132 : decode cX0_split 132 = .ok (.istore_n 2, 1) := by decide +kernel
theorem dX0_split_133 : decode cX0_split 133 = .ok (.goto (-131), 3) := by decide +kernel
theorem dX0_split_136 : decode cX0_split 136 = .ok (.return_, 1) := by decide +kernel
theorem dX0_putAhead_0 : decode cX0_putAhead 0 = .ok (.iconst 0, 1) := by decide +kernel
theorem dX0_putAhead_1 : decode cX0_putAhead 1 = .ok (.istore_n 2, 1) := by decide +kernel
theorem dX0_putAhead_2 : decode cX0_putAhead 2 = .ok (.iload_n 2, 1) := by decide +kernel
theorem dX0_putAhead_3 : decode cX0_putAhead 3 = .ok (.aload_n 0, 1) := by decide +kernel
theorem dX0_putAhead_4 : decode cX0_putAhead 4 = .ok (.getfield 9, 3) := by decide +kernel
theorem dX0_putAhead_7 : decode cX0_putAhead 7 = .ok (.if_icmp .ge 109, 3) := by decide +kernel
theorem dX0_putAhead_10 : decode cX0_putAhead 10 = .ok (.aload_n 0, 1) := by decide +kernel
theorem dX0_putAhead_11 : decode cX0_putAhead 11 = .ok (.getfield 18, 3) := by decide +kernel
theorem dX0_putAhead_14 : decode cX0_putAhead 14 = .ok (.iload_n 2, 1) := by decide +kernel
theorem dX0_putAhead_15 : decode cX0_putAhead 15 = .ok (.iaload, 1) := by decide +kernel
theorem dX0_putAhead_16 : decode cX0_putAhead 16 = .ok (.iload_n 1, 1) := by decide +kernel
theorem dX0_putAhead_17 : decode cX0_putAhead 17 = .ok (.invokestatic 78, 3) := by decide +kernel
theorem dX0_putAhead_20 : decode cX0_putAhead 20 = .ok (.ifCond .eq 90, 3) := by decide +kernel
theorem dX0_putAhead_23 : decode cX0_putAhead 23 = .ok (.aload_n 0, 1) := by decide +kernel
theorem dX0_putAhead_24 : decode cX0_putAhead 24 = .ok (.getfield 18, 3) := by decide +kernel
theorem dX0_putAhead_27 : decode cX0_putAhead 27 = .ok (.iload_n 2, 1) := by decide +kernel
theorem dX0_putAhead_28 : decode cX0_putAhead 28 = .ok (.iaload, 1) := by decide +kernel
theorem dX0_putAhead_29 : decode cX0_putAhead 29 = .ok (.iconst 1, 1) := by decide +kernel
theorem dX0_putAhead_30 : decode cX0_putAhead 30 = .ok (.iload_n 1, 1) := by decide +kernel
theorem dX0_putAhead_31 : decode cX0_putAhead 31 = .ok (.ishl, 1) := by decide +kernel
theorem dX0_putAhead_32 : decode cX0_putAhead 32 = .ok (.if_icmp .eq 78, 3) := by decide +kernel
theorem dX0_putAhead_35 : decode cX0_putAhead 35 = .ok (.aload_n 0, 1) := by decide +kernel
theorem dX0_putAhead_36 : decode cX0_putAhead 36 = .ok (.getfield 9, 3) := by decide +kernel
theorem dX0_putAhead_39 : decode cX0_putAhead 39 = .ok (.bipush 7, 2) := by decide +kernel
theorem dX0_putAhead_41 : decode cX0_putAhead 41 = .ok (.if_icmp .ge 69, 3) := by decide +kernel
theorem dX0_putAhead_44 : decode cX0_putAhead 44 = .ok (.aload_n 0, 1) := by decide +kernel
theorem dX0_putAhead_45 : decode cX0_putAhead 45 = .ok (.getfield 9, 3) := by decide +kernel
theorem dX0_putAhead_48 : decode cX0_putAhead 48 = .ok (.istore_n 3, 1) := by decide +kernel
theorem dX0_putAhead_49 : decode cX0_putAhead 49 = .ok (.iload_n 3, 1) := by decide +kernel
theorem dX0_putAhead_50 : decode cX0_putAhead 50 = .ok (.iload_n 2, 1) := by decide +kernel
theorem dX0_putAhead_51 : decode cX0_putAhead 51 = .ok (.if_icmp .le 23, 3) := by decide +kernel
theorem dX0_putAhead_54 : decode cX0_putAhead 54 = .ok (.aload_n 0, 1) := by decide +kernel
theorem dX0_putAhead_55 : decode cX0_putAhead 55 = .ok (.getfield 18, 3) := by decide +kernel
theorem dX0_putAhead_58 : decode cX0_putAhead 58 = .ok (.iload_n 3, 1) := by decide +kernel
theorem dX0_putAhead_59 : decode cX0_putAhead 59 = .ok (.aload_n 0, 1) := by decide +kernel
theorem dX0_putAhead_60 : decode cX0_putAhead 60 = .ok (.getfield 18, 3) := by decide +kernel
theorem dX0_putAhead_63 : decode cX0_putAhead 63 = .ok (.iload_n 3, 1) := by decide +kernel
theorem dX0_putAhead_64 : decode cX0_putAhead 64 = .ok (.iconst 1, 1) := by decide +kernel
theorem dX0_putAhead_65 : decode cX0_putAhead 65 = .ok (.isub, 1) := by decide +kernel
theorem dX0_putAhead_66 : decode cX0_putAhead 66 = .ok (.iaload, 1) := by decide +kernel
theorem dX0_putAhead_67 : decode cX0_putAhead 67 = .ok (.iastore, 1) := by decide +kernel
theorem dX0_putAhead_68 : decode cX0_putAhead 68 = .ok (.iinc 3 (-1), 3) := by decide +kernel
theorem dX0_putAhead_71 : decode cX0_putAhead 71 = .ok (.goto (-22), 3) := by decide +kernel
theorem dX0_putAhead_74 : decode cX0_putAhead 74 = .ok (.aload_n 0, 1) := by decide +kernel
theorem dX0_putAhead_75 : decode cX0_putAhead 75 = .ok (.getfield 18, 3) := by decide +kernel
theorem dX0_putAhead_78 : decode cX0_putAhead 78 = .ok (.iload_n 2, 1) := by decide +kernel
theorem dX0_putAhead_79 : decode cX0_putAhead 79 = .ok (.iconst 1, 1) := by decide +kernel
theorem dX0_putAhead_80 : decode cX0_putAhead 80 = .ok (.iload_n 1, 1) := by decide +kernel
theorem dX0_putAhead_81 : decode cX0_putAhead 81 = .ok (.ishl, 1) := by decide +kernel
theorem dX0_putAhead_82 : decode cX0_putAhead 82 = .ok (.iastore, 1) := by decide +kernel
theorem dX0_putAhead_83 : decode cX0_putAhead 83 = .ok (.aload_n 0, 1) := by decide +kernel
theorem dX0_putAhead_84 : decode cX0_putAhead 84 = .ok (.getfield 18, 3) := by decide +kernel
theorem dX0_putAhead_87 : decode cX0_putAhead 87 = .ok (.iload_n 2, 1) := by decide +kernel
theorem dX0_putAhead_88 : decode cX0_putAhead 88 = .ok (.iconst 1, 1) := by decide +kernel
theorem dX0_putAhead_89 : decode cX0_putAhead 89 = .ok (.iadd, 1) := by decide +kernel
theorem dX0_putAhead_90 : decode cX0_putAhead 90 = .ok (.dup2, 1) := by decide +kernel
theorem dX0_putAhead_91 : decode cX0_putAhead 91 = .ok (.iaload, 1) := by decide +kernel
theorem dX0_putAhead_92 : decode cX0_putAhead 92 = .ok (.iconst 1, 1) := by decide +kernel
theorem dX0_putAhead_93 : decode cX0_putAhead 93 = .ok (.iload_n 1, 1) := by decide +kernel
theorem dX0_putAhead_94 : decode cX0_putAhead 94 = .ok (.ishl, 1) := by decide +kernel
theorem dX0_putAhead_95 : decode cX0_putAhead 95 = .ok (.iconst (-1), 1) := by decide +kernel
theorem dX0_putAhead_96 : decode cX0_putAhead 96 = .ok (.ixor, 1) := by decide +kernel
theorem dX0_putAhead_97 : decode cX0_putAhead 97 = .ok (.iand, 1) := by decide +kernel
theorem dX0_putAhead_98 : decode cX0_putAhead 98 = .ok (.iastore, 1) := by decide +kernel
theorem dX0_putAhead_99 : decode cX0_putAhead 99 = .ok (.aload_n 0, 1) := by decide +kernel
theorem dX0_putAhead_100 : decode cX0_putAhead 100 = .ok (.dup, 1) := by decide +kernel
theorem dX0_putAhead_101 : decode cX0_putAhead 101 = .ok (.getfield 9, 3) := by decide +kernel
theorem dX0_putAhead_104 : decode cX0_putAhead 104 = .ok (.iconst 1, 1) := by decide +kernel
theorem dX0_putAhead_105 : decode cX0_putAhead 105 = .ok (.iadd, 1) := by decide +kernel
theorem dX0_putAhead_106 : decode cX0_putAhead 106 = .ok (.putfield 9, 3) := by decide +kernel
theorem dX0_putAhead_109 : decode cX0_putAhead 109 = .ok (.return_, 1) := by decide +kernel
theorem dX0_putAhead_110 : decode cX0_putAhead 110 = .ok (.iinc 2 1, 3) := by decide +kernel
theorem dX0_putAhead_113 : decode cX0_putAhead 113 = .ok (.goto (-111), 3) := by decide +kernel
theorem dX0_putAhead_116 : decode cX0_putAhead 116 = .ok (.return_, 1) := by decide +kernel
theorem dX0_target_0 : decode cX0_target 0 = .ok (.iconst 0, 1) := by decide +kernel
theorem dX0_target_1 : decode cX0_target 1 = .ok (.istore_n 1, 1) := by decide +kernel
theorem dX0_target_2 : decode cX0_target 2 = .ok (.iconst 0, 1) := by decide +kernel
theorem dX0_target_3 : decode cX0_target 3 = .ok (.istore_n 2, 1) := by decide +kernel
theorem dX0_target_4 : decode cX0_target 4 = .ok (.iload_n 2, 1) := by decide +kernel
theorem dX0_target_5 : decode cX0_target 5 = .ok (.aload_n 0, 1) := by decide +kernel
theorem dX0_target_6 : decode cX0_target 6 = .ok (.getfield 9, 3) := by decide +kernel
theorem dX0_target_9 : decode cX0_target 9 = .ok (.if_icmp .ge 43, 3) := by decide +kernel
theorem dX0_target_12 : decode cX0_target 12 = .ok (.aload_n 0, 1) := by decide +kernel
theorem dX0_target_13 : decode cX0_target 13 = .ok (.getfield 18, 3) := by decide +kernel
theorem dX0_target_16 : decode cX0_target 16 = .ok (.iload_n 2, 1) := by decide +kernel
theorem dX0_target_17 : decode cX0_target 17 = .ok (.iaload, 1) := by decide +kernel
theorem dX0_target_18 : decode cX0_target 18 = .ok (.invokestatic 70, 3) := by decide +kernel
theorem dX0_target_21 : decode cX0_target 21 = .ok (.istore_n 3, 1) := by decide +kernel
theorem dX0_target_22 : decode cX0_target 22 = .ok (.iload_n 3, 1) := by decide +kernel
theorem dX0_target_23 : decode cX0_target 23 = .ok (.iconst 1, 1) := by decide +kernel
theorem dX0_target_24 : decode cX0_target 24 = .ok (.if_icmp .le 22, 3) := by decide +kernel
theorem dX0_target_27 : decode cX0_target 27 = .ok (.iload_n 1, 1) := by decide +kernel
theorem dX0_target_28 : decode cX0_target 28 = .ok (.ifCond .eq 11, 3) := by decide +kernel
theorem dX0_target_31 : decode cX0_target 31 = .ok (.iload_n 3, 1) := by decide +kernel
theorem dX0_target_32 : decode cX0_target 32 = .ok (.iload_n 1, 1) := by decide +kernel
theorem dX0_target_33 : decode cX0_target 33 = .ok (.invokestatic 70, 3) := by decide +kernel
theorem dX0_target_36 : decode cX0_target 36 = .ok (.if_icmp .ge 10, 3) := by decide +kernel
theorem dX0_target_39 : decode cX0_target 39 = .ok (.aload_n 0, 1) := by decide +kernel
theorem dX0_target_40 : decode cX0_target 40 = .ok (.getfield 18, 3) := by decide +kernel
theorem dX0_target_43 : decode cX0_target 43 = .ok (.iload_n 2, 1) := by decide +kernel
theorem dX0_target_44 : decode cX0_target 44 = .ok (.iaload, 1) := by decide +kernel
theorem dX0_target_45 : decode cX0_target 45 = .ok (.istore_n 1, 1) := by decide +kernel
theorem dX0_target_46 : decode cX0_target 46 = .ok (.iinc 2 1, 3) := by decide +kernel
theorem dX0_target_49 : decode cX0_target 49 = .ok (.goto (-45), 3) := by decide +kernel
theorem dX0_target_52 : decode cX0_target 52 = .ok (.iload_n 1, 1) := by decide +kernel
theorem dX0_target_53 : decode cX0_target 53 = .ok (.ireturn, 1) := by decide +kernel
theorem dX0_mark_0 : decode cX0_mark 0 = .ok (.iconst 0, 1) := by decide +kernel
theorem dX0_mark_1 : decode cX0_mark 1 = .ok (.istore_n 1, 1) := by decide +kernel
theorem dX0_mark_2 : decode cX0_mark 2 = .ok (.iconst 0, 1) := by decide +kernel
theorem dX0_mark_3 : decode cX0_mark 3 = .ok (.istore_n 2, 1) := by decide +kernel
theorem dX0_mark_4 : decode cX0_mark 4 = .ok (.iload_n 2, 1) := by decide +kernel
theorem dX0_mark_5 : decode cX0_mark 5 = .ok (.aload_n 0, 1) := by decide +kernel
theorem dX0_mark_6 : decode cX0_mark 6 = .ok (.getfield 9, 3) := by decide +kernel
theorem dX0_mark_9 : decode cX0_mark 9 = .ok (.if_icmp .ge 24, 3) := by decide +kernel
theorem dX0_mark_12 : decode cX0_mark 12 = .ok (.bipush 10, 2) := by decide +kernel
theorem dX0_mark_14 : decode cX0_mark 14 = .ok (.iload_n 1, 1) := by decide +kernel
theorem dX0_mark_15 : decode cX0_mark 15 = .ok (.imul, 1) := by decide +kernel
theorem dX0_mark_16 : decode cX0_mark 16 = .ok (.aload_n 0, 1) := by decide +kernel
theorem dX0_mark_17 : decode cX0_mark 17 = .ok (.getfield 18, 3) := by decide +kernel
theorem dX0_mark_20 : decode cX0_mark 20 = .ok (.iload_n 2, 1) := by decide +kernel
theorem dX0_mark_21 : decode cX0_mark 21 = .ok (.iaload, 1) := by decide +kernel
theorem dX0_mark_22 : decode cX0_mark 22 = .ok (.invokestatic 70, 3) := by decide +kernel
theorem dX0_mark_25 : decode cX0_mark 25 = .ok (.iadd, 1) := by decide +kernel
theorem dX0_mark_26 : decode cX0_mark 26 = .ok (.istore_n 1, 1) := by decide +kernel
theorem dX0_mark_27 : decode cX0_mark 27 = .ok (.iinc 2 1, 3) := by decide +kernel
theorem dX0_mark_30 : decode cX0_mark 30 = .ok (.goto (-26), 3) := by decide +kernel
theorem dX0_mark_33 : decode cX0_mark 33 = .ok (.bipush 10, 2) := by decide +kernel
theorem dX0_mark_35 : decode cX0_mark 35 = .ok (.iload_n 1, 1) := by decide +kernel
theorem dX0_mark_36 : decode cX0_mark 36 = .ok (.imul, 1) := by decide +kernel
theorem dX0_mark_37 : decode cX0_mark 37 = .ok (.aload_n 0, 1) := by decide +kernel
theorem dX0_mark_38 : decode cX0_mark 38 = .ok (.getfield 15, 3) := by decide +kernel
theorem dX0_mark_41 : decode cX0_mark 41 = .ok (.iadd, 1) := by decide +kernel
theorem dX0_mark_42 : decode cX0_mark 42 = .ok (.ireturn, 1) := by decide +kernel
theorem dX0_take_0 : decode cX0_take 0 = .ok (.aload_n 0, 1) := by decide +kernel
theorem dX0_take_1 : decode cX0_take 1 = .ok (.aload_n 1, 1) := by decide +kernel
theorem dX0_take_2 : decode cX0_take 2 = .ok (.getfield 9, 3) := by decide +kernel
theorem dX0_take_5 : decode cX0_take 5 = .ok (.putfield 9, 3) := by decide +kernel
theorem dX0_take_8 : decode cX0_take 8 = .ok (.aload_n 0, 1) := by decide +kernel
theorem dX0_take_9 : decode cX0_take 9 = .ok (.aload_n 1, 1) := by decide +kernel
theorem dX0_take_10 : decode cX0_take 10 = .ok (.getfield 15, 3) := by decide +kernel
theorem dX0_take_13 : decode cX0_take 13 = .ok (.putfield 15, 3) := by decide +kernel
theorem dX0_take_16 : decode cX0_take 16 = .ok (.aload_n 1, 1) := by decide +kernel
theorem dX0_take_17 : decode cX0_take 17 = .ok (.getfield 18, 3) := by decide +kernel
theorem dX0_take_20 : decode cX0_take 20 = .ok (.iconst 0, 1) := by decide +kernel
theorem dX0_take_21 : decode cX0_take 21 = .ok (.aload_n 0, 1) := by decide +kernel
theorem dX0_take_22 : decode cX0_take 22 = .ok (.getfield 18, 3) := by decide +kernel
theorem dX0_take_25 : decode cX0_take 25 = .ok (.iconst 0, 1) := by decide +kernel
theorem dX0_take_26 : decode cX0_take 26 = .ok (.bipush 7, 2) := by decide +kernel
theorem dX0_take_28 : decode cX0_take 28 = .ok (.invokestatic 60, 3) := by decide +kernel
theorem dX0_take_31 : decode cX0_take 31 = .ok (.return_, 1) := by decide +kernel
theorem dX0_alike_0 : decode cX0_alike 0 = .ok (.aload_n 0, 1) := by decide +kernel
theorem dX0_alike_1 : decode cX0_alike 1 = .ok (.getfield 9, 3) := by decide +kernel
theorem dX0_alike_4 : decode cX0_alike 4 = .ok (.aload_n 1, 1) := by decide +kernel
theorem dX0_alike_5 : decode cX0_alike 5 = .ok (.getfield 9, 3) := by decide +kernel
theorem dX0_alike_8 : decode cX0_alike 8 = .ok (.if_icmp .eq 5, 3) := by decide +kernel
theorem dX0_alike_11 : decode cX0_alike 11 = .ok (.iconst 0, 1) := by decide +kernel
theorem dX0_alike_12 : decode cX0_alike 12 = .ok (.ireturn, 1) := by decide +kernel
theorem dX0_alike_13 : decode cX0_alike 13 = .ok (.iconst 0, 1) := by decide +kernel
theorem dX0_alike_14 : decode cX0_alike 14 = .ok (.istore_n 2, 1) := by decide +kernel
theorem dX0_alike_15 : decode cX0_alike 15 = .ok (.iload_n 2, 1) := by decide +kernel
theorem dX0_alike_16 : decode cX0_alike 16 = .ok (.aload_n 0, 1) := by decide +kernel
theorem dX0_alike_17 : decode cX0_alike 17 = .ok (.getfield 9, 3) := by decide +kernel
theorem dX0_alike_20 : decode cX0_alike 20 = .ok (.if_icmp .ge 48, 3) := by decide +kernel
theorem dX0_alike_23 : decode cX0_alike 23 = .ok (.aload_n 0, 1) := by decide +kernel
theorem dX0_alike_24 : decode cX0_alike 24 = .ok (.getfield 22, 3) := by decide +kernel
theorem dX0_alike_27 : decode cX0_alike 27 = .ok (.iload_n 2, 1) := by decide +kernel
theorem dX0_alike_28 : decode cX0_alike 28 = .ok (.laload, 1) := by decide +kernel
theorem dX0_alike_29 : decode cX0_alike 29 = .ok (.aload_n 1, 1) := by decide +kernel
theorem dX0_alike_30 : decode cX0_alike 30 = .ok (.getfield 22, 3) := by decide +kernel
theorem dX0_alike_33 : decode cX0_alike 33 = .ok (.iload_n 2, 1) := by decide +kernel
theorem dX0_alike_34 : decode cX0_alike 34 = .ok (.laload, 1) := by decide +kernel
theorem dX0_alike_35 : decode cX0_alike 35 = .ok (.lcmp, 1) := by decide +kernel
theorem dX0_alike_36 : decode cX0_alike 36 = .ok (.ifCond .ne 24, 3) := by decide +kernel
theorem dX0_alike_39 : decode cX0_alike 39 = .ok (.aload_n 0, 1) := by decide +kernel
theorem dX0_alike_40 : decode cX0_alike 40 = .ok (.getfield 18, 3) := by decide +kernel
theorem dX0_alike_43 : decode cX0_alike 43 = .ok (.iload_n 2, 1) := by decide +kernel
theorem dX0_alike_44 : decode cX0_alike 44 = .ok (.iaload, 1) := by decide +kernel
theorem dX0_alike_45 : decode cX0_alike 45 = .ok (.invokestatic 70, 3) := by decide +kernel
theorem dX0_alike_48 : decode cX0_alike 48 = .ok (.aload_n 1, 1) := by decide +kernel
theorem dX0_alike_49 : decode cX0_alike 49 = .ok (.getfield 18, 3) := by decide +kernel
theorem dX0_alike_52 : decode cX0_alike 52 = .ok (.iload_n 2, 1) := by decide +kernel
theorem dX0_alike_53 : decode cX0_alike 53 = .ok (.iaload, 1) := by decide +kernel
theorem dX0_alike_54 : decode cX0_alike 54 = .ok (.invokestatic 70, 3) := by decide +kernel
theorem dX0_alike_57 : decode cX0_alike 57 = .ok (.if_icmp .eq 5, 3) := by decide +kernel
theorem dX0_alike_60 : decode cX0_alike 60 = .ok (.iconst 0, 1) := by decide +kernel
theorem dX0_alike_61 : decode cX0_alike 61 = .ok (.ireturn, 1) := by decide +kernel
theorem dX0_alike_62 : decode cX0_alike 62 = .ok (.iinc 2 1, 3) := by decide +kernel
theorem dX0_alike_65 : decode cX0_alike 65 = .ok (.goto (-50), 3) := by decide +kernel
theorem dX0_alike_68 : decode cX0_alike 68 = .ok (.iconst 1, 1) := by decide +kernel
theorem dX0_alike_69 : decode cX0_alike 69 = .ok (.ireturn, 1) := by decide +kernel
theorem dX1_init_0 : decode cX1_init 0 = .ok (.aload_n 0, 1) := by decide +kernel
theorem dX1_init_1 : decode cX1_init 1 = .ok (.invokespecial 3, 3) := by decide +kernel
theorem dX1_init_4 : decode cX1_init 4 = .ok (.aload_n 0, 1) := by decide +kernel
theorem dX1_init_5 : decode cX1_init 5 = .ok (.iconst 1, 1) := by decide +kernel
theorem dX1_init_6 : decode cX1_init 6 = .ok (.putfield 9, 3) := by decide +kernel
theorem dX1_init_9 : decode cX1_init 9 = .ok (.aload_n 0, 1) := by decide +kernel
theorem dX1_init_10 : decode cX1_init 10 = .ok (.bipush 7, 2) := by decide +kernel
theorem dX1_init_12 : decode cX1_init 12 = .ok (.newarray .int, 2) := by decide +kernel
theorem dX1_init_14 : decode cX1_init 14 = .ok (.putfield 15, 3) := by decide +kernel
theorem dX1_init_17 : decode cX1_init 17 = .ok (.aload_n 0, 1) := by decide +kernel
theorem dX1_init_18 : decode cX1_init 18 = .ok (.bipush 7, 2) := by decide +kernel
theorem dX1_init_20 : decode cX1_init 20 = .ok (.bipush 7, 2) := by decide +kernel
theorem dX1_init_22 : decode cX1_init 22 = .ok (.multianewarray 19 2, 4) := by decide +kernel
theorem dX1_init_26 : decode cX1_init 26 = .ok (.putfield 21, 3) := by decide +kernel
theorem dX1_init_29 : decode cX1_init 29 = .ok (.aload_n 0, 1) := by decide +kernel
theorem dX1_init_30 : decode cX1_init 30 = .ok (.iconst 4, 1) := by decide +kernel
theorem dX1_init_31 : decode cX1_init 31 = .ok (.bipush 7, 2) := by decide +kernel
theorem dX1_init_33 : decode cX1_init 33 = .ok (.multianewarray 19 2, 4) := by decide +kernel
theorem dX1_init_37 : decode cX1_init 37 = .ok (.putfield 24, 3) := by decide +kernel
theorem dX1_init_40 : decode cX1_init 40 = .ok (.return_, 1) := by decide +kernel
theorem dX1_has_0 : decode cX1_has 0 = .ok (.iload_n 1, 1) := by decide +kernel
theorem dX1_has_1 : decode cX1_has 1 = .ok (.ifCond .lt 15, 3) := by decide +kernel
theorem dX1_has_4 : decode cX1_has 4 = .ok (.iload_n 1, 1) := by decide +kernel
theorem dX1_has_5 : decode cX1_has 5 = .ok (.aload_n 0, 1) := by decide +kernel
theorem dX1_has_6 : decode cX1_has 6 = .ok (.getfield 9, 3) := by decide +kernel
theorem dX1_has_9 : decode cX1_has 9 = .ok (.if_icmp .ge 7, 3) := by decide +kernel
theorem dX1_has_12 : decode cX1_has 12 = .ok (.iconst 1, 1) := by decide +kernel
theorem dX1_has_13 : decode cX1_has 13 = .ok (.goto 4, 3) := by decide +kernel
theorem dX1_has_16 : decode cX1_has 16 = .ok (.iconst 0, 1) := by decide +kernel
theorem dX1_has_17 : decode cX1_has 17 = .ok (.ireturn, 1) := by decide +kernel
theorem dX1_hasAll_0 : decode cX1_hasAll 0 = .ok (.iload_n 1, 1) := by decide +kernel
theorem dX1_hasAll_1 : decode cX1_hasAll 1 = .ok (.ifCond .lt 17, 3) := by decide +kernel
theorem dX1_hasAll_4 : decode cX1_hasAll 4 = .ok (.iload_n 1, 1) := by decide +kernel
theorem dX1_hasAll_5 : decode cX1_hasAll 5 = .ok (.iconst 1, 1) := by decide +kernel
theorem dX1_hasAll_6 : decode cX1_hasAll 6 = .ok (.aload_n 0, 1) := by decide +kernel
theorem dX1_hasAll_7 : decode cX1_hasAll 7 = .ok (.getfield 9, 3) := by decide +kernel
theorem dX1_hasAll_10 : decode cX1_hasAll 10 = .ok (.ishl, 1) := by decide +kernel
theorem dX1_hasAll_11 : decode cX1_hasAll 11 = .ok (.if_icmp .ge 7, 3) := by decide +kernel
theorem dX1_hasAll_14 : decode cX1_hasAll 14 = .ok (.iconst 1, 1) := by decide +kernel
theorem dX1_hasAll_15 : decode cX1_hasAll 15 = .ok (.goto 4, 3) := by decide +kernel
theorem dX1_hasAll_18 : decode cX1_hasAll 18 = .ok (.iconst 0, 1) := by decide +kernel
theorem dX1_hasAll_19 : decode cX1_hasAll 19 = .ok (.ireturn, 1) := by decide +kernel
theorem dX1_links_0 : decode cX1_links 0 = .ok (.iconst 0, 1) := by decide +kernel
theorem dX1_links_1 : decode cX1_links 1 = .ok (.istore_n 1, 1) := by decide +kernel
theorem dX1_links_2 : decode cX1_links 2 = .ok (.iconst 0, 1) := by decide +kernel
theorem dX1_links_3 : decode cX1_links 3 = .ok (.istore_n 2, 1) := by decide +kernel
theorem dX1_links_4 : decode cX1_links 4 = .ok (.iload_n 2, 1) := by decide +kernel
theorem dX1_links_5 : decode cX1_links 5 = .ok (.aload_n 0, 1) := by decide +kernel
theorem dX1_links_6 : decode cX1_links 6 = .ok (.getfield 9, 3) := by decide +kernel
theorem dX1_links_9 : decode cX1_links 9 = .ok (.if_icmp .ge 23, 3) := by decide +kernel
theorem dX1_links_12 : decode cX1_links 12 = .ok (.iload_n 1, 1) := by decide +kernel
theorem dX1_links_13 : decode cX1_links 13 = .ok (.aload_n 0, 1) := by decide +kernel
theorem dX1_links_14 : decode cX1_links 14 = .ok (.getfield 24, 3) := by decide +kernel
theorem dX1_links_17 : decode cX1_links 17 = .ok (.iconst 0, 1) := by decide +kernel
theorem dX1_links_18 : decode cX1_links 18 = .ok (.aaload, 1) := by decide +kernel
theorem dX1_links_19 : decode cX1_links 19 = .ok (.iload_n 2, 1) := by decide +kernel
theorem dX1_links_20 : decode cX1_links 20 = .ok (.iaload, 1) := by decide +kernel
theorem dX1_links_21 : decode cX1_links 21 = .ok (.invokestatic 27, 3) := by decide +kernel
theorem dX1_links_24 : decode cX1_links 24 = .ok (.iadd, 1) := by decide +kernel
theorem dX1_links_25 : decode cX1_links 25 = .ok (.istore_n 1, 1) := by decide +kernel
theorem dX1_links_26 : decode cX1_links 26 = .ok (.iinc 2 1, 3) := by decide +kernel
theorem dX1_links_29 : decode cX1_links 29 = .ok (.goto (-25), 3) := by decide +kernel
theorem dX1_links_32 : decode cX1_links 32 = .ok (.iload_n 1, 1) := by decide +kernel
theorem dX1_links_33 : decode cX1_links 33 = .ok (.iconst 2, 1) := by decide +kernel
theorem dX1_links_34 : decode cX1_links 34 = .ok (.idiv, 1) := by decide +kernel
theorem dX1_links_35 : decode cX1_links 35 = .ok (.ireturn, 1) := by decide +kernel
theorem dX1_mostLinks_0 : decode cX1_mostLinks 0 = .ok (.iconst 0, 1) := by decide +kernel
theorem dX1_mostLinks_1 : decode cX1_mostLinks 1 = .ok (.istore_n 1, 1) := by decide +kernel
theorem dX1_mostLinks_2 : decode cX1_mostLinks 2 = .ok (.iconst 0, 1) := by decide +kernel
theorem dX1_mostLinks_3 : decode cX1_mostLinks 3 = .ok (.istore_n 2, 1) := by decide +kernel
theorem dX1_mostLinks_4 : decode cX1_mostLinks 4 = .ok (.iload_n 2, 1) := by decide +kernel
theorem dX1_mostLinks_5 : decode cX1_mostLinks 5 = .ok (.aload_n 0, 1) := by decide +kernel
theorem dX1_mostLinks_6 : decode cX1_mostLinks 6 = .ok (.getfield 9, 3) := by decide +kernel
theorem dX1_mostLinks_9 : decode cX1_mostLinks 9 = .ok (.if_icmp .ge 25, 3) := by decide +kernel
theorem dX1_mostLinks_12 : decode cX1_mostLinks 12 = .ok (.iload_n 1, 1) := by decide +kernel
theorem dX1_mostLinks_13 : decode cX1_mostLinks 13 = .ok (.aload_n 0, 1) := by decide +kernel
theorem dX1_mostLinks_14 : decode cX1_mostLinks 14 = .ok (.getfield 24, 3) := by decide +kernel
theorem dX1_mostLinks_17 : decode cX1_mostLinks 17 = .ok (.iconst 0, 1) := by decide +kernel
theorem dX1_mostLinks_18 : decode cX1_mostLinks 18 = .ok (.aaload, 1) := by decide +kernel
theorem dX1_mostLinks_19 : decode cX1_mostLinks 19 = .ok (.iload_n 2, 1) := by decide +kernel
theorem dX1_mostLinks_20 : decode cX1_mostLinks 20 = .ok (.iaload, 1) := by decide +kernel
theorem dX1_mostLinks_21 : decode cX1_mostLinks 21 = .ok (.invokestatic 27, 3) := by decide +kernel
theorem dX1_mostLinks_24 : decode cX1_mostLinks 24 = .ok (.invokestatic 33, 3) := by decide +kernel
theorem dX1_mostLinks_27 : decode cX1_mostLinks 27 = .ok (.istore_n 1, 1) := by decide +kernel
theorem dX1_mostLinks_28 : decode cX1_mostLinks 28 = .ok (.iinc 2 1, 3) := by decide +kernel
theorem dX1_mostLinks_31 : decode cX1_mostLinks 31 = .ok (.goto (-27), 3) := by decide +kernel
theorem dX1_mostLinks_34 : decode cX1_mostLinks 34 = .ok (.iload_n 1, 1) := by decide +kernel
theorem dX1_mostLinks_35 : decode cX1_mostLinks 35 = .ok (.ireturn, 1) := by decide +kernel
theorem dX1_join_0 : decode cX1_join 0 = .ok (.iconst 0, 1) := by decide +kernel
theorem dX1_join_1 : decode cX1_join 1 = .ok (.istore 4, 2) := by decide +kernel
theorem dX1_join_3 : decode cX1_join 3 = .ok (.iload 4, 2) := by decide +kernel
theorem dX1_join_5 : decode cX1_join 5 = .ok (.iconst 4, 1) := by decide +kernel
theorem dX1_join_6 : decode cX1_join 6 = .ok (.if_icmp .ge 43, 3) := by decide +kernel
theorem dX1_join_9 : decode cX1_join 9 = .ok (.aload_n 0, 1) := by decide +kernel
theorem dX1_join_10 : decode cX1_join 10 = .ok (.getfield 24, 3) := by decide +kernel
theorem dX1_join_13 : decode cX1_join 13 = .ok (.iload 4, 2) := by decide +kernel
theorem dX1_join_15 : decode cX1_join 15 = .ok (.aaload, 1) := by decide +kernel
theorem dX1_join_16 : decode cX1_join 16 = .ok (.iload_n 1, 1) := by decide +kernel
theorem dX1_join_17 : decode cX1_join 17 = .ok (.dup2, 1) := by decide +kernel
theorem dX1_join_18 : decode cX1_join 18 = .ok (.iaload, 1) := by decide +kernel
theorem dX1_join_19 : decode cX1_join 19 = .ok (.iconst 1, 1) := by decide +kernel
theorem dX1_join_20 : decode cX1_join 20 = .ok (.iload_n 2, 1) := by decide +kernel
theorem dX1_join_21 : decode cX1_join 21 = .ok (.ishl, 1) := by decide +kernel
theorem dX1_join_22 : decode cX1_join 22 = .ok (.iconst (-1), 1) := by decide +kernel
theorem dX1_join_23 : decode cX1_join 23 = .ok (.ixor, 1) := by decide +kernel
theorem dX1_join_24 : decode cX1_join 24 = .ok (.iand, 1) := by decide +kernel
theorem dX1_join_25 : decode cX1_join 25 = .ok (.iastore, 1) := by decide +kernel
theorem dX1_join_26 : decode cX1_join 26 = .ok (.aload_n 0, 1) := by decide +kernel
theorem dX1_join_27 : decode cX1_join 27 = .ok (.getfield 24, 3) := by decide +kernel
theorem dX1_join_30 : decode cX1_join 30 = .ok (.iload 4, 2) := by decide +kernel
theorem dX1_join_32 : decode cX1_join 32 = .ok (.aaload, 1) := by decide +kernel
theorem dX1_join_33 : decode cX1_join 33 = .ok (.iload_n 2, 1) := by decide +kernel
theorem dX1_join_34 : decode cX1_join 34 = .ok (.dup2, 1) := by decide +kernel
theorem dX1_join_35 : decode cX1_join 35 = .ok (.iaload, 1) := by decide +kernel
theorem dX1_join_36 : decode cX1_join 36 = .ok (.iconst 1, 1) := by decide +kernel
theorem dX1_join_37 : decode cX1_join 37 = .ok (.iload_n 1, 1) := by decide +kernel
theorem dX1_join_38 : decode cX1_join 38 = .ok (.ishl, 1) := by decide +kernel
theorem dX1_join_39 : decode cX1_join 39 = .ok (.iconst (-1), 1) := by decide +kernel
theorem dX1_join_40 : decode cX1_join 40 = .ok (.ixor, 1) := by decide +kernel
theorem dX1_join_41 : decode cX1_join 41 = .ok (.iand, 1) := by decide +kernel
theorem dX1_join_42 : decode cX1_join 42 = .ok (.iastore, 1) := by decide +kernel
theorem dX1_join_43 : decode cX1_join 43 = .ok (.iinc 4 1, 3) := by decide +kernel
theorem dX1_join_46 : decode cX1_join 46 = .ok (.goto (-43), 3) := by decide +kernel
theorem dX1_join_49 : decode cX1_join 49 = .ok (.aload_n 0, 1) := by decide +kernel
theorem dX1_join_50 : decode cX1_join 50 = .ok (.getfield 21, 3) := by decide +kernel
theorem dX1_join_53 : decode cX1_join 53 = .ok (.iload_n 1, 1) := by decide +kernel
theorem dX1_join_54 : decode cX1_join 54 = .ok (.aaload, 1) := by decide +kernel
theorem dX1_join_55 : decode cX1_join 55 = .ok (.iload_n 2, 1) := by decide +kernel
theorem dX1_join_56 : decode cX1_join 56 = .ok (.iload_n 3, 1) := by decide +kernel
theorem dX1_join_57 : decode cX1_join 57 = .ok (.iastore, 1) := by decide +kernel
theorem dX1_join_58 : decode cX1_join 58 = .ok (.aload_n 0, 1) := by decide +kernel
theorem dX1_join_59 : decode cX1_join 59 = .ok (.getfield 21, 3) := by decide +kernel
theorem dX1_join_62 : decode cX1_join 62 = .ok (.iload_n 2, 1) := by decide +kernel
theorem dX1_join_63 : decode cX1_join 63 = .ok (.aaload, 1) := by decide +kernel
theorem dX1_join_64 : decode cX1_join 64 = .ok (.iload_n 1, 1) := by decide +kernel
theorem dX1_join_65 : decode cX1_join 65 = .ok (.iload_n 3, 1) := by decide +kernel
theorem dX1_join_66 : decode cX1_join 66 = .ok (.iastore, 1) := by decide +kernel
theorem dX1_join_67 : decode cX1_join 67 = .ok (.iload_n 3, 1) := by decide +kernel
theorem dX1_join_68 : decode cX1_join 68 = .ok (.ifCond .eq 59, 3) := by decide +kernel
theorem dX1_join_71 : decode cX1_join 71 = .ok (.aload_n 0, 1) := by decide +kernel
theorem dX1_join_72 : decode cX1_join 72 = .ok (.getfield 24, 3) := by decide +kernel
theorem dX1_join_75 : decode cX1_join 75 = .ok (.iconst 0, 1) := by decide +kernel
theorem dX1_join_76 : decode cX1_join 76 = .ok (.aaload, 1) := by decide +kernel
theorem dX1_join_77 : decode cX1_join 77 = .ok (.iload_n 1, 1) := by decide +kernel
theorem dX1_join_78 : decode cX1_join 78 = .ok (.dup2, 1) := by decide +kernel
theorem dX1_join_79 : decode cX1_join 79 = .ok (.iaload, 1) := by decide +kernel
theorem dX1_join_80 : decode cX1_join 80 = .ok (.iconst 1, 1) := by decide +kernel
theorem dX1_join_81 : decode cX1_join 81 = .ok (.iload_n 2, 1) := by decide +kernel
theorem dX1_join_82 : decode cX1_join 82 = .ok (.ishl, 1) := by decide +kernel
theorem dX1_join_83 : decode cX1_join 83 = .ok (.ior, 1) := by decide +kernel
theorem dX1_join_84 : decode cX1_join 84 = .ok (.iastore, 1) := by decide +kernel
theorem dX1_join_85 : decode cX1_join 85 = .ok (.aload_n 0, 1) := by decide +kernel
theorem dX1_join_86 : decode cX1_join 86 = .ok (.getfield 24, 3) := by decide +kernel
theorem dX1_join_89 : decode cX1_join 89 = .ok (.iconst 0, 1) := by decide +kernel
theorem dX1_join_90 : decode cX1_join 90 = .ok (.aaload, 1) := by decide +kernel
theorem dX1_join_91 : decode cX1_join 91 = .ok (.iload_n 2, 1) := by decide +kernel
theorem dX1_join_92 : decode cX1_join 92 = .ok (.dup2, 1) := by decide +kernel
theorem dX1_join_93 : decode cX1_join 93 = .ok (.iaload, 1) := by decide +kernel
theorem dX1_join_94 : decode cX1_join 94 = .ok (.iconst 1, 1) := by decide +kernel
theorem dX1_join_95 : decode cX1_join 95 = .ok (.iload_n 1, 1) := by decide +kernel
theorem dX1_join_96 : decode cX1_join 96 = .ok (.ishl, 1) := by decide +kernel
theorem dX1_join_97 : decode cX1_join 97 = .ok (.ior, 1) := by decide +kernel
theorem dX1_join_98 : decode cX1_join 98 = .ok (.iastore, 1) := by decide +kernel
theorem dX1_join_99 : decode cX1_join 99 = .ok (.aload_n 0, 1) := by decide +kernel
theorem dX1_join_100 : decode cX1_join 100 = .ok (.getfield 24, 3) := by decide +kernel
theorem dX1_join_103 : decode cX1_join 103 = .ok (.iload_n 3, 1) := by decide +kernel
theorem dX1_join_104 : decode cX1_join 104 = .ok (.aaload, 1) := by decide +kernel
theorem dX1_join_105 : decode cX1_join 105 = .ok (.iload_n 1, 1) := by decide +kernel
theorem dX1_join_106 : decode cX1_join 106 = .ok (.dup2, 1) := by decide +kernel
theorem dX1_join_107 : decode cX1_join 107 = .ok (.iaload, 1) := by decide +kernel
theorem dX1_join_108 : decode cX1_join 108 = .ok (.iconst 1, 1) := by decide +kernel
theorem dX1_join_109 : decode cX1_join 109 = .ok (.iload_n 2, 1) := by decide +kernel
theorem dX1_join_110 : decode cX1_join 110 = .ok (.ishl, 1) := by decide +kernel
theorem dX1_join_111 : decode cX1_join 111 = .ok (.ior, 1) := by decide +kernel
theorem dX1_join_112 : decode cX1_join 112 = .ok (.iastore, 1) := by decide +kernel
theorem dX1_join_113 : decode cX1_join 113 = .ok (.aload_n 0, 1) := by decide +kernel
theorem dX1_join_114 : decode cX1_join 114 = .ok (.getfield 24, 3) := by decide +kernel
theorem dX1_join_117 : decode cX1_join 117 = .ok (.iload_n 3, 1) := by decide +kernel
theorem dX1_join_118 : decode cX1_join 118 = .ok (.aaload, 1) := by decide +kernel
theorem dX1_join_119 : decode cX1_join 119 = .ok (.iload_n 2, 1) := by decide +kernel
theorem dX1_join_120 : decode cX1_join 120 = .ok (.dup2, 1) := by decide +kernel
theorem dX1_join_121 : decode cX1_join 121 = .ok (.iaload, 1) := by decide +kernel
theorem dX1_join_122 : decode cX1_join 122 = .ok (.iconst 1, 1) := by decide +kernel
theorem dX1_join_123 : decode cX1_join 123 = .ok (.iload_n 1, 1) := by decide +kernel
theorem dX1_join_124 : decode cX1_join 124 = .ok (.ishl, 1) := by decide +kernel
theorem dX1_join_125 : decode cX1_join 125 = .ok (.ior, 1) := by decide +kernel
theorem dX1_join_126 : decode cX1_join 126 = .ok (.iastore, 1) := by decide +kernel
theorem dX1_join_127 : decode cX1_join 127 = .ok (.return_, 1) := by decide +kernel
theorem dX1_exchange_0 : decode cX1_exchange 0 = .ok (.aload_n 0, 1) := by decide +kernel
theorem dX1_exchange_1 : decode cX1_exchange 1 = .ok (.getfield 15, 3) := by decide +kernel
theorem dX1_exchange_4 : decode cX1_exchange 4 = .ok (.iload_n 1, 1) := by decide +kernel
theorem dX1_exchange_5 : decode cX1_exchange 5 = .ok (.iaload, 1) := by decide +kernel
theorem dX1_exchange_6 : decode cX1_exchange 6 = .ok (.istore_n 3, 1) := by decide +kernel
theorem dX1_exchange_7 : decode cX1_exchange 7 = .ok (.aload_n 0, 1) := by decide +kernel
theorem dX1_exchange_8 : decode cX1_exchange 8 = .ok (.getfield 15, 3) := by decide +kernel
theorem dX1_exchange_11 : decode cX1_exchange 11 = .ok (.iload_n 1, 1) := by decide +kernel
theorem dX1_exchange_12 : decode cX1_exchange 12 = .ok (.aload_n 0, 1) := by decide +kernel
theorem dX1_exchange_13 : decode cX1_exchange 13 = .ok (.getfield 15, 3) := by decide +kernel
theorem dX1_exchange_16 : decode cX1_exchange 16 = .ok (.iload_n 2, 1) := by decide +kernel
theorem dX1_exchange_17 : decode cX1_exchange 17 = .ok (.iaload, 1) := by decide +kernel
theorem dX1_exchange_18 : decode cX1_exchange 18 = .ok (.iastore, 1) := by decide +kernel
theorem dX1_exchange_19 : decode cX1_exchange 19 = .ok (.aload_n 0, 1) := by decide +kernel
theorem dX1_exchange_20 : decode cX1_exchange 20 = .ok (.getfield 15, 3) := by decide +kernel
theorem dX1_exchange_23 : decode cX1_exchange 23 = .ok (.iload_n 2, 1) := by decide +kernel
theorem dX1_exchange_24 : decode cX1_exchange 24 = .ok (.iload_n 3, 1) := by decide +kernel
theorem dX1_exchange_25 : decode cX1_exchange 25 = .ok (.iastore, 1) := by decide +kernel
theorem dX1_exchange_26 : decode cX1_exchange 26 = .ok (.iconst 0, 1) := by decide +kernel
theorem dX1_exchange_27 : decode cX1_exchange 27 = .ok (.istore 4, 2) := by decide +kernel
theorem dX1_exchange_29 : decode cX1_exchange 29 = .ok (.iload 4, 2) := by decide +kernel
theorem dX1_exchange_31 : decode cX1_exchange 31 = .ok (.aload_n 0, 1) := by decide +kernel
theorem dX1_exchange_32 : decode cX1_exchange 32 = .ok (.getfield 9, 3) := by decide +kernel
theorem dX1_exchange_35 : decode cX1_exchange 35 = .ok (.if_icmp .ge 57, 3) := by decide +kernel
theorem dX1_exchange_38 : decode cX1_exchange 38 = .ok (.iload 4, 2) := by decide +kernel
theorem dX1_exchange_40 : decode cX1_exchange 40 = .ok (.iload_n 1, 1) := by decide +kernel
theorem dX1_exchange_41 : decode cX1_exchange 41 = .ok (.if_icmp .eq 45, 3) := by decide +kernel
theorem dX1_exchange_44 : decode cX1_exchange 44 = .ok (.iload 4, 2) := by decide +kernel
theorem dX1_exchange_46 : decode cX1_exchange 46 = .ok (.iload_n 2, 1) := by decide +kernel
theorem dX1_exchange_47 : decode cX1_exchange 47 = .ok (.if_icmp .eq 39, 3) := by decide +kernel
theorem dX1_exchange_50 : decode cX1_exchange 50 = .ok (.aload_n 0, 1) := by decide +kernel
theorem dX1_exchange_51 : decode cX1_exchange 51 = .ok (.getfield 21, 3) := by decide +kernel
theorem dX1_exchange_54 : decode cX1_exchange 54 = .ok (.iload_n 1, 1) := by decide +kernel
theorem dX1_exchange_55 : decode cX1_exchange 55 = .ok (.aaload, 1) := by decide +kernel
theorem dX1_exchange_56 : decode cX1_exchange 56 = .ok (.iload 4, 2) := by decide +kernel
theorem dX1_exchange_58 : decode cX1_exchange 58 = .ok (.iaload, 1) := by decide +kernel
theorem dX1_exchange_59 : decode cX1_exchange 59 = .ok (.istore 5, 2) := by decide +kernel
theorem dX1_exchange_61 : decode cX1_exchange 61 = .ok (.aload_n 0, 1) := by decide +kernel
theorem dX1_exchange_62 : decode cX1_exchange 62 = .ok (.iload_n 1, 1) := by decide +kernel
theorem dX1_exchange_63 : decode cX1_exchange 63 = .ok (.iload 4, 2) := by decide +kernel
theorem dX1_exchange_65 : decode cX1_exchange 65 = .ok (.aload_n 0, 1) := by decide +kernel
theorem dX1_exchange_66 : decode cX1_exchange 66 = .ok (.getfield 21, 3) := by decide +kernel
theorem dX1_exchange_69 : decode cX1_exchange 69 = .ok (.iload_n 2, 1) := by decide +kernel
theorem dX1_exchange_70 : decode cX1_exchange 70 = .ok (.aaload, 1) := by decide +kernel
theorem dX1_exchange_71 : decode cX1_exchange 71 = .ok (.iload 4, 2) := by decide +kernel
theorem dX1_exchange_73 : decode cX1_exchange 73 = .ok (.iaload, 1) := by decide +kernel
theorem dX1_exchange_74 : decode cX1_exchange 74 = .ok (.invokevirtual 39, 3) := by decide +kernel
theorem dX1_exchange_77 : decode cX1_exchange 77 = .ok (.aload_n 0, 1) := by decide +kernel
theorem dX1_exchange_78 : decode cX1_exchange 78 = .ok (.iload_n 2, 1) := by decide +kernel
theorem dX1_exchange_79 : decode cX1_exchange 79 = .ok (.iload 4, 2) := by decide +kernel
theorem dX1_exchange_81 : decode cX1_exchange 81 = .ok (.iload 5, 2) := by decide +kernel
theorem dX1_exchange_83 : decode cX1_exchange 83 = .ok (.invokevirtual 39, 3) := by decide +kernel
theorem dX1_exchange_86 : decode cX1_exchange 86 = .ok (.iinc 4 1, 3) := by decide +kernel
theorem dX1_exchange_89 : decode cX1_exchange 89 = .ok (.goto (-60), 3) := by decide +kernel
theorem dX1_exchange_92 : decode cX1_exchange 92 = .ok (.return_, 1) := by decide +kernel
theorem dX1_mix_0 : decode cX1_mix 0 = .ok (.iconst 0, 1) := by decide +kernel
theorem dX1_mix_1 : decode cX1_mix 1 = .ok (.istore_n 2, 1) := by decide +kernel
theorem dX1_mix_2 : decode cX1_mix 2 = .ok (.iload_n 1, 1) := by decide +kernel
theorem dX1_mix_3 : decode cX1_mix 3 = .ok (.i2l, 1) := by decide +kernel
theorem dX1_mix_4 : decode cX1_mix 4 = .ok (.lstore_n 3, 1) := by decide +kernel
theorem dX1_mix_5 : decode cX1_mix 5 = .ok (.aload_n 0, 1) := by decide +kernel
theorem dX1_mix_6 : decode cX1_mix 6 = .ok (.getfield 9, 3) := by decide +kernel
theorem dX1_mix_9 : decode cX1_mix 9 = .ok (.iconst 1, 1) := by decide +kernel
theorem dX1_mix_10 : decode cX1_mix 10 = .ok (.isub, 1) := by decide +kernel
theorem dX1_mix_11 : decode cX1_mix 11 = .ok (.istore 5, 2) := by decide +kernel
theorem dX1_mix_13 : decode cX1_mix 13 = .ok (.iload 5, 2) := by decide +kernel
theorem dX1_mix_15 : decode cX1_mix 15 = .ok (.ifCond .le 47, 3) := by decide +kernel
theorem dX1_mix_18 : decode cX1_mix 18 = .ok (.ldc2_w 43, 3) := by decide +kernel
theorem dX1_mix_21 : decode cX1_mix 21 = .ok (.lload_n 3, 1) := by decide +kernel
theorem dX1_mix_22 : decode cX1_mix 22 = .ok (.lmul, 1) := by decide +kernel
theorem dX1_mix_23 : decode cX1_mix 23 = .ok (.ldc2_w 45, 3) := by decide +kernel
theorem dX1_mix_26 : decode cX1_mix 26 = .ok (.lrem, 1) := by decide +kernel
theorem dX1_mix_27 : decode cX1_mix 27 = .ok (.lstore_n 3, 1) := by decide +kernel
theorem dX1_mix_28 : decode cX1_mix 28 = .ok (.lload_n 3, 1) := by decide +kernel
theorem dX1_mix_29 : decode cX1_mix 29 = .ok (.iload 5, 2) := by decide +kernel
theorem dX1_mix_31 : decode cX1_mix 31 = .ok (.iconst 1, 1) := by decide +kernel
theorem dX1_mix_32 : decode cX1_mix 32 = .ok (.iadd, 1) := by decide +kernel
theorem dX1_mix_33 : decode cX1_mix 33 = .ok (.i2l, 1) := by decide +kernel
theorem dX1_mix_34 : decode cX1_mix 34 = .ok (.lrem, 1) := by decide +kernel
theorem dX1_mix_35 : decode cX1_mix 35 = .ok (.l2i, 1) := by decide +kernel
theorem dX1_mix_36 : decode cX1_mix 36 = .ok (.istore 6, 2) := by decide +kernel
theorem dX1_mix_38 : decode cX1_mix 38 = .ok (.iload 6, 2) := by decide +kernel
theorem dX1_mix_40 : decode cX1_mix 40 = .ok (.iload 5, 2) := by decide +kernel
theorem dX1_mix_42 : decode cX1_mix 42 = .ok (.if_icmp .eq 14, 3) := by decide +kernel
theorem dX1_mix_45 : decode cX1_mix 45 = .ok (.aload_n 0, 1) := by decide +kernel
theorem dX1_mix_46 : decode cX1_mix 46 = .ok (.iload 5, 2) := by decide +kernel
theorem dX1_mix_48 : decode cX1_mix 48 = .ok (.iload 6, 2) := by decide +kernel
theorem dX1_mix_50 : decode cX1_mix 50 = .ok (.invokevirtual 47, 3) := by decide +kernel
theorem dX1_mix_53 : decode cX1_mix 53 = .ok (.iinc 2 1, 3) := by decide +kernel
theorem dX1_mix_56 : decode cX1_mix 56 = .ok (.iinc 5 (-1), 3) := by decide +kernel
theorem dX1_mix_59 : decode cX1_mix 59 = .ok (.goto (-46), 3) := by decide +kernel
theorem dX1_mix_62 : decode cX1_mix 62 = .ok (.iload_n 2, 1) := by decide +kernel
theorem dX1_mix_63 : decode cX1_mix 63 = .ok (.ireturn, 1) := by decide +kernel
theorem dX1_turnKinds_0 : decode cX1_turnKinds 0 = .ok (.iconst 0, 1) := by decide +kernel
theorem dX1_turnKinds_1 : decode cX1_turnKinds 1 = .ok (.istore_n 1, 1) := by decide +kernel
theorem dX1_turnKinds_2 : decode cX1_turnKinds 2 = .ok (.iload_n 1, 1) := by decide +kernel
theorem dX1_turnKinds_3 : decode cX1_turnKinds 3 = .ok (.aload_n 0, 1) := by decide +kernel
theorem dX1_turnKinds_4 : decode cX1_turnKinds 4 = .ok (.getfield 9, 3) := by decide +kernel
theorem dX1_turnKinds_7 : decode cX1_turnKinds 7 = .ok (.if_icmp .ge 38, 3) := by decide +kernel
theorem dX1_turnKinds_10 : decode cX1_turnKinds 10 = .ok (.iconst 0, 1) := by decide +kernel
theorem dX1_turnKinds_11 : decode cX1_turnKinds 11 = .ok (.istore_n 2, 1) := by decide +kernel
theorem dX1_turnKinds_12 : decode cX1_turnKinds 12 = .ok (.iload_n 2, 1) := by decide +kernel
theorem dX1_turnKinds_13 : decode cX1_turnKinds 13 = .ok (.iload_n 1, 1) := by decide +kernel
theorem dX1_turnKinds_14 : decode cX1_turnKinds 14 = .ok (.if_icmp .ge 25, 3) := by decide +kernel
theorem dX1_turnKinds_17 : decode cX1_turnKinds 17 = .ok (.aload_n 0, 1) := by decide +kernel
theorem dX1_turnKinds_18 : decode cX1_turnKinds 18 = .ok (.iload_n 1, 1) := by decide +kernel
theorem dX1_turnKinds_19 : decode cX1_turnKinds 19 = .ok (.iload_n 2, 1) := by decide +kernel
theorem dX1_turnKinds_20 : decode cX1_turnKinds 20 = .ok (.aload_n 0, 1) := by decide +kernel
theorem dX1_turnKinds_21 : decode cX1_turnKinds 21 = .ok (.getfield 21, 3) := by decide +kernel
theorem dX1_turnKinds_24 : decode cX1_turnKinds 24 = .ok (.iload_n 1, 1) := by decide +kernel
theorem dX1_turnKinds_25 : decode cX1_turnKinds 25 = .ok (.aaload, 1) := by decide +kernel
theorem dX1_turnKinds_26 : decode cX1_turnKinds 26 = .ok (.iload_n 2, 1) := by decide +kernel
theorem dX1_turnKinds_27 : decode cX1_turnKinds 27 = .ok (.iaload, 1) := by decide +kernel
theorem dX1_turnKinds_28 : decode cX1_turnKinds 28 = .ok (.iconst 1, 1) := by decide +kernel
theorem dX1_turnKinds_29 : decode cX1_turnKinds 29 = .ok (.ixor, 1) := by decide +kernel
theorem dX1_turnKinds_30 : decode cX1_turnKinds 30 = .ok (.invokevirtual 39, 3) := by decide +kernel
theorem dX1_turnKinds_33 : decode cX1_turnKinds 33 = .ok (.iinc 2 1, 3) := by decide +kernel
theorem dX1_turnKinds_36 : decode cX1_turnKinds 36 = .ok (.goto (-24), 3) := by decide +kernel
theorem dX1_turnKinds_39 : decode cX1_turnKinds 39 = .ok (.iinc 1 1, 3) := by decide +kernel
theorem dX1_turnKinds_42 : decode cX1_turnKinds 42 = .ok (.goto (-40), 3) := by decide +kernel
theorem dX1_turnKinds_45 : decode cX1_turnKinds 45 = .ok (.return_, 1) := by decide +kernel
theorem dX1_lose_0 : decode cX1_lose 0 = .ok (.aload_n 0, 1) := by decide +kernel
theorem dX1_lose_1 : decode cX1_lose 1 = .ok (.getfield 9, 3) := by decide +kernel
theorem dX1_lose_4 : decode cX1_lose 4 = .ok (.iconst 1, 1) := by decide +kernel
theorem dX1_lose_5 : decode cX1_lose 5 = .ok (.isub, 1) := by decide +kernel
theorem dX1_lose_6 : decode cX1_lose 6 = .ok (.istore_n 2, 1) := by decide +kernel
theorem dX1_lose_7 : decode cX1_lose 7 = .ok (.iload_n 1, 1) := by decide +kernel
theorem dX1_lose_8 : decode cX1_lose 8 = .ok (.istore_n 3, 1) := by decide +kernel
theorem dX1_lose_9 : decode cX1_lose 9 = .ok (.iload_n 3, 1) := by decide +kernel
theorem dX1_lose_10 : decode cX1_lose 10 = .ok (.iload_n 2, 1) := by decide +kernel
theorem dX1_lose_11 : decode cX1_lose 11 = .ok (.if_icmp .ge 17, 3) := by decide +kernel
theorem dX1_lose_14 : decode cX1_lose 14 = .ok (.aload_n 0, 1) := by decide +kernel
theorem dX1_lose_15 : decode cX1_lose 15 = .ok (.iload_n 3, 1) := by decide +kernel
theorem dX1_lose_16 : decode cX1_lose 16 = .ok (.iload_n 3, 1) := by decide +kernel
theorem dX1_lose_17 : decode cX1_lose 17 = .ok (.iconst 1, 1) := by decide +kernel
theorem dX1_lose_18 : decode cX1_lose 18 = .ok (.iadd, 1) := by decide +kernel
theorem dX1_lose_19 : decode cX1_lose 19 = .ok (.invokevirtual 47, 3) := by decide +kernel
theorem dX1_lose_22 : decode cX1_lose 22 = .ok (.iinc 3 1, 3) := by decide +kernel
theorem dX1_lose_25 : decode cX1_lose 25 = .ok (.goto (-16), 3) := by decide +kernel
theorem dX1_lose_28 : decode cX1_lose 28 = .ok (.iconst 0, 1) := by decide +kernel
theorem dX1_lose_29 : decode cX1_lose 29 = .ok (.istore_n 3, 1) := by decide +kernel
theorem dX1_lose_30 : decode cX1_lose 30 = .ok (.iload_n 3, 1) := by decide +kernel
theorem dX1_lose_31 : decode cX1_lose 31 = .ok (.iload_n 2, 1) := by decide +kernel
theorem dX1_lose_32 : decode cX1_lose 32 = .ok (.if_icmp .ge 16, 3) := by decide +kernel
theorem dX1_lose_35 : decode cX1_lose 35 = .ok (.aload_n 0, 1) := by decide +kernel
theorem dX1_lose_36 : decode cX1_lose 36 = .ok (.iload_n 3, 1) := by decide +kernel
theorem dX1_lose_37 : decode cX1_lose 37 = .ok (.iload_n 2, 1) := by decide +kernel
theorem dX1_lose_38 : decode cX1_lose 38 = .ok (.iconst 0, 1) := by decide +kernel
theorem dX1_lose_39 : decode cX1_lose 39 = .ok (.invokevirtual 39, 3) := by decide +kernel
theorem dX1_lose_42 : decode cX1_lose 42 = .ok (.iinc 3 1, 3) := by decide +kernel
theorem dX1_lose_45 : decode cX1_lose 45 = .ok (.goto (-15), 3) := by decide +kernel
theorem dX1_lose_48 : decode cX1_lose 48 = .ok (.aload_n 0, 1) := by decide +kernel
theorem dX1_lose_49 : decode cX1_lose 49 = .ok (.getfield 15, 3) := by decide +kernel
theorem dX1_lose_52 : decode cX1_lose 52 = .ok (.iload_n 2, 1) := by decide +kernel
theorem dX1_lose_53 : decode cX1_lose 53 = .ok (.iconst 0, 1) := by decide +kernel
theorem dX1_lose_54 : decode cX1_lose 54 = .ok (.iastore, 1) := by decide +kernel
theorem dX1_lose_55 : decode cX1_lose 55 = .ok (.aload_n 0, 1) := by decide +kernel
theorem dX1_lose_56 : decode cX1_lose 56 = .ok (.iload_n 2, 1) := by decide +kernel
theorem dX1_lose_57 : decode cX1_lose 57 = .ok (.putfield 9, 3) := by decide +kernel
theorem dX1_lose_60 : decode cX1_lose 60 = .ok (.return_, 1) := by decide +kernel
theorem dX1_gain_0 : decode cX1_gain 0 = .ok (.aload_n 0, 1) := by decide +kernel
theorem dX1_gain_1 : decode cX1_gain 1 = .ok (.getfield 9, 3) := by decide +kernel
theorem dX1_gain_4 : decode cX1_gain 4 = .ok (.istore_n 3, 1) := by decide +kernel
theorem dX1_gain_5 : decode cX1_gain 5 = .ok (.aload_n 0, 1) := by decide +kernel
theorem dX1_gain_6 : decode cX1_gain 6 = .ok (.dup, 1) := by decide +kernel
theorem dX1_gain_7 : decode cX1_gain 7 = .ok (.getfield 9, 3) := by decide +kernel
theorem dX1_gain_10 : decode cX1_gain 10 = .ok (.iconst 1, 1) := by decide +kernel
theorem dX1_gain_11 : decode cX1_gain 11 = .ok (.iadd, 1) := by decide +kernel
theorem dX1_gain_12 : decode cX1_gain 12 = .ok (.putfield 9, 3) := by decide +kernel
theorem dX1_gain_15 : decode cX1_gain 15 = .ok (.aload_n 0, 1) := by decide +kernel
theorem dX1_gain_16 : decode cX1_gain 16 = .ok (.getfield 15, 3) := by decide +kernel
theorem dX1_gain_19 : decode cX1_gain 19 = .ok (.iload_n 3, 1) := by decide +kernel
theorem dX1_gain_20 : decode cX1_gain 20 = .ok (.iload_n 2, 1) := by decide +kernel
theorem dX1_gain_21 : decode cX1_gain 21 = .ok (.iastore, 1) := by decide +kernel
theorem dX1_gain_22 : decode cX1_gain 22 = .ok (.iconst 0, 1) := by decide +kernel
theorem dX1_gain_23 : decode cX1_gain 23 = .ok (.istore 4, 2) := by decide +kernel
theorem dX1_gain_25 : decode cX1_gain 25 = .ok (.iload 4, 2) := by decide +kernel
theorem dX1_gain_27 : decode cX1_gain 27 = .ok (.iload_n 3, 1) := by decide +kernel
theorem dX1_gain_28 : decode cX1_gain 28 = .ok (.if_icmp .ge 30, 3) := by decide +kernel
theorem dX1_gain_31 : decode cX1_gain 31 = .ok (.aload_n 0, 1) := by decide +kernel
theorem dX1_gain_32 : decode cX1_gain 32 = .ok (.iload 4, 2) := by decide +kernel
theorem dX1_gain_34 : decode cX1_gain 34 = .ok (.iload_n 3, 1) := by decide +kernel
theorem dX1_gain_35 : decode cX1_gain 35 = .ok (.iload_n 1, 1) := by decide +kernel
theorem dX1_gain_36 : decode cX1_gain 36 = .ok (.iload 4, 2) := by decide +kernel
theorem dX1_gain_38 : decode cX1_gain 38 = .ok (.invokestatic 51, 3) := by decide +kernel
theorem dX1_gain_41 : decode cX1_gain 41 = .ok (.ifCond .eq 7, 3) := by decide +kernel
theorem dX1_gain_44 : decode cX1_gain 44 = .ok (.iconst 1, 1) := by decide +kernel
theorem dX1_gain_45 : decode cX1_gain 45 = .ok (.goto 4, 3) := by decide +kernel
theorem dX1_gain_48 : decode cX1_gain 48 = .ok (.iconst 0, 1) := by decide +kernel
theorem dX1_gain_49 : decode cX1_gain 49 = .ok (.invokevirtual 39, 3) := by decide +kernel
theorem dX1_gain_52 : decode cX1_gain 52 = .ok (.iinc 4 1, 3) := by decide +kernel
theorem dX1_gain_55 : decode cX1_gain 55 = .ok (.goto (-30), 3) := by decide +kernel
theorem dX1_gain_58 : decode cX1_gain 58 = .ok (.return_, 1) := by decide +kernel
theorem dX1_empty_0 : decode cX1_empty 0 = .ok (.iconst 0, 1) := by decide +kernel
theorem dX1_empty_1 : decode cX1_empty 1 = .ok (.istore_n 2, 1) := by decide +kernel
theorem dX1_empty_2 : decode cX1_empty 2 = .ok (.iload_n 2, 1) := by decide +kernel
theorem dX1_empty_3 : decode cX1_empty 3 = .ok (.bipush 7, 2) := by decide +kernel
theorem dX1_empty_5 : decode cX1_empty 5 = .ok (.if_icmp .ge 36, 3) := by decide +kernel
theorem dX1_empty_8 : decode cX1_empty 8 = .ok (.aload_n 0, 1) := by decide +kernel
theorem dX1_empty_9 : decode cX1_empty 9 = .ok (.getfield 15, 3) := by decide +kernel
theorem dX1_empty_12 : decode cX1_empty 12 = .ok (.iload_n 2, 1) := by decide +kernel
theorem dX1_empty_13 : decode cX1_empty 13 = .ok (.iconst 0, 1) := by decide +kernel
theorem dX1_empty_14 : decode cX1_empty 14 = .ok (.iastore, 1) := by decide +kernel
theorem dX1_empty_15 : decode cX1_empty 15 = .ok (.iconst 0, 1) := by decide +kernel
theorem dX1_empty_16 : decode cX1_empty 16 = .ok (.istore_n 3, 1) := by decide +kernel
theorem dX1_empty_17 : decode cX1_empty 17 = .ok (.iload_n 3, 1) := by decide +kernel
theorem dX1_empty_18 : decode cX1_empty 18 = .ok (.iload_n 2, 1) := by decide +kernel
theorem dX1_empty_19 : decode cX1_empty 19 = .ok (.if_icmp .ge 16, 3) := by decide +kernel
theorem dX1_empty_22 : decode cX1_empty 22 = .ok (.aload_n 0, 1) := by decide +kernel
theorem dX1_empty_23 : decode cX1_empty 23 = .ok (.iload_n 2, 1) := by decide +kernel
theorem dX1_empty_24 : decode cX1_empty 24 = .ok (.iload_n 3, 1) := by decide +kernel
theorem dX1_empty_25 : decode cX1_empty 25 = .ok (.iconst 0, 1) := by decide +kernel
theorem dX1_empty_26 : decode cX1_empty 26 = .ok (.invokevirtual 39, 3) := by decide +kernel
theorem dX1_empty_29 : decode cX1_empty 29 = .ok (.iinc 3 1, 3) := by decide +kernel
theorem dX1_empty_32 : decode cX1_empty 32 = .ok (.goto (-15), 3) := by decide +kernel
theorem dX1_empty_35 : decode cX1_empty 35 = .ok (.iinc 2 1, 3) := by decide +kernel
theorem dX1_empty_38 : decode cX1_empty 38 = .ok (.goto (-36), 3) := by decide +kernel
theorem dX1_empty_41 : decode cX1_empty 41 = .ok (.aload_n 0, 1) := by decide +kernel
theorem dX1_empty_42 : decode cX1_empty 42 = .ok (.iload_n 1, 1) := by decide +kernel
theorem dX1_empty_43 : decode cX1_empty 43 = .ok (.putfield 9, 3) := by decide +kernel
theorem dX1_empty_46 : decode cX1_empty 46 = .ok (.return_, 1) := by decide +kernel
theorem dX1_take_0 : decode cX1_take 0 = .ok (.aload_n 0, 1) := by decide +kernel
theorem dX1_take_1 : decode cX1_take 1 = .ok (.aload_n 1, 1) := by decide +kernel
theorem dX1_take_2 : decode cX1_take 2 = .ok (.getfield 9, 3) := by decide +kernel
theorem dX1_take_5 : decode cX1_take 5 = .ok (.putfield 9, 3) := by decide +kernel
theorem dX1_take_8 : decode cX1_take 8 = .ok (.aload_n 1, 1) := by decide +kernel
theorem dX1_take_9 : decode cX1_take 9 = .ok (.getfield 15, 3) := by decide +kernel
theorem dX1_take_12 : decode cX1_take 12 = .ok (.iconst 0, 1) := by decide +kernel
theorem dX1_take_13 : decode cX1_take 13 = .ok (.aload_n 0, 1) := by decide +kernel
theorem dX1_take_14 : decode cX1_take 14 = .ok (.getfield 15, 3) := by decide +kernel
theorem dX1_take_17 : decode cX1_take 17 = .ok (.iconst 0, 1) := by decide +kernel
theorem dX1_take_18 : decode cX1_take 18 = .ok (.bipush 7, 2) := by decide +kernel
theorem dX1_take_20 : decode cX1_take 20 = .ok (.invokestatic 55, 3) := by decide +kernel
theorem dX1_take_23 : decode cX1_take 23 = .ok (.iconst 0, 1) := by decide +kernel
theorem dX1_take_24 : decode cX1_take 24 = .ok (.istore_n 2, 1) := by decide +kernel
theorem dX1_take_25 : decode cX1_take 25 = .ok (.iload_n 2, 1) := by decide +kernel
theorem dX1_take_26 : decode cX1_take 26 = .ok (.bipush 7, 2) := by decide +kernel
theorem dX1_take_28 : decode cX1_take 28 = .ok (.if_icmp .ge 28, 3) := by decide +kernel
theorem dX1_take_31 : decode cX1_take 31 = .ok (.aload_n 1, 1) := by decide +kernel
theorem dX1_take_32 : decode cX1_take 32 = .ok (.getfield 21, 3) := by decide +kernel
theorem dX1_take_35 : decode cX1_take 35 = .ok (.iload_n 2, 1) := by decide +kernel
theorem dX1_take_36 : decode cX1_take 36 = .ok (.aaload, 1) := by decide +kernel
theorem dX1_take_37 : decode cX1_take 37 = .ok (.iconst 0, 1) := by decide +kernel
theorem dX1_take_38 : decode cX1_take 38 = .ok (.aload_n 0, 1) := by decide +kernel
theorem dX1_take_39 : decode cX1_take 39 = .ok (.getfield 21, 3) := by decide +kernel
theorem dX1_take_42 : decode cX1_take 42 = .ok (.iload_n 2, 1) := by decide +kernel
theorem dX1_take_43 : decode cX1_take 43 = .ok (.aaload, 1) := by decide +kernel
theorem dX1_take_44 : decode cX1_take 44 = .ok (.iconst 0, 1) := by decide +kernel
theorem dX1_take_45 : decode cX1_take 45 = .ok (.bipush 7, 2) := by decide +kernel
theorem dX1_take_47 : decode cX1_take 47 = .ok (.invokestatic 55, 3) := by decide +kernel
theorem dX1_take_50 : decode cX1_take 50 = .ok (.iinc 2 1, 3) := by decide +kernel
theorem dX1_take_53 : decode cX1_take 53 = .ok (.goto (-28), 3) := by decide +kernel
theorem dX1_take_56 : decode cX1_take 56 = .ok (.iconst 0, 1) := by decide +kernel
theorem dX1_take_57 : decode cX1_take 57 = .ok (.istore_n 2, 1) := by decide +kernel
theorem dX1_take_58 : decode cX1_take 58 = .ok (.iload_n 2, 1) := by decide +kernel
theorem dX1_take_59 : decode cX1_take 59 = .ok (.iconst 4, 1) := by decide +kernel
theorem dX1_take_60 : decode cX1_take 60 = .ok (.if_icmp .ge 28, 3) := by decide +kernel
theorem dX1_take_63 : decode cX1_take 63 = .ok (.aload_n 1, 1) := by decide +kernel
theorem dX1_take_64 : decode cX1_take 64 = .ok (.getfield 24, 3) := by decide +kernel
theorem dX1_take_67 : decode cX1_take 67 = .ok (.iload_n 2, 1) := by decide +kernel
theorem dX1_take_68 : decode cX1_take 68 = .ok (.aaload, 1) := by decide +kernel
theorem dX1_take_69 : decode cX1_take 69 = .ok (.iconst 0, 1) := by decide +kernel
theorem dX1_take_70 : decode cX1_take 70 = .ok (.aload_n 0, 1) := by decide +kernel
theorem dX1_take_71 : decode cX1_take 71 = .ok (.getfield 24, 3) := by decide +kernel
theorem dX1_take_74 : decode cX1_take 74 = .ok (.iload_n 2, 1) := by decide +kernel
theorem dX1_take_75 : decode cX1_take 75 = .ok (.aaload, 1) := by decide +kernel
theorem dX1_take_76 : decode cX1_take 76 = .ok (.iconst 0, 1) := by decide +kernel
theorem dX1_take_77 : decode cX1_take 77 = .ok (.bipush 7, 2) := by decide +kernel
theorem dX1_take_79 : decode cX1_take 79 = .ok (.invokestatic 55, 3) := by decide +kernel
theorem dX1_take_82 : decode cX1_take 82 = .ok (.iinc 2 1, 3) := by decide +kernel
theorem dX1_take_85 : decode cX1_take 85 = .ok (.goto (-27), 3) := by decide +kernel
theorem dX1_take_88 : decode cX1_take 88 = .ok (.return_, 1) := by decide +kernel
theorem dX1_same_0 : decode cX1_same 0 = .ok (.aload_n 0, 1) := by decide +kernel
theorem dX1_same_1 : decode cX1_same 1 = .ok (.getfield 9, 3) := by decide +kernel
theorem dX1_same_4 : decode cX1_same 4 = .ok (.aload_n 1, 1) := by decide +kernel
theorem dX1_same_5 : decode cX1_same 5 = .ok (.getfield 9, 3) := by decide +kernel
theorem dX1_same_8 : decode cX1_same 8 = .ok (.if_icmp .eq 5, 3) := by decide +kernel
theorem dX1_same_11 : decode cX1_same 11 = .ok (.iconst 0, 1) := by decide +kernel
theorem dX1_same_12 : decode cX1_same 12 = .ok (.ireturn, 1) := by decide +kernel
theorem dX1_same_13 : decode cX1_same 13 = .ok (.iconst 0, 1) := by decide +kernel
theorem dX1_same_14 : decode cX1_same 14 = .ok (.istore_n 2, 1) := by decide +kernel
theorem dX1_same_15 : decode cX1_same 15 = .ok (.iload_n 2, 1) := by decide +kernel
theorem dX1_same_16 : decode cX1_same 16 = .ok (.aload_n 0, 1) := by decide +kernel
theorem dX1_same_17 : decode cX1_same 17 = .ok (.getfield 9, 3) := by decide +kernel
theorem dX1_same_20 : decode cX1_same 20 = .ok (.if_icmp .ge 60, 3) := by decide +kernel
theorem dX1_same_23 : decode cX1_same 23 = .ok (.aload_n 0, 1) := by decide +kernel
theorem dX1_same_24 : decode cX1_same 24 = .ok (.getfield 15, 3) := by decide +kernel
theorem dX1_same_27 : decode cX1_same 27 = .ok (.iload_n 2, 1) := by decide +kernel
theorem dX1_same_28 : decode cX1_same 28 = .ok (.iaload, 1) := by decide +kernel
theorem dX1_same_29 : decode cX1_same 29 = .ok (.aload_n 1, 1) := by decide +kernel
theorem dX1_same_30 : decode cX1_same 30 = .ok (.getfield 15, 3) := by decide +kernel
theorem dX1_same_33 : decode cX1_same 33 = .ok (.iload_n 2, 1) := by decide +kernel
theorem dX1_same_34 : decode cX1_same 34 = .ok (.iaload, 1) := by decide +kernel
theorem dX1_same_35 : decode cX1_same 35 = .ok (.if_icmp .eq 5, 3) := by decide +kernel
theorem dX1_same_38 : decode cX1_same 38 = .ok (.iconst 0, 1) := by decide +kernel
theorem dX1_same_39 : decode cX1_same 39 = .ok (.ireturn, 1) := by decide +kernel
theorem dX1_same_40 : decode cX1_same 40 = .ok (.iconst 0, 1) := by decide +kernel
theorem dX1_same_41 : decode cX1_same 41 = .ok (.istore_n 3, 1) := by decide +kernel
theorem dX1_same_42 : decode cX1_same 42 = .ok (.iload_n 3, 1) := by decide +kernel
theorem dX1_same_43 : decode cX1_same 43 = .ok (.iload_n 2, 1) := by decide +kernel
theorem dX1_same_44 : decode cX1_same 44 = .ok (.if_icmp .ge 30, 3) := by decide +kernel
theorem dX1_same_47 : decode cX1_same 47 = .ok (.aload_n 0, 1) := by decide +kernel
theorem dX1_same_48 : decode cX1_same 48 = .ok (.getfield 21, 3) := by decide +kernel
theorem dX1_same_51 : decode cX1_same 51 = .ok (.iload_n 2, 1) := by decide +kernel
theorem dX1_same_52 : decode cX1_same 52 = .ok (.aaload, 1) := by decide +kernel
theorem dX1_same_53 : decode cX1_same 53 = .ok (.iload_n 3, 1) := by decide +kernel
theorem dX1_same_54 : decode cX1_same 54 = .ok (.iaload, 1) := by decide +kernel
theorem dX1_same_55 : decode cX1_same 55 = .ok (.aload_n 1, 1) := by decide +kernel
theorem dX1_same_56 : decode cX1_same 56 = .ok (.getfield 21, 3) := by decide +kernel
theorem dX1_same_59 : decode cX1_same 59 = .ok (.iload_n 2, 1) := by decide +kernel
theorem dX1_same_60 : decode cX1_same 60 = .ok (.aaload, 1) := by decide +kernel
theorem dX1_same_61 : decode cX1_same 61 = .ok (.iload_n 3, 1) := by decide +kernel
theorem dX1_same_62 : decode cX1_same 62 = .ok (.iaload, 1) := by decide +kernel
theorem dX1_same_63 : decode cX1_same 63 = .ok (.if_icmp .eq 5, 3) := by decide +kernel
theorem dX1_same_66 : decode cX1_same 66 = .ok (.iconst 0, 1) := by decide +kernel
theorem dX1_same_67 : decode cX1_same 67 = .ok (.ireturn, 1) := by decide +kernel
theorem dX1_same_68 : decode cX1_same 68 = .ok (.iinc 3 1, 3) := by decide +kernel
theorem dX1_same_71 : decode cX1_same 71 = .ok (.goto (-29), 3) := by decide +kernel
theorem dX1_same_74 : decode cX1_same 74 = .ok (.iinc 2 1, 3) := by decide +kernel
theorem dX1_same_77 : decode cX1_same 77 = .ok (.goto (-62), 3) := by decide +kernel
theorem dX1_same_80 : decode cX1_same 80 = .ok (.iconst 1, 1) := by decide +kernel
theorem dX1_same_81 : decode cX1_same 81 = .ok (.ireturn, 1) := by decide +kernel
theorem dX2_init_0 : decode cX2_init 0 = .ok (.aload_n 0, 1) := by decide +kernel
theorem dX2_init_1 : decode cX2_init 1 = .ok (.invokespecial 3, 3) := by decide +kernel
theorem dX2_init_4 : decode cX2_init 4 = .ok (.aload_n 0, 1) := by decide +kernel
theorem dX2_init_5 : decode cX2_init 5 = .ok (.iconst 0, 1) := by decide +kernel
theorem dX2_init_6 : decode cX2_init 6 = .ok (.putfield 9, 3) := by decide +kernel
theorem dX2_init_9 : decode cX2_init 9 = .ok (.aload_n 0, 1) := by decide +kernel
theorem dX2_init_10 : decode cX2_init 10 = .ok (.iconst 0, 1) := by decide +kernel
theorem dX2_init_11 : decode cX2_init 11 = .ok (.putfield 15, 3) := by decide +kernel
theorem dX2_init_14 : decode cX2_init 14 = .ok (.aload_n 0, 1) := by decide +kernel
theorem dX2_init_15 : decode cX2_init 15 = .ok (.bipush 7, 2) := by decide +kernel
theorem dX2_init_17 : decode cX2_init 17 = .ok (.newarray .int, 2) := by decide +kernel
theorem dX2_init_19 : decode cX2_init 19 = .ok (.putfield 18, 3) := by decide +kernel
theorem dX2_init_22 : decode cX2_init 22 = .ok (.aload_n 0, 1) := by decide +kernel
theorem dX2_init_23 : decode cX2_init 23 = .ok (.bipush 28, 2) := by decide +kernel
theorem dX2_init_25 : decode cX2_init 25 = .ok (.newarray .int, 2) := by decide +kernel
theorem dX2_init_27 : decode cX2_init 27 = .ok (.putfield 22, 3) := by decide +kernel
theorem dX2_init_30 : decode cX2_init 30 = .ok (.aload_n 0, 1) := by decide +kernel
theorem dX2_init_31 : decode cX2_init 31 = .ok (.bipush 7, 2) := by decide +kernel
theorem dX2_init_33 : decode cX2_init 33 = .ok (.newarray .int, 2) := by decide +kernel
theorem dX2_init_35 : decode cX2_init 35 = .ok (.putfield 25, 3) := by decide +kernel
theorem dX2_init_38 : decode cX2_init 38 = .ok (.return_, 1) := by decide +kernel
theorem dX2_write_0 : decode cX2_write 0 = .ok (.aload_n 0, 1) := by decide +kernel
theorem dX2_write_1 : decode cX2_write 1 = .ok (.iload_n 3, 1) := by decide +kernel
theorem dX2_write_2 : decode cX2_write 2 = .ok (.putfield 9, 3) := by decide +kernel
theorem dX2_write_5 : decode cX2_write 5 = .ok (.aload_n 0, 1) := by decide +kernel
theorem dX2_write_6 : decode cX2_write 6 = .ok (.iconst 0, 1) := by decide +kernel
theorem dX2_write_7 : decode cX2_write 7 = .ok (.putfield 15, 3) := by decide +kernel
theorem dX2_write_10 : decode cX2_write 10 = .ok (.iconst 0, 1) := by decide +kernel
theorem dX2_write_11 : decode cX2_write 11 = .ok (.istore 4, 2) := by decide +kernel
theorem dX2_write_13 : decode cX2_write 13 = .ok (.iload 4, 2) := by decide +kernel
theorem dX2_write_15 : decode cX2_write 15 = .ok (.aload_n 1, 1) := by decide +kernel
theorem dX2_write_16 : decode cX2_write 16 = .ok (.getfield 28, 3) := by decide +kernel
theorem dX2_write_19 : decode cX2_write 19 = .ok (.if_icmp .ge 77, 3) := by decide +kernel
theorem dX2_write_22 : decode cX2_write 22 = .ok (.aload_n 2, 1) := by decide +kernel
theorem dX2_write_23 : decode cX2_write 23 = .ok (.getfield 33, 3) := by decide +kernel
theorem dX2_write_26 : decode cX2_write 26 = .ok (.iload 4, 2) := by decide +kernel
theorem dX2_write_28 : decode cX2_write 28 = .ok (.iaload, 1) := by decide +kernel
theorem dX2_write_29 : decode cX2_write 29 = .ok (.invokestatic 38, 3) := by decide +kernel
theorem dX2_write_32 : decode cX2_write 32 = .ok (.bipush 7, 2) := by decide +kernel
theorem dX2_write_34 : decode cX2_write 34 = .ok (.iand, 1) := by decide +kernel
theorem dX2_write_35 : decode cX2_write 35 = .ok (.istore 5, 2) := by decide +kernel
theorem dX2_write_37 : decode cX2_write 37 = .ok (.aload_n 0, 1) := by decide +kernel
theorem dX2_write_38 : decode cX2_write 38 = .ok (.getfield 25, 3) := by decide +kernel
theorem dX2_write_41 : decode cX2_write 41 = .ok (.iload 4, 2) := by decide +kernel
theorem dX2_write_43 : decode cX2_write 43 = .ok (.iload 5, 2) := by decide +kernel
theorem dX2_write_45 : decode cX2_write 45 = .ok (.aload_n 1, 1) := by decide +kernel
theorem dX2_write_46 : decode cX2_write 46 = .ok (.getfield 28, 3) := by decide +kernel
theorem dX2_write_49 : decode cX2_write 49 = .ok (.if_icmp .ge 8, 3) := by decide +kernel
theorem dX2_write_52 : decode cX2_write 52 = .ok (.iload 5, 2) := by decide +kernel
theorem dX2_write_54 : decode cX2_write 54 = .ok (.goto 4, 3) := by decide +kernel
theorem dX2_write_57 : decode cX2_write 57 = .ok (.iconst 0, 1) := by decide +kernel
theorem dX2_write_58 : decode cX2_write 58 = .ok (.iastore, 1) := by decide +kernel
theorem dX2_write_59 : decode cX2_write 59 = .ok (.aload_n 0, 1) := by decide +kernel
theorem dX2_write_60 : decode cX2_write 60 = .ok (.getfield 22, 3) := by decide +kernel
theorem dX2_write_63 : decode cX2_write 63 = .ok (.aload_n 0, 1) := by decide +kernel
theorem dX2_write_64 : decode cX2_write 64 = .ok (.getfield 15, 3) := by decide +kernel
theorem dX2_write_67 : decode cX2_write 67 = .ok (.aload_n 1, 1) := by decide +kernel
theorem dX2_write_68 : decode cX2_write 68 = .ok (.getfield 44, 3) := by decide +kernel
theorem dX2_write_71 : decode cX2_write 71 = .ok (.aload_n 0, 1) := by decide +kernel
theorem dX2_write_72 : decode cX2_write 72 = .ok (.getfield 25, 3) := by decide +kernel
theorem dX2_write_75 : decode cX2_write 75 = .ok (.iload 4, 2) := by decide +kernel
theorem dX2_write_77 : decode cX2_write 77 = .ok (.iaload, 1) := by decide +kernel
theorem dX2_write_78 : decode cX2_write 78 = .ok (.iaload, 1) := by decide +kernel
theorem dX2_write_79 : decode cX2_write 79 = .ok (.iastore, 1) := by decide +kernel
theorem dX2_write_80 : decode cX2_write 80 = .ok (.aload_n 0, 1) := by decide +kernel
theorem dX2_write_81 : decode cX2_write 81 = .ok (.dup, 1) := by decide +kernel
theorem dX2_write_82 : decode cX2_write 82 = .ok (.getfield 15, 3) := by decide +kernel
theorem dX2_write_85 : decode cX2_write 85 = .ok (.iconst 1, 1) := by decide +kernel
theorem dX2_write_86 : decode cX2_write 86 = .ok (.iadd, 1) := by decide +kernel
theorem dX2_write_87 : decode cX2_write 87 = .ok (.putfield 15, 3) := by decide +kernel
theorem dX2_write_90 : decode cX2_write 90 = .ok (.iinc 4 1, 3) := by decide +kernel
theorem dX2_write_93 : decode cX2_write 93 = .ok (.goto (-80), 3) := by decide +kernel
theorem dX2_write_96 : decode cX2_write 96 = .ok (.iconst 0, 1) := by decide +kernel
theorem dX2_write_97 : decode cX2_write 97 = .ok (.istore 4, 2) := by decide +kernel
theorem dX2_write_99 : decode cX2_write 99 = .ok (.iload 4, 2) := by decide +kernel
theorem dX2_write_101 : decode cX2_write 101 = .ok (.aload_n 1, 1) := by decide +kernel
theorem dX2_write_102 : decode cX2_write 102 = .ok (.getfield 28, 3) := by decide +kernel
theorem dX2_write_105 : decode cX2_write 105 = .ok (.if_icmp .ge 69, 3) := by decide +kernel
theorem dX2_write_108 : decode cX2_write 108 = .ok (.iload 4, 2) := by decide +kernel
theorem dX2_write_110 : decode cX2_write 110 = .ok (.iconst 1, 1) := by decide +kernel
theorem dX2_write_111 : decode cX2_write 111 = .ok (.iadd, 1) := by decide +kernel
theorem dX2_write_112 : decode cX2_write 112 = .ok (.istore 5, 2) := by decide +kernel
theorem dX2_write_114 : decode cX2_write 114 = .ok (.iload 5, 2) := by decide +kernel
theorem dX2_write_116 : decode cX2_write 116 = .ok (.aload_n 1, 1) := by decide +kernel
theorem dX2_write_117 : decode cX2_write 117 = .ok (.getfield 28, 3) := by decide +kernel
theorem dX2_write_120 : decode cX2_write 120 = .ok (.if_icmp .ge 48, 3) := by decide +kernel
theorem dX2_write_123 : decode cX2_write 123 = .ok (.aload_n 0, 1) := by decide +kernel
theorem dX2_write_124 : decode cX2_write 124 = .ok (.getfield 22, 3) := by decide +kernel
theorem dX2_write_127 : decode cX2_write 127 = .ok (.aload_n 0, 1) := by decide +kernel
theorem dX2_write_128 : decode cX2_write 128 = .ok (.getfield 15, 3) := by decide +kernel
theorem dX2_write_131 : decode cX2_write 131 = .ok (.aload_n 1, 1) := by decide +kernel
theorem dX2_write_132 : decode cX2_write 132 = .ok (.getfield 47, 3) := by decide +kernel
theorem dX2_write_135 : decode cX2_write 135 = .ok (.aload_n 0, 1) := by decide +kernel
theorem dX2_write_136 : decode cX2_write 136 = .ok (.getfield 25, 3) := by decide +kernel
theorem dX2_write_139 : decode cX2_write 139 = .ok (.iload 4, 2) := by decide +kernel
theorem dX2_write_141 : decode cX2_write 141 = .ok (.iaload, 1) := by decide +kernel
theorem dX2_write_142 : decode cX2_write 142 = .ok (.aaload, 1) := by decide +kernel
theorem dX2_write_143 : decode cX2_write 143 = .ok (.aload_n 0, 1) := by decide +kernel
theorem dX2_write_144 : decode cX2_write 144 = .ok (.getfield 25, 3) := by decide +kernel
theorem dX2_write_147 : decode cX2_write 147 = .ok (.iload 5, 2) := by decide +kernel
theorem dX2_write_149 : decode cX2_write 149 = .ok (.iaload, 1) := by decide +kernel
theorem dX2_write_150 : decode cX2_write 150 = .ok (.iaload, 1) := by decide +kernel
theorem dX2_write_151 : decode cX2_write 151 = .ok (.iastore, 1) := by decide +kernel
theorem dX2_write_152 : decode cX2_write 152 = .ok (.aload_n 0, 1) := by decide +kernel
theorem dX2_write_153 : decode cX2_write 153 = .ok (.dup, 1) := by decide +kernel
theorem dX2_write_154 : decode cX2_write 154 = .ok (.getfield 15, 3) := by decide +kernel
theorem dX2_write_157 : decode cX2_write 157 = .ok (.iconst 1, 1) := by decide +kernel
theorem dX2_write_158 : decode cX2_write 158 = .ok (.iadd, 1) := by decide +kernel
theorem dX2_write_159 : decode cX2_write 159 = .ok (.putfield 15, 3) := by decide +kernel
theorem dX2_write_162 : decode cX2_write 162 = .ok (.iinc 5 1, 3) := by decide +kernel
theorem dX2_write_165 : decode cX2_write 165 = .ok (.goto (-51), 3) := by decide +kernel
theorem dX2_write_168 : decode cX2_write 168 = .ok (.iinc 4 1, 3) := by decide +kernel
theorem dX2_write_171 : decode cX2_write 171 = .ok (.goto (-72), 3) := by decide +kernel
theorem dX2_write_174 : decode cX2_write 174 = .ok (.return_, 1) := by decide +kernel
theorem dX2_compare_0 : decode cX2_compare 0 = .ok (.aload_n 0, 1) := by decide +kernel
theorem dX2_compare_1 : decode cX2_compare 1 = .ok (.getfield 9, 3) := by decide +kernel
theorem dX2_compare_4 : decode cX2_compare 4 = .ok (.aload_n 1, 1) := by decide +kernel
theorem dX2_compare_5 : decode cX2_compare 5 = .ok (.getfield 9, 3) := by decide +kernel
theorem dX2_compare_8 : decode cX2_compare 8 = .ok (.invokestatic 51, 3) := by decide +kernel
theorem dX2_compare_11 : decode cX2_compare 11 = .ok (.istore_n 2, 1) := by decide +kernel
theorem dX2_compare_12 : decode cX2_compare 12 = .ok (.iconst 0, 1) := by decide +kernel
theorem dX2_compare_13 : decode cX2_compare 13 = .ok (.istore_n 3, 1) := by decide +kernel
theorem dX2_compare_14 : decode cX2_compare 14 = .ok (.iload_n 3, 1) := by decide +kernel
theorem dX2_compare_15 : decode cX2_compare 15 = .ok (.iload_n 2, 1) := by decide +kernel
theorem dX2_compare_16 : decode cX2_compare 16 = .ok (.if_icmp .gt 40, 3) := by decide +kernel
theorem dX2_compare_19 : decode cX2_compare 19 = .ok (.aload_n 0, 1) := by decide +kernel
theorem dX2_compare_20 : decode cX2_compare 20 = .ok (.getfield 18, 3) := by decide +kernel
theorem dX2_compare_23 : decode cX2_compare 23 = .ok (.iload_n 3, 1) := by decide +kernel
theorem dX2_compare_24 : decode cX2_compare 24 = .ok (.iaload, 1) := by decide +kernel
theorem dX2_compare_25 : decode cX2_compare 25 = .ok (.aload_n 1, 1) := by decide +kernel
theorem dX2_compare_26 : decode cX2_compare 26 = .ok (.getfield 18, 3) := by decide +kernel
theorem dX2_compare_29 : decode cX2_compare 29 = .ok (.iload_n 3, 1) := by decide +kernel
theorem dX2_compare_30 : decode cX2_compare 30 = .ok (.iaload, 1) := by decide +kernel
theorem dX2_compare_31 : decode cX2_compare 31 = .ok (.if_icmp .eq 19, 3) := by decide +kernel
theorem dX2_compare_34 : decode cX2_compare 34 = .ok (.aload_n 0, 1) := by decide +kernel
theorem dX2_compare_35 : decode cX2_compare 35 = .ok (.getfield 18, 3) := by decide +kernel
theorem dX2_compare_38 : decode cX2_compare 38 = .ok (.iload_n 3, 1) := by decide +kernel
theorem dX2_compare_39 : decode cX2_compare 39 = .ok (.iaload, 1) := by decide +kernel
theorem dX2_compare_40 : decode cX2_compare 40 = .ok (.aload_n 1, 1) := by decide +kernel
theorem dX2_compare_41 : decode cX2_compare 41 = .ok (.getfield 18, 3) := by decide +kernel
theorem dX2_compare_44 : decode cX2_compare 44 = .ok (.iload_n 3, 1) := by decide +kernel
theorem dX2_compare_45 : decode cX2_compare 45 = .ok (.iaload, 1) := by decide +kernel
theorem dX2_compare_46 : decode cX2_compare 46 = .ok (.invokestatic 57, 3) := by decide +kernel
theorem dX2_compare_49 : decode cX2_compare 49 = .ok (.ireturn, 1) := by decide +kernel
theorem dX2_compare_50 : decode cX2_compare 50 = .ok (.iinc 3 1, 3) := by decide +kernel
theorem dX2_compare_53 : decode cX2_compare 53 = .ok (.goto (-39), 3) := by decide +kernel
theorem dX2_compare_56 : decode cX2_compare 56 = .ok (.aload_n 0, 1) := by decide +kernel
theorem dX2_compare_57 : decode cX2_compare 57 = .ok (.aload_n 1, 1) := by decide +kernel
theorem dX2_compare_58 : decode cX2_compare 58 = .ok (.invokevirtual 60, 3) := by decide +kernel
theorem dX2_compare_61 : decode cX2_compare 61 = .ok (.ireturn, 1) := by decide +kernel
theorem dX2_compareCodes_0 : decode cX2_compareCodes 0 = .ok (.aload_n 0, 1) := by decide +kernel
theorem dX2_compareCodes_1 : decode cX2_compareCodes 1 = .ok (.getfield 15, 3) := by decide +kernel
theorem dX2_compareCodes_4 : decode cX2_compareCodes 4 = .ok (.aload_n 1, 1) := by decide +kernel
theorem dX2_compareCodes_5 : decode cX2_compareCodes 5 = .ok (.getfield 15, 3) := by decide +kernel
theorem dX2_compareCodes_8 : decode cX2_compareCodes 8 = .ok (.if_icmp .eq 15, 3) := by decide +kernel
theorem dX2_compareCodes_11 : decode cX2_compareCodes 11 = .ok (.aload_n 0, 1) := by decide +kernel
theorem dX2_compareCodes_12 : decode cX2_compareCodes 12 = .ok (.getfield 15, 3) := by decide +kernel
theorem dX2_compareCodes_15 : decode cX2_compareCodes 15 = .ok (.aload_n 1, 1) := by decide +kernel
theorem dX2_compareCodes_16 : decode cX2_compareCodes 16 = .ok (.getfield 15, 3) := by decide +kernel
theorem dX2_compareCodes_19 : decode cX2_compareCodes 19 = .ok (.invokestatic 57, 3) := by decide +kernel
theorem dX2_compareCodes_22 : decode cX2_compareCodes 22 = .ok (.ireturn, 1) := by decide +kernel
theorem dX2_compareCodes_23 : decode cX2_compareCodes 23 = .ok (.iconst 0, 1) := by decide +kernel
theorem dX2_compareCodes_24 : decode cX2_compareCodes 24 = .ok (.istore_n 2, 1) := by decide +kernel
theorem dX2_compareCodes_25 : decode cX2_compareCodes 25 = .ok (.iload_n 2, 1) := by decide +kernel
theorem dX2_compareCodes_26 : decode cX2_compareCodes 26 = .ok (.aload_n 0, 1) := by decide +kernel
theorem dX2_compareCodes_27 : decode cX2_compareCodes 27 = .ok (.getfield 15, 3) := by decide +kernel
theorem dX2_compareCodes_30 : decode cX2_compareCodes 30 = .ok (.if_icmp .ge 40, 3) := by decide +kernel
theorem dX2_compareCodes_33 : decode cX2_compareCodes 33 = .ok (.aload_n 0, 1) := by decide +kernel
theorem dX2_compareCodes_34 : decode cX2_compareCodes 34 = .ok (.getfield 22, 3) := by decide +kernel
theorem dX2_compareCodes_37 : decode cX2_compareCodes 37 = .ok (.iload_n 2, 1) := by decide +kernel
theorem dX2_compareCodes_38 : decode cX2_compareCodes 38 = .ok (.iaload, 1) := by decide +kernel
theorem dX2_compareCodes_39 : decode cX2_compareCodes 39 = .ok (.aload_n 1, 1) := by decide +kernel
theorem dX2_compareCodes_40 : decode cX2_compareCodes 40 = .ok (.getfield 22, 3) := by decide +kernel
theorem dX2_compareCodes_43 : decode cX2_compareCodes 43 = .ok (.iload_n 2, 1) := by decide +kernel
theorem dX2_compareCodes_44 : decode cX2_compareCodes 44 = .ok (.iaload, 1) := by decide +kernel
theorem dX2_compareCodes_45 : decode cX2_compareCodes 45 = .ok (.if_icmp .eq 19, 3) := by decide +kernel
theorem dX2_compareCodes_48 : decode cX2_compareCodes 48 = .ok (.aload_n 0, 1) := by decide +kernel
theorem dX2_compareCodes_49 : decode cX2_compareCodes 49 = .ok (.getfield 22, 3) := by decide +kernel
theorem dX2_compareCodes_52 : decode cX2_compareCodes 52 = .ok (.iload_n 2, 1) := by decide +kernel
theorem dX2_compareCodes_53 : decode cX2_compareCodes 53 = .ok (.iaload, 1) := by decide +kernel
theorem dX2_compareCodes_54 : decode cX2_compareCodes 54 = .ok (.aload_n 1, 1) := by decide +kernel
theorem dX2_compareCodes_55 : decode cX2_compareCodes 55 = .ok (.getfield 22, 3) := by decide +kernel
theorem dX2_compareCodes_58 : decode cX2_compareCodes 58 = .ok (.iload_n 2, 1) := by decide +kernel
theorem dX2_compareCodes_59 : decode cX2_compareCodes 59 = .ok (.iaload, 1) := by decide +kernel
theorem dX2_compareCodes_60 : decode cX2_compareCodes 60 = .ok (.invokestatic 57, 3) := by decide +kernel
theorem dX2_compareCodes_63 : decode cX2_compareCodes 63 = .ok (.ireturn, 1) := by decide +kernel
theorem dX2_compareCodes_64 : decode cX2_compareCodes 64 = .ok (.iinc 2 1, 3) := by decide +kernel
theorem dX2_compareCodes_67 : decode cX2_compareCodes 67 = .ok (.goto (-42), 3) := by decide +kernel
theorem dX2_compareCodes_70 : decode cX2_compareCodes 70 = .ok (.iconst 0, 1) := by decide +kernel
theorem dX2_compareCodes_71 : decode cX2_compareCodes 71 = .ok (.ireturn, 1) := by decide +kernel
theorem dX2_take_0 : decode cX2_take 0 = .ok (.aload_n 0, 1) := by decide +kernel
theorem dX2_take_1 : decode cX2_take 1 = .ok (.aload_n 1, 1) := by decide +kernel
theorem dX2_take_2 : decode cX2_take 2 = .ok (.getfield 9, 3) := by decide +kernel
theorem dX2_take_5 : decode cX2_take 5 = .ok (.putfield 9, 3) := by decide +kernel
theorem dX2_take_8 : decode cX2_take 8 = .ok (.aload_n 0, 1) := by decide +kernel
theorem dX2_take_9 : decode cX2_take 9 = .ok (.aload_n 1, 1) := by decide +kernel
theorem dX2_take_10 : decode cX2_take 10 = .ok (.getfield 15, 3) := by decide +kernel
theorem dX2_take_13 : decode cX2_take 13 = .ok (.putfield 15, 3) := by decide +kernel
theorem dX2_take_16 : decode cX2_take 16 = .ok (.aload_n 1, 1) := by decide +kernel
theorem dX2_take_17 : decode cX2_take 17 = .ok (.getfield 18, 3) := by decide +kernel
theorem dX2_take_20 : decode cX2_take 20 = .ok (.iconst 0, 1) := by decide +kernel
theorem dX2_take_21 : decode cX2_take 21 = .ok (.aload_n 0, 1) := by decide +kernel
theorem dX2_take_22 : decode cX2_take 22 = .ok (.getfield 18, 3) := by decide +kernel
theorem dX2_take_25 : decode cX2_take 25 = .ok (.iconst 0, 1) := by decide +kernel
theorem dX2_take_26 : decode cX2_take 26 = .ok (.bipush 7, 2) := by decide +kernel
theorem dX2_take_28 : decode cX2_take 28 = .ok (.invokestatic 64, 3) := by decide +kernel
theorem dX2_take_31 : decode cX2_take 31 = .ok (.aload_n 1, 1) := by decide +kernel
theorem dX2_take_32 : decode cX2_take 32 = .ok (.getfield 22, 3) := by decide +kernel
theorem dX2_take_35 : decode cX2_take 35 = .ok (.iconst 0, 1) := by decide +kernel
theorem dX2_take_36 : decode cX2_take 36 = .ok (.aload_n 0, 1) := by decide +kernel
theorem dX2_take_37 : decode cX2_take 37 = .ok (.getfield 22, 3) := by decide +kernel
theorem dX2_take_40 : decode cX2_take 40 = .ok (.iconst 0, 1) := by decide +kernel
theorem dX2_take_41 : decode cX2_take 41 = .ok (.bipush 28, 2) := by decide +kernel
theorem dX2_take_43 : decode cX2_take 43 = .ok (.invokestatic 64, 3) := by decide +kernel
theorem dX2_take_46 : decode cX2_take 46 = .ok (.aload_n 1, 1) := by decide +kernel
theorem dX2_take_47 : decode cX2_take 47 = .ok (.getfield 25, 3) := by decide +kernel
theorem dX2_take_50 : decode cX2_take 50 = .ok (.iconst 0, 1) := by decide +kernel
theorem dX2_take_51 : decode cX2_take 51 = .ok (.aload_n 0, 1) := by decide +kernel
theorem dX2_take_52 : decode cX2_take 52 = .ok (.getfield 25, 3) := by decide +kernel
theorem dX2_take_55 : decode cX2_take 55 = .ok (.iconst 0, 1) := by decide +kernel
theorem dX2_take_56 : decode cX2_take 56 = .ok (.bipush 7, 2) := by decide +kernel
theorem dX2_take_58 : decode cX2_take 58 = .ok (.invokestatic 64, 3) := by decide +kernel
theorem dX2_take_61 : decode cX2_take 61 = .ok (.return_, 1) := by decide +kernel
theorem dX3_init_0 : decode cX3_init 0 = .ok (.aload_n 0, 1) := by decide +kernel
theorem dX3_init_1 : decode cX3_init 1 = .ok (.invokespecial 3, 3) := by decide +kernel
theorem dX3_init_4 : decode cX3_init 4 = .ok (.aload_n 0, 1) := by decide +kernel
theorem dX3_init_5 : decode cX3_init 5 = .ok (.iconst 0, 1) := by decide +kernel
theorem dX3_init_6 : decode cX3_init 6 = .ok (.putfield 9, 3) := by decide +kernel
theorem dX3_init_9 : decode cX3_init 9 = .ok (.aload_n 0, 1) := by decide +kernel
theorem dX3_init_10 : decode cX3_init 10 = .ok (.bipush 7, 2) := by decide +kernel
theorem dX3_init_12 : decode cX3_init 12 = .ok (.newarray .int, 2) := by decide +kernel
theorem dX3_init_14 : decode cX3_init 14 = .ok (.putfield 15, 3) := by decide +kernel
theorem dX3_init_17 : decode cX3_init 17 = .ok (.aload_n 0, 1) := by decide +kernel
theorem dX3_init_18 : decode cX3_init 18 = .ok (.bipush 7, 2) := by decide +kernel
theorem dX3_init_20 : decode cX3_init 20 = .ok (.newarray .int, 2) := by decide +kernel
theorem dX3_init_22 : decode cX3_init 22 = .ok (.putfield 19, 3) := by decide +kernel
theorem dX3_init_25 : decode cX3_init 25 = .ok (.aload_n 0, 1) := by decide +kernel
theorem dX3_init_26 : decode cX3_init 26 = .ok (.new 22, 3) := by decide +kernel
theorem dX3_init_29 : decode cX3_init 29 = .ok (.dup, 1) := by decide +kernel
theorem dX3_init_30 : decode cX3_init 30 = .ok (.invokespecial 24, 3) := by decide +kernel
theorem dX3_init_33 : decode cX3_init 33 = .ok (.putfield 25, 3) := by decide +kernel
theorem dX3_init_36 : decode cX3_init 36 = .ok (.aload_n 0, 1) := by decide +kernel
theorem dX3_init_37 : decode cX3_init 37 = .ok (.new 22, 3) := by decide +kernel
theorem dX3_init_40 : decode cX3_init 40 = .ok (.dup, 1) := by decide +kernel
theorem dX3_init_41 : decode cX3_init 41 = .ok (.invokespecial 24, 3) := by decide +kernel
theorem dX3_init_44 : decode cX3_init 44 = .ok (.putfield 29, 3) := by decide +kernel
theorem dX3_init_47 : decode cX3_init 47 = .ok (.aload_n 0, 1) := by decide +kernel
theorem dX3_init_48 : decode cX3_init 48 = .ok (.bipush 7, 2) := by decide +kernel
theorem dX3_init_50 : decode cX3_init 50 = .ok (.newarray .int, 2) := by decide +kernel
theorem dX3_init_52 : decode cX3_init 52 = .ok (.putfield 32, 3) := by decide +kernel
theorem dX3_init_55 : decode cX3_init 55 = .ok (.aload_n 0, 1) := by decide +kernel
theorem dX3_init_56 : decode cX3_init 56 = .ok (.iconst 0, 1) := by decide +kernel
theorem dX3_init_57 : decode cX3_init 57 = .ok (.putfield 35, 3) := by decide +kernel
theorem dX3_init_60 : decode cX3_init 60 = .ok (.aload_n 0, 1) := by decide +kernel
theorem dX3_init_61 : decode cX3_init 61 = .ok (.iconst 0, 1) := by decide +kernel
theorem dX3_init_62 : decode cX3_init 62 = .ok (.putfield 38, 3) := by decide +kernel
theorem dX3_init_65 : decode cX3_init 65 = .ok (.return_, 1) := by decide +kernel
theorem dX3_match_0 : decode cX3_match 0 = .ok (.aload_n 0, 1) := by decide +kernel
theorem dX3_match_1 : decode cX3_match 1 = .ok (.getfield 25, 3) := by decide +kernel
theorem dX3_match_4 : decode cX3_match 4 = .ok (.aload_n 1, 1) := by decide +kernel
theorem dX3_match_5 : decode cX3_match 5 = .ok (.invokevirtual 41, 3) := by decide +kernel
theorem dX3_match_8 : decode cX3_match 8 = .ok (.aload_n 0, 1) := by decide +kernel
theorem dX3_match_9 : decode cX3_match 9 = .ok (.getfield 29, 3) := by decide +kernel
theorem dX3_match_12 : decode cX3_match 12 = .ok (.aload_n 2, 1) := by decide +kernel
theorem dX3_match_13 : decode cX3_match 13 = .ok (.invokevirtual 41, 3) := by decide +kernel
theorem dX3_match_16 : decode cX3_match 16 = .ok (.aload_n 0, 1) := by decide +kernel
theorem dX3_match_17 : decode cX3_match 17 = .ok (.iload_n 3, 1) := by decide +kernel
theorem dX3_match_18 : decode cX3_match 18 = .ok (.putfield 35, 3) := by decide +kernel
theorem dX3_match_21 : decode cX3_match 21 = .ok (.aload_n 0, 1) := by decide +kernel
theorem dX3_match_22 : decode cX3_match 22 = .ok (.iconst 0, 1) := by decide +kernel
theorem dX3_match_23 : decode cX3_match 23 = .ok (.putfield 9, 3) := by decide +kernel
theorem dX3_match_26 : decode cX3_match 26 = .ok (.iconst 0, 1) := by decide +kernel
theorem dX3_match_27 : decode cX3_match 27 = .ok (.istore 4, 2) := by decide +kernel
theorem dX3_match_29 : decode cX3_match 29 = .ok (.iload 4, 2) := by decide +kernel
theorem dX3_match_31 : decode cX3_match 31 = .ok (.bipush 7, 2) := by decide +kernel
theorem dX3_match_33 : decode cX3_match 33 = .ok (.if_icmp .ge 17, 3) := by decide +kernel
theorem dX3_match_36 : decode cX3_match 36 = .ok (.aload_n 0, 1) := by decide +kernel
theorem dX3_match_37 : decode cX3_match 37 = .ok (.getfield 19, 3) := by decide +kernel
theorem dX3_match_40 : decode cX3_match 40 = .ok (.iload 4, 2) := by decide +kernel
theorem dX3_match_42 : decode cX3_match 42 = .ok (.iconst 0, 1) := by decide +kernel
theorem dX3_match_43 : decode cX3_match 43 = .ok (.iastore, 1) := by decide +kernel
theorem dX3_match_44 : decode cX3_match 44 = .ok (.iinc 4 1, 3) := by decide +kernel
theorem dX3_match_47 : decode cX3_match 47 = .ok (.goto (-18), 3) := by decide +kernel
theorem dX3_match_50 : decode cX3_match 50 = .ok (.aload_n 1, 1) := by decide +kernel
theorem dX3_match_51 : decode cX3_match 51 = .ok (.getfield 45, 3) := by decide +kernel
theorem dX3_match_54 : decode cX3_match 54 = .ok (.aload_n 2, 1) := by decide +kernel
theorem dX3_match_55 : decode cX3_match 55 = .ok (.getfield 45, 3) := by decide +kernel
theorem dX3_match_58 : decode cX3_match 58 = .ok (.if_icmp .ne 9, 3) := by decide +kernel
theorem dX3_match_61 : decode cX3_match 61 = .ok (.aload_n 0, 1) := by decide +kernel
theorem dX3_match_62 : decode cX3_match 62 = .ok (.iconst 0, 1) := by decide +kernel
theorem dX3_match_63 : decode cX3_match 63 = .ok (.iconst 0, 1) := by decide +kernel
theorem dX3_match_64 : decode cX3_match 64 = .ok (.invokevirtual 48, 3) := by decide +kernel
theorem dX3_match_67 : decode cX3_match 67 = .ok (.return_, 1) := by decide +kernel
theorem dX3_send_0 : decode cX3_send 0 = .ok (.iload_n 1, 1) := by decide +kernel
theorem dX3_send_1 : decode cX3_send 1 = .ok (.aload_n 0, 1) := by decide +kernel
theorem dX3_send_2 : decode cX3_send 2 = .ok (.getfield 25, 3) := by decide +kernel
theorem dX3_send_5 : decode cX3_send 5 = .ok (.getfield 45, 3) := by decide +kernel
theorem dX3_send_8 : decode cX3_send 8 = .ok (.if_icmp .lt 8, 3) := by decide +kernel
theorem dX3_send_11 : decode cX3_send 11 = .ok (.aload_n 0, 1) := by decide +kernel
theorem dX3_send_12 : decode cX3_send 12 = .ok (.invokevirtual 52, 3) := by decide +kernel
theorem dX3_send_15 : decode cX3_send 15 = .ok (.return_, 1) := by decide +kernel
theorem dX3_send_16 : decode cX3_send 16 = .ok (.iconst 0, 1) := by decide +kernel
theorem dX3_send_17 : decode cX3_send 17 = .ok (.istore_n 3, 1) := by decide +kernel
theorem dX3_send_18 : decode cX3_send 18 = .ok (.iload_n 3, 1) := by decide +kernel
theorem dX3_send_19 : decode cX3_send 19 = .ok (.aload_n 0, 1) := by decide +kernel
theorem dX3_send_20 : decode cX3_send 20 = .ok (.getfield 29, 3) := by decide +kernel
theorem dX3_send_23 : decode cX3_send 23 = .ok (.getfield 45, 3) := by decide +kernel
theorem dX3_send_26 : decode cX3_send 26 = .ok (.if_icmp .ge 45, 3) := by decide +kernel
theorem dX3_send_29 : decode cX3_send 29 = .ok (.iload_n 2, 1) := by decide +kernel
theorem dX3_send_30 : decode cX3_send 30 = .ok (.iload_n 3, 1) := by decide +kernel
theorem dX3_send_31 : decode cX3_send 31 = .ok (.invokestatic 55, 3) := by decide +kernel
theorem dX3_send_34 : decode cX3_send 34 = .ok (.ifCond .ne 31, 3) := by decide +kernel
theorem dX3_send_37 : decode cX3_send 37 = .ok (.aload_n 0, 1) := by decide +kernel
theorem dX3_send_38 : decode cX3_send 38 = .ok (.iload_n 1, 1) := by decide +kernel
theorem dX3_send_39 : decode cX3_send 39 = .ok (.iload_n 3, 1) := by decide +kernel
theorem dX3_send_40 : decode cX3_send 40 = .ok (.invokevirtual 59, 3) := by decide +kernel
theorem dX3_send_43 : decode cX3_send 43 = .ok (.ifCond .eq 22, 3) := by decide +kernel
theorem dX3_send_46 : decode cX3_send 46 = .ok (.aload_n 0, 1) := by decide +kernel
theorem dX3_send_47 : decode cX3_send 47 = .ok (.getfield 32, 3) := by decide +kernel
theorem dX3_send_50 : decode cX3_send 50 = .ok (.iload_n 1, 1) := by decide +kernel
theorem dX3_send_51 : decode cX3_send 51 = .ok (.iload_n 3, 1) := by decide +kernel
theorem dX3_send_52 : decode cX3_send 52 = .ok (.iastore, 1) := by decide +kernel
theorem dX3_send_53 : decode cX3_send 53 = .ok (.aload_n 0, 1) := by decide +kernel
theorem dX3_send_54 : decode cX3_send 54 = .ok (.iload_n 1, 1) := by decide +kernel
theorem dX3_send_55 : decode cX3_send 55 = .ok (.iconst 1, 1) := by decide +kernel
theorem dX3_send_56 : decode cX3_send 56 = .ok (.iadd, 1) := by decide +kernel
theorem dX3_send_57 : decode cX3_send 57 = .ok (.iload_n 2, 1) := by decide +kernel
theorem dX3_send_58 : decode cX3_send 58 = .ok (.iconst 1, 1) := by decide +kernel
theorem dX3_send_59 : decode cX3_send 59 = .ok (.iload_n 3, 1) := by decide +kernel
theorem dX3_send_60 : decode cX3_send 60 = .ok (.ishl, 1) := by decide +kernel
theorem dX3_send_61 : decode cX3_send 61 = .ok (.ior, 1) := by decide +kernel
theorem dX3_send_62 : decode cX3_send 62 = .ok (.invokevirtual 48, 3) := by decide +kernel
theorem dX3_send_65 : decode cX3_send 65 = .ok (.iinc 3 1, 3) := by decide +kernel
theorem dX3_send_68 : decode cX3_send 68 = .ok (.goto (-50), 3) := by decide +kernel
theorem dX3_send_71 : decode cX3_send 71 = .ok (.return_, 1) := by decide +kernel
theorem dX3_fits_0 : decode cX3_fits 0 = .ok (.iload_n 1, 1) := by decide +kernel
theorem dX3_fits_1 : decode cX3_fits 1 = .ok (.iload_n 2, 1) := by decide +kernel
theorem dX3_fits_2 : decode cX3_fits 2 = .ok (.if_icmp .eq 14, 3) := by decide +kernel
theorem dX3_fits_5 : decode cX3_fits 5 = .ok (.aload_n 0, 1) := by decide +kernel
theorem dX3_fits_6 : decode cX3_fits 6 = .ok (.getfield 35, 3) := by decide +kernel
theorem dX3_fits_9 : decode cX3_fits 9 = .ok (.iload_n 1, 1) := by decide +kernel
theorem dX3_fits_10 : decode cX3_fits 10 = .ok (.invokestatic 55, 3) := by decide +kernel
theorem dX3_fits_13 : decode cX3_fits 13 = .ok (.ifCond .ne 16, 3) := by decide +kernel
theorem dX3_fits_16 : decode cX3_fits 16 = .ok (.aload_n 0, 1) := by decide +kernel
theorem dX3_fits_17 : decode cX3_fits 17 = .ok (.iload_n 1, 1) := by decide +kernel
theorem dX3_fits_18 : decode cX3_fits 18 = .ok (.iload_n 2, 1) := by decide +kernel
theorem dX3_fits_19 : decode cX3_fits 19 = .ok (.invokevirtual 62, 3) := by decide +kernel
theorem dX3_fits_22 : decode cX3_fits 22 = .ok (.ifCond .ne 7, 3) := by decide +kernel
theorem dX3_fits_25 : decode cX3_fits 25 = .ok (.iconst 1, 1) := by decide +kernel
theorem dX3_fits_26 : decode cX3_fits 26 = .ok (.goto 4, 3) := by decide +kernel
theorem dX3_fits_29 : decode cX3_fits 29 = .ok (.iconst 0, 1) := by decide +kernel
theorem dX3_fits_30 : decode cX3_fits 30 = .ok (.ireturn, 1) := by decide +kernel
theorem dX3_unlike_0 : decode cX3_unlike 0 = .ok (.aload_n 0, 1) := by decide +kernel
theorem dX3_unlike_1 : decode cX3_unlike 1 = .ok (.getfield 25, 3) := by decide +kernel
theorem dX3_unlike_4 : decode cX3_unlike 4 = .ok (.getfield 66, 3) := by decide +kernel
theorem dX3_unlike_7 : decode cX3_unlike 7 = .ok (.iload_n 1, 1) := by decide +kernel
theorem dX3_unlike_8 : decode cX3_unlike 8 = .ok (.iaload, 1) := by decide +kernel
theorem dX3_unlike_9 : decode cX3_unlike 9 = .ok (.aload_n 0, 1) := by decide +kernel
theorem dX3_unlike_10 : decode cX3_unlike 10 = .ok (.getfield 29, 3) := by decide +kernel
theorem dX3_unlike_13 : decode cX3_unlike 13 = .ok (.getfield 66, 3) := by decide +kernel
theorem dX3_unlike_16 : decode cX3_unlike 16 = .ok (.iload_n 2, 1) := by decide +kernel
theorem dX3_unlike_17 : decode cX3_unlike 17 = .ok (.iaload, 1) := by decide +kernel
theorem dX3_unlike_18 : decode cX3_unlike 18 = .ok (.if_icmp .ne 7, 3) := by decide +kernel
theorem dX3_unlike_21 : decode cX3_unlike 21 = .ok (.iconst 0, 1) := by decide +kernel
theorem dX3_unlike_22 : decode cX3_unlike 22 = .ok (.goto 4, 3) := by decide +kernel
theorem dX3_unlike_25 : decode cX3_unlike 25 = .ok (.iconst 1, 1) := by decide +kernel
theorem dX3_unlike_26 : decode cX3_unlike 26 = .ok (.istore_n 3, 1) := by decide +kernel
theorem dX3_unlike_27 : decode cX3_unlike 27 = .ok (.iconst 0, 1) := by decide +kernel
theorem dX3_unlike_28 : decode cX3_unlike 28 = .ok (.istore 4, 2) := by decide +kernel
theorem dX3_unlike_30 : decode cX3_unlike 30 = .ok (.iload 4, 2) := by decide +kernel
theorem dX3_unlike_32 : decode cX3_unlike 32 = .ok (.iload_n 1, 1) := by decide +kernel
theorem dX3_unlike_33 : decode cX3_unlike 33 = .ok (.if_icmp .ge 44, 3) := by decide +kernel
theorem dX3_unlike_36 : decode cX3_unlike 36 = .ok (.aload_n 0, 1) := by decide +kernel
theorem dX3_unlike_37 : decode cX3_unlike 37 = .ok (.getfield 25, 3) := by decide +kernel
theorem dX3_unlike_40 : decode cX3_unlike 40 = .ok (.getfield 69, 3) := by decide +kernel
theorem dX3_unlike_43 : decode cX3_unlike 43 = .ok (.iload 4, 2) := by decide +kernel
theorem dX3_unlike_45 : decode cX3_unlike 45 = .ok (.aaload, 1) := by decide +kernel
theorem dX3_unlike_46 : decode cX3_unlike 46 = .ok (.iload_n 1, 1) := by decide +kernel
theorem dX3_unlike_47 : decode cX3_unlike 47 = .ok (.iaload, 1) := by decide +kernel
theorem dX3_unlike_48 : decode cX3_unlike 48 = .ok (.aload_n 0, 1) := by decide +kernel
theorem dX3_unlike_49 : decode cX3_unlike 49 = .ok (.getfield 29, 3) := by decide +kernel
theorem dX3_unlike_52 : decode cX3_unlike 52 = .ok (.getfield 69, 3) := by decide +kernel
theorem dX3_unlike_55 : decode cX3_unlike 55 = .ok (.aload_n 0, 1) := by decide +kernel
theorem dX3_unlike_56 : decode cX3_unlike 56 = .ok (.getfield 32, 3) := by decide +kernel
theorem dX3_unlike_59 : decode cX3_unlike 59 = .ok (.iload 4, 2) := by decide +kernel
theorem dX3_unlike_61 : decode cX3_unlike 61 = .ok (.iaload, 1) := by decide +kernel
theorem dX3_unlike_62 : decode cX3_unlike 62 = .ok (.aaload, 1) := by decide +kernel
theorem dX3_unlike_63 : decode cX3_unlike 63 = .ok (.iload_n 2, 1) := by decide +kernel
theorem dX3_unlike_64 : decode cX3_unlike 64 = .ok (.iaload, 1) := by decide +kernel
theorem dX3_unlike_65 : decode cX3_unlike 65 = .ok (.if_icmp .eq 6, 3) := by decide +kernel
theorem dX3_unlike_68 : decode cX3_unlike 68 = .ok (.iinc 3 1, 3) := by decide +kernel
theorem dX3_unlike_71 : decode cX3_unlike 71 = .ok (.iinc 4 1, 3) := by decide +kernel
theorem dX3_unlike_74 : decode cX3_unlike 74 = .ok (.goto (-44), 3) := by decide +kernel
theorem dX3_unlike_77 : decode cX3_unlike 77 = .ok (.iload_n 3, 1) := by decide +kernel
theorem dX3_unlike_78 : decode cX3_unlike 78 = .ok (.ireturn, 1) := by decide +kernel
theorem dX3_note_0 : decode cX3_note 0 = .ok (.aload_n 0, 1) := by decide +kernel
theorem dX3_note_1 : decode cX3_note 1 = .ok (.getfield 9, 3) := by decide +kernel
theorem dX3_note_4 : decode cX3_note 4 = .ok (.ifCond .ne 18, 3) := by decide +kernel
theorem dX3_note_7 : decode cX3_note 7 = .ok (.aload_n 0, 1) := by decide +kernel
theorem dX3_note_8 : decode cX3_note 8 = .ok (.getfield 32, 3) := by decide +kernel
theorem dX3_note_11 : decode cX3_note 11 = .ok (.iconst 0, 1) := by decide +kernel
theorem dX3_note_12 : decode cX3_note 12 = .ok (.aload_n 0, 1) := by decide +kernel
theorem dX3_note_13 : decode cX3_note 13 = .ok (.getfield 15, 3) := by decide +kernel
theorem dX3_note_16 : decode cX3_note 16 = .ok (.iconst 0, 1) := by decide +kernel
theorem dX3_note_17 : decode cX3_note 17 = .ok (.bipush 7, 2) := by decide +kernel
theorem dX3_note_19 : decode cX3_note 19 = .ok (.invokestatic 73, 3) := by decide +kernel
theorem dX3_note_22 : decode cX3_note 22 = .ok (.aload_n 0, 1) := by decide +kernel
theorem dX3_note_23 : decode cX3_note 23 = .ok (.dup, 1) := by decide +kernel
theorem dX3_note_24 : decode cX3_note 24 = .ok (.getfield 9, 3) := by decide +kernel
theorem dX3_note_27 : decode cX3_note 27 = .ok (.iconst 1, 1) := by decide +kernel
theorem dX3_note_28 : decode cX3_note 28 = .ok (.iadd, 1) := by decide +kernel
theorem dX3_note_29 : decode cX3_note 29 = .ok (.putfield 9, 3) := by decide +kernel
theorem dX3_note_32 : decode cX3_note 32 = .ok (.iconst 0, 1) := by decide +kernel
theorem dX3_note_33 : decode cX3_note 33 = .ok (.istore_n 1, 1) := by decide +kernel
theorem dX3_note_34 : decode cX3_note 34 = .ok (.iload_n 1, 1) := by decide +kernel
theorem dX3_note_35 : decode cX3_note 35 = .ok (.aload_n 0, 1) := by decide +kernel
theorem dX3_note_36 : decode cX3_note 36 = .ok (.getfield 25, 3) := by decide +kernel
theorem dX3_note_39 : decode cX3_note 39 = .ok (.getfield 45, 3) := by decide +kernel
theorem dX3_note_42 : decode cX3_note 42 = .ok (.if_icmp .ge 26, 3) := by decide +kernel
theorem dX3_note_45 : decode cX3_note 45 = .ok (.aload_n 0, 1) := by decide +kernel
theorem dX3_note_46 : decode cX3_note 46 = .ok (.getfield 19, 3) := by decide +kernel
theorem dX3_note_49 : decode cX3_note 49 = .ok (.iload_n 1, 1) := by decide +kernel
theorem dX3_note_50 : decode cX3_note 50 = .ok (.dup2, 1) := by decide +kernel
theorem dX3_note_51 : decode cX3_note 51 = .ok (.iaload, 1) := by decide +kernel
theorem dX3_note_52 : decode cX3_note 52 = .ok (.iconst 1, 1) := by decide +kernel
theorem dX3_note_53 : decode cX3_note 53 = .ok (.aload_n 0, 1) := by decide +kernel
theorem dX3_note_54 : decode cX3_note 54 = .ok (.getfield 32, 3) := by decide +kernel
theorem dX3_note_57 : decode cX3_note 57 = .ok (.iload_n 1, 1) := by decide +kernel
theorem dX3_note_58 : decode cX3_note 58 = .ok (.iaload, 1) := by decide +kernel
theorem dX3_note_59 : decode cX3_note 59 = .ok (.ishl, 1) := by decide +kernel
theorem dX3_note_60 : decode cX3_note 60 = .ok (.ior, 1) := by decide +kernel
theorem dX3_note_61 : decode cX3_note 61 = .ok (.iastore, 1) := by decide +kernel
theorem dX3_note_62 : decode cX3_note 62 = .ok (.iinc 1 1, 3) := by decide +kernel
theorem dX3_note_65 : decode cX3_note 65 = .ok (.goto (-31), 3) := by decide +kernel
theorem dX3_note_68 : decode cX3_note 68 = .ok (.return_, 1) := by decide +kernel
theorem dX3_orbits_0 : decode cX3_orbits 0 = .ok (.iconst 0, 1) := by decide +kernel
theorem dX3_orbits_1 : decode cX3_orbits 1 = .ok (.istore_n 1, 1) := by decide +kernel
theorem dX3_orbits_2 : decode cX3_orbits 2 = .ok (.iconst 0, 1) := by decide +kernel
theorem dX3_orbits_3 : decode cX3_orbits 3 = .ok (.istore_n 2, 1) := by decide +kernel
theorem dX3_orbits_4 : decode cX3_orbits 4 = .ok (.iload_n 2, 1) := by decide +kernel
theorem dX3_orbits_5 : decode cX3_orbits 5 = .ok (.aload_n 0, 1) := by decide +kernel
theorem dX3_orbits_6 : decode cX3_orbits 6 = .ok (.getfield 25, 3) := by decide +kernel
theorem dX3_orbits_9 : decode cX3_orbits 9 = .ok (.getfield 45, 3) := by decide +kernel
theorem dX3_orbits_12 : decode cX3_orbits 12 = .ok (.if_icmp .ge 27, 3) := by decide +kernel
theorem dX3_orbits_15 : decode cX3_orbits 15 = .ok (.aload_n 0, 1) := by decide +kernel
theorem dX3_orbits_16 : decode cX3_orbits 16 = .ok (.getfield 19, 3) := by decide +kernel
theorem dX3_orbits_19 : decode cX3_orbits 19 = .ok (.iload_n 2, 1) := by decide +kernel
theorem dX3_orbits_20 : decode cX3_orbits 20 = .ok (.iaload, 1) := by decide +kernel
theorem dX3_orbits_21 : decode cX3_orbits 21 = .ok (.iconst 1, 1) := by decide +kernel
theorem dX3_orbits_22 : decode cX3_orbits 22 = .ok (.iload_n 2, 1) := by decide +kernel
theorem dX3_orbits_23 : decode cX3_orbits 23 = .ok (.ishl, 1) := by decide +kernel
theorem dX3_orbits_24 : decode cX3_orbits 24 = .ok (.iconst 1, 1) := by decide +kernel
theorem dX3_orbits_25 : decode cX3_orbits 25 = .ok (.isub, 1) := by decide +kernel
theorem dX3_orbits_26 : decode cX3_orbits 26 = .ok (.iand, 1) := by decide +kernel
theorem dX3_orbits_27 : decode cX3_orbits 27 = .ok (.ifCond .ne 6, 3) := by decide +kernel
theorem dX3_orbits_30 : decode cX3_orbits 30 = .ok (.iinc 1 1, 3) := by decide +kernel
theorem dX3_orbits_33 : decode cX3_orbits 33 = .ok (.iinc 2 1, 3) := by decide +kernel
theorem dX3_orbits_36 : decode cX3_orbits 36 = .ok (.goto (-32), 3) := by decide +kernel
theorem dX3_orbits_39 : decode cX3_orbits 39 = .ok (.iload_n 1, 1) := by decide +kernel
theorem dX3_orbits_40 : decode cX3_orbits 40 = .ok (.ireturn, 1) := by decide +kernel
theorem dX3_unmoved_0 : decode cX3_unmoved 0 = .ok (.iconst 0, 1) := by decide +kernel
theorem dX3_unmoved_1 : decode cX3_unmoved 1 = .ok (.istore_n 1, 1) := by decide +kernel
theorem dX3_unmoved_2 : decode cX3_unmoved 2 = .ok (.iconst 0, 1) := by decide +kernel
theorem dX3_unmoved_3 : decode cX3_unmoved 3 = .ok (.istore_n 2, 1) := by decide +kernel
theorem dX3_unmoved_4 : decode cX3_unmoved 4 = .ok (.iload_n 2, 1) := by decide +kernel
theorem dX3_unmoved_5 : decode cX3_unmoved 5 = .ok (.aload_n 0, 1) := by decide +kernel
theorem dX3_unmoved_6 : decode cX3_unmoved 6 = .ok (.getfield 25, 3) := by decide +kernel
theorem dX3_unmoved_9 : decode cX3_unmoved 9 = .ok (.getfield 45, 3) := by decide +kernel
theorem dX3_unmoved_12 : decode cX3_unmoved 12 = .ok (.if_icmp .ge 24, 3) := by decide +kernel
theorem dX3_unmoved_15 : decode cX3_unmoved 15 = .ok (.aload_n 0, 1) := by decide +kernel
theorem dX3_unmoved_16 : decode cX3_unmoved 16 = .ok (.getfield 19, 3) := by decide +kernel
theorem dX3_unmoved_19 : decode cX3_unmoved 19 = .ok (.iload_n 2, 1) := by decide +kernel
theorem dX3_unmoved_20 : decode cX3_unmoved 20 = .ok (.iaload, 1) := by decide +kernel
theorem dX3_unmoved_21 : decode cX3_unmoved 21 = .ok (.iconst 1, 1) := by decide +kernel
theorem dX3_unmoved_22 : decode cX3_unmoved 22 = .ok (.iload_n 2, 1) := by decide +kernel
theorem dX3_unmoved_23 : decode cX3_unmoved 23 = .ok (.ishl, 1) := by decide +kernel
theorem dX3_unmoved_24 : decode cX3_unmoved 24 = .ok (.if_icmp .ne 6, 3) := by decide +kernel
theorem dX3_unmoved_27 : decode cX3_unmoved 27 = .ok (.iinc 1 1, 3) := by decide +kernel
theorem dX3_unmoved_30 : decode cX3_unmoved 30 = .ok (.iinc 2 1, 3) := by decide +kernel
theorem dX3_unmoved_33 : decode cX3_unmoved 33 = .ok (.goto (-29), 3) := by decide +kernel
theorem dX3_unmoved_36 : decode cX3_unmoved 36 = .ok (.iload_n 1, 1) := by decide +kernel
theorem dX3_unmoved_37 : decode cX3_unmoved 37 = .ok (.ireturn, 1) := by decide +kernel
theorem dX3_leastChanges_0 : decode cX3_leastChanges 0 = .ok (.aload_n 0, 1) := by decide +kernel
theorem dX3_leastChanges_1 : decode cX3_leastChanges 1 = .ok (.getfield 25, 3) := by decide +kernel
theorem dX3_leastChanges_4 : decode cX3_leastChanges 4 = .ok (.aload_n 1, 1) := by decide +kernel
theorem dX3_leastChanges_5 : decode cX3_leastChanges 5 = .ok (.invokevirtual 41, 3) := by decide +kernel
theorem dX3_leastChanges_8 : decode cX3_leastChanges 8 = .ok (.aload_n 0, 1) := by decide +kernel
theorem dX3_leastChanges_9 : decode cX3_leastChanges 9 = .ok (.getfield 29, 3) := by decide +kernel
theorem dX3_leastChanges_12 : decode cX3_leastChanges 12 = .ok (.aload_n 2, 1) := by decide +kernel
theorem dX3_leastChanges_13 : decode cX3_leastChanges 13 = .ok (.invokevirtual 41, 3) := by decide +kernel
theorem dX3_leastChanges_16 : decode cX3_leastChanges 16 = .ok (.aload_n 0, 1) := by decide +kernel
theorem dX3_leastChanges_17 : decode cX3_leastChanges 17 = .ok (.bipush 29, 2) := by decide +kernel
theorem dX3_leastChanges_19 : decode cX3_leastChanges 19 = .ok (.putfield 38, 3) := by decide +kernel
theorem dX3_leastChanges_22 : decode cX3_leastChanges 22 = .ok (.aload_n 0, 1) := by decide +kernel
theorem dX3_leastChanges_23 : decode cX3_leastChanges 23 = .ok (.iconst 0, 1) := by decide +kernel
theorem dX3_leastChanges_24 : decode cX3_leastChanges 24 = .ok (.iconst 0, 1) := by decide +kernel
theorem dX3_leastChanges_25 : decode cX3_leastChanges 25 = .ok (.iconst 0, 1) := by decide +kernel
theorem dX3_leastChanges_26 : decode cX3_leastChanges 26 = .ok (.invokevirtual 79, 3) := by decide +kernel
theorem dX3_leastChanges_29 : decode cX3_leastChanges 29 = .ok (.aload_n 0, 1) := by decide +kernel
theorem dX3_leastChanges_30 : decode cX3_leastChanges 30 = .ok (.getfield 38, 3) := by decide +kernel
theorem dX3_leastChanges_33 : decode cX3_leastChanges 33 = .ok (.ireturn, 1) := by decide +kernel
theorem dX3_weigh_0 : decode cX3_weigh 0 = .ok (.iload_n 3, 1) := by decide +kernel
theorem dX3_weigh_1 : decode cX3_weigh 1 = .ok (.aload_n 0, 1) := by decide +kernel
theorem dX3_weigh_2 : decode cX3_weigh 2 = .ok (.getfield 38, 3) := by decide +kernel
theorem dX3_weigh_5 : decode cX3_weigh 5 = .ok (.if_icmp .lt 4, 3) := by decide +kernel
theorem dX3_weigh_8 : decode cX3_weigh 8 = .ok (.return_, 1) := by decide +kernel
theorem dX3_weigh_9 : decode cX3_weigh 9 = .ok (.iload_n 1, 1) := by decide +kernel
theorem dX3_weigh_10 : decode cX3_weigh 10 = .ok (.aload_n 0, 1) := by decide +kernel
theorem dX3_weigh_11 : decode cX3_weigh 11 = .ok (.getfield 25, 3) := by decide +kernel
theorem dX3_weigh_14 : decode cX3_weigh 14 = .ok (.getfield 45, 3) := by decide +kernel
theorem dX3_weigh_17 : decode cX3_weigh 17 = .ok (.if_icmp .lt 9, 3) := by decide +kernel
theorem dX3_weigh_20 : decode cX3_weigh 20 = .ok (.aload_n 0, 1) := by decide +kernel
theorem dX3_weigh_21 : decode cX3_weigh 21 = .ok (.iload_n 3, 1) := by decide +kernel
theorem dX3_weigh_22 : decode cX3_weigh 22 = .ok (.putfield 38, 3) := by decide +kernel
theorem dX3_weigh_25 : decode cX3_weigh 25 = .ok (.return_, 1) := by decide +kernel
theorem dX3_weigh_26 : decode cX3_weigh 26 = .ok (.iconst 0, 1) := by decide +kernel
theorem dX3_weigh_27 : decode cX3_weigh 27 = .ok (.istore 4, 2) := by decide +kernel
theorem dX3_weigh_29 : decode cX3_weigh 29 = .ok (.iload 4, 2) := by decide +kernel
theorem dX3_weigh_31 : decode cX3_weigh 31 = .ok (.aload_n 0, 1) := by decide +kernel
theorem dX3_weigh_32 : decode cX3_weigh 32 = .ok (.getfield 29, 3) := by decide +kernel
theorem dX3_weigh_35 : decode cX3_weigh 35 = .ok (.getfield 45, 3) := by decide +kernel
theorem dX3_weigh_38 : decode cX3_weigh 38 = .ok (.if_icmp .ge 48, 3) := by decide +kernel
theorem dX3_weigh_41 : decode cX3_weigh 41 = .ok (.iload_n 2, 1) := by decide +kernel
theorem dX3_weigh_42 : decode cX3_weigh 42 = .ok (.iload 4, 2) := by decide +kernel
theorem dX3_weigh_44 : decode cX3_weigh 44 = .ok (.invokestatic 55, 3) := by decide +kernel
theorem dX3_weigh_47 : decode cX3_weigh 47 = .ok (.ifCond .ne 33, 3) := by decide +kernel
theorem dX3_weigh_50 : decode cX3_weigh 50 = .ok (.aload_n 0, 1) := by decide +kernel
theorem dX3_weigh_51 : decode cX3_weigh 51 = .ok (.getfield 32, 3) := by decide +kernel
theorem dX3_weigh_54 : decode cX3_weigh 54 = .ok (.iload_n 1, 1) := by decide +kernel
theorem dX3_weigh_55 : decode cX3_weigh 55 = .ok (.iload 4, 2) := by decide +kernel
theorem dX3_weigh_57 : decode cX3_weigh 57 = .ok (.iastore, 1) := by decide +kernel
theorem dX3_weigh_58 : decode cX3_weigh 58 = .ok (.aload_n 0, 1) := by decide +kernel
theorem dX3_weigh_59 : decode cX3_weigh 59 = .ok (.iload_n 1, 1) := by decide +kernel
theorem dX3_weigh_60 : decode cX3_weigh 60 = .ok (.iconst 1, 1) := by decide +kernel
theorem dX3_weigh_61 : decode cX3_weigh 61 = .ok (.iadd, 1) := by decide +kernel
theorem dX3_weigh_62 : decode cX3_weigh 62 = .ok (.iload_n 2, 1) := by decide +kernel
theorem dX3_weigh_63 : decode cX3_weigh 63 = .ok (.iconst 1, 1) := by decide +kernel
theorem dX3_weigh_64 : decode cX3_weigh 64 = .ok (.iload 4, 2) := by decide +kernel
theorem dX3_weigh_66 : decode cX3_weigh 66 = .ok (.ishl, 1) := by decide +kernel
theorem dX3_weigh_67 : decode cX3_weigh 67 = .ok (.ior, 1) := by decide +kernel
theorem dX3_weigh_68 : decode cX3_weigh 68 = .ok (.iload_n 3, 1) := by decide +kernel
theorem dX3_weigh_69 : decode cX3_weigh 69 = .ok (.aload_n 0, 1) := by decide +kernel
theorem dX3_weigh_70 : decode cX3_weigh 70 = .ok (.iload_n 1, 1) := by decide +kernel
theorem dX3_weigh_71 : decode cX3_weigh 71 = .ok (.iload 4, 2) := by decide +kernel
theorem dX3_weigh_73 : decode cX3_weigh 73 = .ok (.invokevirtual 62, 3) := by decide +kernel
theorem dX3_weigh_76 : decode cX3_weigh 76 = .ok (.iadd, 1) := by decide +kernel
theorem dX3_weigh_77 : decode cX3_weigh 77 = .ok (.invokevirtual 79, 3) := by decide +kernel
theorem dX3_weigh_80 : decode cX3_weigh 80 = .ok (.iinc 4 1, 3) := by decide +kernel
theorem dX3_weigh_83 : decode cX3_weigh 83 = .ok (.goto (-54), 3) := by decide +kernel
theorem dX3_weigh_86 : decode cX3_weigh 86 = .ok (.return_, 1) := by decide +kernel
theorem dX4_init_0 : decode cX4_init 0 = .ok (.aload_n 0, 1) := by decide +kernel
theorem dX4_init_1 : decode cX4_init 1 = .ok (.invokespecial 3, 3) := by decide +kernel
theorem dX4_init_4 : decode cX4_init 4 = .ok (.aload_n 0, 1) := by decide +kernel
theorem dX4_init_5 : decode cX4_init 5 = .ok (.iconst 0, 1) := by decide +kernel
theorem dX4_init_6 : decode cX4_init 6 = .ok (.putfield 9, 3) := by decide +kernel
theorem dX4_init_9 : decode cX4_init 9 = .ok (.aload_n 0, 1) := by decide +kernel
theorem dX4_init_10 : decode cX4_init 10 = .ok (.iconst 0, 1) := by decide +kernel
theorem dX4_init_11 : decode cX4_init 11 = .ok (.putfield 15, 3) := by decide +kernel
theorem dX4_init_14 : decode cX4_init 14 = .ok (.aload_n 0, 1) := by decide +kernel
theorem dX4_init_15 : decode cX4_init 15 = .ok (.bipush 8, 2) := by decide +kernel
theorem dX4_init_17 : decode cX4_init 17 = .ok (.newarray .int, 2) := by decide +kernel
theorem dX4_init_19 : decode cX4_init 19 = .ok (.putfield 18, 3) := by decide +kernel
theorem dX4_init_22 : decode cX4_init 22 = .ok (.aload_n 0, 1) := by decide +kernel
theorem dX4_init_23 : decode cX4_init 23 = .ok (.bipush 8, 2) := by decide +kernel
theorem dX4_init_25 : decode cX4_init 25 = .ok (.anewarray 22, 3) := by decide +kernel
theorem dX4_init_28 : decode cX4_init 28 = .ok (.putfield 24, 3) := by decide +kernel
theorem dX4_init_31 : decode cX4_init 31 = .ok (.iconst 0, 1) := by decide +kernel
theorem dX4_init_32 : decode cX4_init 32 = .ok (.istore_n 1, 1) := by decide +kernel
theorem dX4_init_33 : decode cX4_init 33 = .ok (.iload_n 1, 1) := by decide +kernel
theorem dX4_init_34 : decode cX4_init 34 = .ok (.bipush 8, 2) := by decide +kernel
theorem dX4_init_36 : decode cX4_init 36 = .ok (.if_icmp .ge 22, 3) := by decide +kernel
theorem dX4_init_39 : decode cX4_init 39 = .ok (.aload_n 0, 1) := by decide +kernel
theorem dX4_init_40 : decode cX4_init 40 = .ok (.getfield 24, 3) := by decide +kernel
theorem dX4_init_43 : decode cX4_init 43 = .ok (.iload_n 1, 1) := by decide +kernel
theorem dX4_init_44 : decode cX4_init 44 = .ok (.new 22, 3) := by decide +kernel
theorem dX4_init_47 : decode cX4_init 47 = .ok (.dup, 1) := by decide +kernel
theorem dX4_init_48 : decode cX4_init 48 = .ok (.invokespecial 28, 3) := by decide +kernel
theorem dX4_init_51 : decode cX4_init 51 = .ok (.aastore, 1) := by decide +kernel
theorem dX4_init_52 : decode cX4_init 52 = .ok (.iinc 1 1, 3) := by decide +kernel
theorem dX4_init_55 : decode cX4_init 55 = .ok (.goto (-22), 3) := by decide +kernel
theorem dX4_init_58 : decode cX4_init 58 = .ok (.return_, 1) := by decide +kernel
theorem dX4_keep_0 : decode cX4_keep 0 = .ok (.aload_n 0, 1) := by decide +kernel
theorem dX4_keep_1 : decode cX4_keep 1 = .ok (.getfield 18, 3) := by decide +kernel
theorem dX4_keep_4 : decode cX4_keep 4 = .ok (.aload_n 0, 1) := by decide +kernel
theorem dX4_keep_5 : decode cX4_keep 5 = .ok (.getfield 15, 3) := by decide +kernel
theorem dX4_keep_8 : decode cX4_keep 8 = .ok (.iload_n 1, 1) := by decide +kernel
theorem dX4_keep_9 : decode cX4_keep 9 = .ok (.iastore, 1) := by decide +kernel
theorem dX4_keep_10 : decode cX4_keep 10 = .ok (.aload_n 0, 1) := by decide +kernel
theorem dX4_keep_11 : decode cX4_keep 11 = .ok (.getfield 24, 3) := by decide +kernel
theorem dX4_keep_14 : decode cX4_keep 14 = .ok (.aload_n 0, 1) := by decide +kernel
theorem dX4_keep_15 : decode cX4_keep 15 = .ok (.getfield 15, 3) := by decide +kernel
theorem dX4_keep_18 : decode cX4_keep 18 = .ok (.aaload, 1) := by decide +kernel
theorem dX4_keep_19 : decode cX4_keep 19 = .ok (.aload_n 2, 1) := by decide +kernel
theorem dX4_keep_20 : decode cX4_keep 20 = .ok (.invokevirtual 29, 3) := by decide +kernel
theorem dX4_keep_23 : decode cX4_keep 23 = .ok (.aload_n 0, 1) := by decide +kernel
theorem dX4_keep_24 : decode cX4_keep 24 = .ok (.aload_n 0, 1) := by decide +kernel
theorem dX4_keep_25 : decode cX4_keep 25 = .ok (.getfield 15, 3) := by decide +kernel
theorem dX4_keep_28 : decode cX4_keep 28 = .ok (.iconst 1, 1) := by decide +kernel
theorem dX4_keep_29 : decode cX4_keep 29 = .ok (.iadd, 1) := by decide +kernel
theorem dX4_keep_30 : decode cX4_keep 30 = .ok (.bipush 8, 2) := by decide +kernel
theorem dX4_keep_32 : decode cX4_keep 32 = .ok (.irem, 1) := by decide +kernel
theorem dX4_keep_33 : decode cX4_keep 33 = .ok (.putfield 15, 3) := by decide +kernel
theorem dX4_keep_36 : decode cX4_keep 36 = .ok (.aload_n 0, 1) := by decide +kernel
theorem dX4_keep_37 : decode cX4_keep 37 = .ok (.aload_n 0, 1) := by decide +kernel
theorem dX4_keep_38 : decode cX4_keep 38 = .ok (.getfield 9, 3) := by decide +kernel
theorem dX4_keep_41 : decode cX4_keep 41 = .ok (.iconst 1, 1) := by decide +kernel
theorem dX4_keep_42 : decode cX4_keep 42 = .ok (.iadd, 1) := by decide +kernel
theorem dX4_keep_43 : decode cX4_keep 43 = .ok (.bipush 8, 2) := by decide +kernel
theorem dX4_keep_45 : decode cX4_keep 45 = .ok (.invokestatic 33, 3) := by decide +kernel
theorem dX4_keep_48 : decode cX4_keep 48 = .ok (.putfield 9, 3) := by decide +kernel
theorem dX4_keep_51 : decode cX4_keep 51 = .ok (.return_, 1) := by decide +kernel
theorem dX4_bringBack_0 : decode cX4_bringBack 0 = .ok (.aload_n 0, 1) := by decide +kernel
theorem dX4_bringBack_1 : decode cX4_bringBack 1 = .ok (.aload_n 0, 1) := by decide +kernel
theorem dX4_bringBack_2 : decode cX4_bringBack 2 = .ok (.getfield 15, 3) := by decide +kernel
theorem dX4_bringBack_5 : decode cX4_bringBack 5 = .ok (.bipush 8, 2) := by decide +kernel
theorem dX4_bringBack_7 : decode cX4_bringBack 7 = .ok (.iadd, 1) := by decide +kernel
theorem dX4_bringBack_8 : decode cX4_bringBack 8 = .ok (.iconst 1, 1) := by decide +kernel
theorem dX4_bringBack_9 : decode cX4_bringBack 9 = .ok (.isub, 1) := by decide +kernel
theorem dX4_bringBack_10 : decode cX4_bringBack 10 = .ok (.bipush 8, 2) := by decide +kernel
theorem dX4_bringBack_12 : decode cX4_bringBack 12 = .ok (.irem, 1) := by decide +kernel
theorem dX4_bringBack_13 : decode cX4_bringBack 13 = .ok (.putfield 15, 3) := by decide +kernel
theorem dX4_bringBack_16 : decode cX4_bringBack 16 = .ok (.aload_n 0, 1) := by decide +kernel
theorem dX4_bringBack_17 : decode cX4_bringBack 17 = .ok (.dup, 1) := by decide +kernel
theorem dX4_bringBack_18 : decode cX4_bringBack 18 = .ok (.getfield 9, 3) := by decide +kernel
theorem dX4_bringBack_21 : decode cX4_bringBack 21 = .ok (.iconst 1, 1) := by decide +kernel
theorem dX4_bringBack_22 : decode cX4_bringBack 22 = .ok (.isub, 1) := by decide +kernel
theorem dX4_bringBack_23 : decode cX4_bringBack 23 = .ok (.putfield 9, 3) := by decide +kernel
theorem dX4_bringBack_26 : decode cX4_bringBack 26 = .ok (.aload_n 1, 1) := by decide +kernel
theorem dX4_bringBack_27 : decode cX4_bringBack 27 = .ok (.aload_n 0, 1) := by decide +kernel
theorem dX4_bringBack_28 : decode cX4_bringBack 28 = .ok (.getfield 18, 3) := by decide +kernel
theorem dX4_bringBack_31 : decode cX4_bringBack 31 = .ok (.aload_n 0, 1) := by decide +kernel
theorem dX4_bringBack_32 : decode cX4_bringBack 32 = .ok (.getfield 15, 3) := by decide +kernel
theorem dX4_bringBack_35 : decode cX4_bringBack 35 = .ok (.iaload, 1) := by decide +kernel
theorem dX4_bringBack_36 : decode cX4_bringBack 36 = .ok (.aaload, 1) := by decide +kernel
theorem dX4_bringBack_37 : decode cX4_bringBack 37 = .ok (.aload_n 0, 1) := by decide +kernel
theorem dX4_bringBack_38 : decode cX4_bringBack 38 = .ok (.getfield 24, 3) := by decide +kernel
theorem dX4_bringBack_41 : decode cX4_bringBack 41 = .ok (.aload_n 0, 1) := by decide +kernel
theorem dX4_bringBack_42 : decode cX4_bringBack 42 = .ok (.getfield 15, 3) := by decide +kernel
theorem dX4_bringBack_45 : decode cX4_bringBack 45 = .ok (.aaload, 1) := by decide +kernel
theorem dX4_bringBack_46 : decode cX4_bringBack 46 = .ok (.invokevirtual 29, 3) := by decide +kernel
theorem dX4_bringBack_49 : decode cX4_bringBack 49 = .ok (.return_, 1) := by decide +kernel
theorem dX5_init_0 : decode cX5_init 0 = .ok (.aload_n 0, 1) := by decide +kernel
theorem dX5_init_1 : decode cX5_init 1 = .ok (.invokespecial 3, 3) := by decide +kernel
theorem dX5_init_4 : decode cX5_init 4 = .ok (.aload_n 0, 1) := by decide +kernel
theorem dX5_init_5 : decode cX5_init 5 = .ok (.iconst 0, 1) := by decide +kernel
theorem dX5_init_6 : decode cX5_init 6 = .ok (.putfield 9, 3) := by decide +kernel
theorem dX5_init_9 : decode cX5_init 9 = .ok (.aload_n 0, 1) := by decide +kernel
theorem dX5_init_10 : decode cX5_init 10 = .ok (.iconst 0, 1) := by decide +kernel
theorem dX5_init_11 : decode cX5_init 11 = .ok (.putfield 15, 3) := by decide +kernel
theorem dX5_init_14 : decode cX5_init 14 = .ok (.aload_n 0, 1) := by decide +kernel
theorem dX5_init_15 : decode cX5_init 15 = .ok (.iconst (-1), 1) := by decide +kernel
theorem dX5_init_16 : decode cX5_init 16 = .ok (.putfield 18, 3) := by decide +kernel
theorem dX5_init_19 : decode cX5_init 19 = .ok (.aload_n 0, 1) := by decide +kernel
theorem dX5_init_20 : decode cX5_init 20 = .ok (.new 21, 3) := by decide +kernel
theorem dX5_init_23 : decode cX5_init 23 = .ok (.dup, 1) := by decide +kernel
theorem dX5_init_24 : decode cX5_init 24 = .ok (.invokespecial 23, 3) := by decide +kernel
theorem dX5_init_27 : decode cX5_init 27 = .ok (.putfield 24, 3) := by decide +kernel
theorem dX5_init_30 : decode cX5_init 30 = .ok (.aload_n 0, 1) := by decide +kernel
theorem dX5_init_31 : decode cX5_init 31 = .ok (.sipush 400, 3) := by decide +kernel
theorem dX5_init_34 : decode cX5_init 34 = .ok (.newarray .int, 2) := by decide +kernel
theorem dX5_init_36 : decode cX5_init 36 = .ok (.putfield 28, 3) := by decide +kernel
theorem dX5_init_39 : decode cX5_init 39 = .ok (.aload_n 0, 1) := by decide +kernel
theorem dX5_init_40 : decode cX5_init 40 = .ok (.iconst 0, 1) := by decide +kernel
theorem dX5_init_41 : decode cX5_init 41 = .ok (.putfield 32, 3) := by decide +kernel
theorem dX5_init_44 : decode cX5_init 44 = .ok (.aload_n 0, 1) := by decide +kernel
theorem dX5_init_45 : decode cX5_init 45 = .ok (.iconst 0, 1) := by decide +kernel
theorem dX5_init_46 : decode cX5_init 46 = .ok (.putfield 35, 3) := by decide +kernel
theorem dX5_init_49 : decode cX5_init 49 = .ok (.aload_n 0, 1) := by decide +kernel
theorem dX5_init_50 : decode cX5_init 50 = .ok (.iconst 0, 1) := by decide +kernel
theorem dX5_init_51 : decode cX5_init 51 = .ok (.putfield 38, 3) := by decide +kernel
theorem dX5_init_54 : decode cX5_init 54 = .ok (.aload_n 0, 1) := by decide +kernel
theorem dX5_init_55 : decode cX5_init 55 = .ok (.iconst 0, 1) := by decide +kernel
theorem dX5_init_56 : decode cX5_init 56 = .ok (.putfield 41, 3) := by decide +kernel
theorem dX5_init_59 : decode cX5_init 59 = .ok (.aload_n 0, 1) := by decide +kernel
theorem dX5_init_60 : decode cX5_init 60 = .ok (.iconst 0, 1) := by decide +kernel
theorem dX5_init_61 : decode cX5_init 61 = .ok (.putfield 44, 3) := by decide +kernel
theorem dX5_init_64 : decode cX5_init 64 = .ok (.return_, 1) := by decide +kernel
theorem dX5_put_0 : decode cX5_put 0 = .ok (.bipush 24, 2) := by decide +kernel
theorem dX5_put_2 : decode cX5_put 2 = .ok (.istore_n 2, 1) := by decide +kernel
theorem dX5_put_3 : decode cX5_put 3 = .ok (.iload_n 2, 1) := by decide +kernel
theorem dX5_put_4 : decode cX5_put 4 = .ok (.ifCond .lt 45, 3) := by decide +kernel
theorem dX5_put_7 : decode cX5_put 7 = .ok (.aload_n 0, 1) := by decide +kernel
theorem dX5_put_8 : decode cX5_put 8 = .ok (.getfield 9, 3) := by decide +kernel
theorem dX5_put_11 : decode cX5_put 11 = .ok (.sipush 400, 3) := by decide +kernel
theorem dX5_put_14 : decode cX5_put 14 = .ok (.if_icmp .ge 35, 3) := by decide +kernel
theorem dX5_put_17 : decode cX5_put 17 = .ok (.aload_n 0, 1) := by decide +kernel
theorem dX5_put_18 : decode cX5_put 18 = .ok (.getfield 28, 3) := by decide +kernel
theorem dX5_put_21 : decode cX5_put 21 = .ok (.aload_n 0, 1) := by decide +kernel
theorem dX5_put_22 : decode cX5_put 22 = .ok (.getfield 9, 3) := by decide +kernel
theorem dX5_put_25 : decode cX5_put 25 = .ok (.iload_n 1, 1) := by decide +kernel
theorem dX5_put_26 : decode cX5_put 26 = .ok (.iload_n 2, 1) := by decide +kernel
theorem dX5_put_27 : decode cX5_put 27 = .ok (.iushr, 1) := by decide +kernel
theorem dX5_put_28 : decode cX5_put 28 = .ok (.sipush 255, 3) := by decide +kernel
theorem dX5_put_31 : decode cX5_put 31 = .ok (.iand, 1) := by decide +kernel
theorem dX5_put_32 : decode cX5_put 32 = .ok (.iastore, 1) := by decide +kernel
theorem dX5_put_33 : decode cX5_put 33 = .ok (.aload_n 0, 1) := by decide +kernel
theorem dX5_put_34 : decode cX5_put 34 = .ok (.dup, 1) := by decide +kernel
theorem dX5_put_35 : decode cX5_put 35 = .ok (.getfield 9, 3) := by decide +kernel
theorem dX5_put_38 : decode cX5_put 38 = .ok (.iconst 1, 1) := by decide +kernel
theorem dX5_put_39 : decode cX5_put 39 = .ok (.iadd, 1) := by decide +kernel
theorem dX5_put_40 : decode cX5_put 40 = .ok (.putfield 9, 3) := by decide +kernel
theorem dX5_put_43 : decode cX5_put 43 = .ok (.iinc 2 (-8), 3) := by decide +kernel
theorem dX5_put_46 : decode cX5_put 46 = .ok (.goto (-43), 3) := by decide +kernel
theorem dX5_put_49 : decode cX5_put 49 = .ok (.return_, 1) := by decide +kernel
theorem dX5_read_0 : decode cX5_read 0 = .ok (.aload_n 0, 1) := by decide +kernel
theorem dX5_read_1 : decode cX5_read 1 = .ok (.iload_n 1, 1) := by decide +kernel
theorem dX5_read_2 : decode cX5_read 2 = .ok (.putfield 32, 3) := by decide +kernel
theorem dX5_read_5 : decode cX5_read 5 = .ok (.aload_n 0, 1) := by decide +kernel
theorem dX5_read_6 : decode cX5_read 6 = .ok (.iconst 0, 1) := by decide +kernel
theorem dX5_read_7 : decode cX5_read 7 = .ok (.putfield 9, 3) := by decide +kernel
theorem dX5_read_10 : decode cX5_read 10 = .ok (.aload_n 0, 1) := by decide +kernel
theorem dX5_read_11 : decode cX5_read 11 = .ok (.iconst 0, 1) := by decide +kernel
theorem dX5_read_12 : decode cX5_read 12 = .ok (.putfield 41, 3) := by decide +kernel
theorem dX5_read_15 : decode cX5_read 15 = .ok (.aload_n 0, 1) := by decide +kernel
theorem dX5_read_16 : decode cX5_read 16 = .ok (.iconst 0, 1) := by decide +kernel
theorem dX5_read_17 : decode cX5_read 17 = .ok (.putfield 15, 3) := by decide +kernel
theorem dX5_read_20 : decode cX5_read 20 = .ok (.aload_n 0, 1) := by decide +kernel
theorem dX5_read_21 : decode cX5_read 21 = .ok (.iconst 0, 1) := by decide +kernel
theorem dX5_read_22 : decode cX5_read 22 = .ok (.putfield 44, 3) := by decide +kernel
theorem dX5_read_25 : decode cX5_read 25 = .ok (.aload_n 0, 1) := by decide +kernel
theorem dX5_read_26 : decode cX5_read 26 = .ok (.invokevirtual 47, 3) := by decide +kernel
theorem dX5_read_29 : decode cX5_read 29 = .ok (.aload_n 0, 1) := by decide +kernel
theorem dX5_read_30 : decode cX5_read 30 = .ok (.invokevirtual 50, 3) := by decide +kernel
theorem dX5_read_33 : decode cX5_read 33 = .ok (.ifCond .eq 7, 3) := by decide +kernel
theorem dX5_read_36 : decode cX5_read 36 = .ok (.aload_n 0, 1) := by decide +kernel
theorem dX5_read_37 : decode cX5_read 37 = .ok (.invokevirtual 54, 3) := by decide +kernel
theorem dX5_read_40 : decode cX5_read 40 = .ok (.return_, 1) := by decide +kernel
theorem dX5_readSize_0 : decode cX5_readSize 0 = .ok (.aload_n 0, 1) := by decide +kernel
theorem dX5_readSize_1 : decode cX5_readSize 1 = .ok (.ldc 57, 2) := by decide +kernel
theorem dX5_readSize_3 : decode cX5_readSize 3 = .ok (.invokevirtual 59, 3) := by decide +kernel
theorem dX5_readSize_6 : decode cX5_readSize 6 = .ok (.ifCond .ne 9, 3) := by decide +kernel
theorem dX5_readSize_9 : decode cX5_readSize 9 = .ok (.aload_n 0, 1) := by decide +kernel
theorem dX5_readSize_10 : decode cX5_readSize 10 = .ok (.iconst 1, 1) := by decide +kernel
theorem dX5_readSize_11 : decode cX5_readSize 11 = .ok (.invokevirtual 63, 3) := by decide +kernel
theorem dX5_readSize_14 : decode cX5_readSize 14 = .ok (.ireturn, 1) := by decide +kernel
theorem dX5_readSize_15 : decode cX5_readSize 15 = .ok (.aload_n 0, 1) := by decide +kernel
theorem dX5_readSize_16 : decode cX5_readSize 16 = .ok (.invokevirtual 47, 3) := by decide +kernel
theorem dX5_readSize_19 : decode cX5_readSize 19 = .ok (.aload_n 0, 1) := by decide +kernel
theorem dX5_readSize_20 : decode cX5_readSize 20 = .ok (.getfield 35, 3) := by decide +kernel
theorem dX5_readSize_23 : decode cX5_readSize 23 = .ok (.iconst 1, 1) := by decide +kernel
theorem dX5_readSize_24 : decode cX5_readSize 24 = .ok (.if_icmp .eq 9, 3) := by decide +kernel
theorem dX5_readSize_27 : decode cX5_readSize 27 = .ok (.aload_n 0, 1) := by decide +kernel
theorem dX5_readSize_28 : decode cX5_readSize 28 = .ok (.iconst 1, 1) := by decide +kernel
theorem dX5_readSize_29 : decode cX5_readSize 29 = .ok (.invokevirtual 63, 3) := by decide +kernel
theorem dX5_readSize_32 : decode cX5_readSize 32 = .ok (.ireturn, 1) := by decide +kernel
theorem dX5_readSize_33 : decode cX5_readSize 33 = .ok (.aload_n 0, 1) := by decide +kernel
theorem dX5_readSize_34 : decode cX5_readSize 34 = .ok (.invokevirtual 67, 3) := by decide +kernel
theorem dX5_readSize_37 : decode cX5_readSize 37 = .ok (.iconst 1, 1) := by decide +kernel
theorem dX5_readSize_38 : decode cX5_readSize 38 = .ok (.if_icmp .lt 12, 3) := by decide +kernel
theorem dX5_readSize_41 : decode cX5_readSize 41 = .ok (.aload_n 0, 1) := by decide +kernel
theorem dX5_readSize_42 : decode cX5_readSize 42 = .ok (.invokevirtual 67, 3) := by decide +kernel
theorem dX5_readSize_45 : decode cX5_readSize 45 = .ok (.bipush 7, 2) := by decide +kernel
theorem dX5_readSize_47 : decode cX5_readSize 47 = .ok (.if_icmp .le 9, 3) := by decide +kernel
theorem dX5_readSize_50 : decode cX5_readSize 50 = .ok (.aload_n 0, 1) := by decide +kernel
theorem dX5_readSize_51 : decode cX5_readSize 51 = .ok (.iconst 2, 1) := by decide +kernel
theorem dX5_readSize_52 : decode cX5_readSize 52 = .ok (.invokevirtual 63, 3) := by decide +kernel
theorem dX5_readSize_55 : decode cX5_readSize 55 = .ok (.ireturn, 1) := by decide +kernel
theorem dX5_readSize_56 : decode cX5_readSize 56 = .ok (.aload_n 0, 1) := by decide +kernel
theorem dX5_readSize_57 : decode cX5_readSize 57 = .ok (.getfield 24, 3) := by decide +kernel
theorem dX5_readSize_60 : decode cX5_readSize 60 = .ok (.aload_n 0, 1) := by decide +kernel
theorem dX5_readSize_61 : decode cX5_readSize 61 = .ok (.invokevirtual 67, 3) := by decide +kernel
theorem dX5_readSize_64 : decode cX5_readSize 64 = .ok (.invokevirtual 71, 3) := by decide +kernel
theorem dX5_readSize_67 : decode cX5_readSize 67 = .ok (.aload_n 0, 1) := by decide +kernel
theorem dX5_readSize_68 : decode cX5_readSize 68 = .ok (.invokevirtual 47, 3) := by decide +kernel
theorem dX5_readSize_71 : decode cX5_readSize 71 = .ok (.iconst 1, 1) := by decide +kernel
theorem dX5_readSize_72 : decode cX5_readSize 72 = .ok (.ireturn, 1) := by decide +kernel
theorem dX5_readLines_0 : decode cX5_readLines 0 = .ok (.iconst 0, 1) := by decide +kernel
theorem dX5_readLines_1 : decode cX5_readLines 1 = .ok (.istore_n 1, 1) := by decide +kernel
theorem dX5_readLines_2 : decode cX5_readLines 2 = .ok (.iload_n 1, 1) := by decide +kernel
theorem dX5_readLines_3 : decode cX5_readLines 3 = .ok (.sipush 400, 3) := by decide +kernel
theorem dX5_readLines_6 : decode cX5_readLines 6 = .ok (.if_icmp .ge 29, 3) := by decide +kernel
theorem dX5_readLines_9 : decode cX5_readLines 9 = .ok (.aload_n 0, 1) := by decide +kernel
theorem dX5_readLines_10 : decode cX5_readLines 10 = .ok (.getfield 35, 3) := by decide +kernel
theorem dX5_readLines_13 : decode cX5_readLines 13 = .ok (.iconst 3, 1) := by decide +kernel
theorem dX5_readLines_14 : decode cX5_readLines 14 = .ok (.if_icmp .ne 21, 3) := by decide +kernel
theorem dX5_readLines_17 : decode cX5_readLines 17 = .ok (.aload_n 0, 1) := by decide +kernel
theorem dX5_readLines_18 : decode cX5_readLines 18 = .ok (.invokevirtual 47, 3) := by decide +kernel
theorem dX5_readLines_21 : decode cX5_readLines 21 = .ok (.aload_n 0, 1) := by decide +kernel
theorem dX5_readLines_22 : decode cX5_readLines 22 = .ok (.invokevirtual 75, 3) := by decide +kernel
theorem dX5_readLines_25 : decode cX5_readLines 25 = .ok (.ifCond .ne 4, 3) := by decide +kernel
theorem dX5_readLines_28 : decode cX5_readLines 28 = .ok (.return_, 1) := by decide +kernel
theorem dX5_readLines_29 : decode cX5_readLines 29 = .ok (.iinc 1 1, 3) := by decide +kernel
theorem dX5_readLines_32 : decode cX5_readLines 32 = .ok (.goto (-30), 3) := by decide +kernel
theorem dX5_readLines_35 : decode cX5_readLines 35 = .ok (.aload_n 0, 1) := by decide +kernel
theorem dX5_readLines_36 : decode cX5_readLines 36 = .ok (.getfield 35, 3) := by decide +kernel
theorem dX5_readLines_39 : decode cX5_readLines 39 = .ok (.ifCond .eq 9, 3) := by decide +kernel
theorem dX5_readLines_42 : decode cX5_readLines 42 = .ok (.aload_n 0, 1) := by decide +kernel
theorem dX5_readLines_43 : decode cX5_readLines 43 = .ok (.iconst 1, 1) := by decide +kernel
theorem dX5_readLines_44 : decode cX5_readLines 44 = .ok (.invokevirtual 63, 3) := by decide +kernel
theorem dX5_readLines_47 : decode cX5_readLines 47 = .ok (.pop, 1) := by decide +kernel
theorem dX5_readLines_48 : decode cX5_readLines 48 = .ok (.return_, 1) := by decide +kernel
theorem dX5_readLine_0 : decode cX5_readLine 0 = .ok (.aload_n 0, 1) := by decide +kernel
theorem dX5_readLine_1 : decode cX5_readLine 1 = .ok (.ldc 78, 2) := by decide +kernel
theorem dX5_readLine_3 : decode cX5_readLine 3 = .ok (.invokevirtual 59, 3) := by decide +kernel
theorem dX5_readLine_6 : decode cX5_readLine 6 = .ok (.ifCond .eq 12, 3) := by decide +kernel
theorem dX5_readLine_9 : decode cX5_readLine 9 = .ok (.aload_n 0, 1) := by decide +kernel
theorem dX5_readLine_10 : decode cX5_readLine 10 = .ok (.invokevirtual 47, 3) := by decide +kernel
theorem dX5_readLine_13 : decode cX5_readLine 13 = .ok (.aload_n 0, 1) := by decide +kernel
theorem dX5_readLine_14 : decode cX5_readLine 14 = .ok (.invokevirtual 80, 3) := by decide +kernel
theorem dX5_readLine_17 : decode cX5_readLine 17 = .ok (.ireturn, 1) := by decide +kernel
theorem dX5_readLine_18 : decode cX5_readLine 18 = .ok (.aload_n 0, 1) := by decide +kernel
theorem dX5_readLine_19 : decode cX5_readLine 19 = .ok (.ldc 83, 2) := by decide +kernel
theorem dX5_readLine_21 : decode cX5_readLine 21 = .ok (.invokevirtual 59, 3) := by decide +kernel
theorem dX5_readLine_24 : decode cX5_readLine 24 = .ok (.ifCond .eq 12, 3) := by decide +kernel
theorem dX5_readLine_27 : decode cX5_readLine 27 = .ok (.aload_n 0, 1) := by decide +kernel
theorem dX5_readLine_28 : decode cX5_readLine 28 = .ok (.invokevirtual 47, 3) := by decide +kernel
theorem dX5_readLine_31 : decode cX5_readLine 31 = .ok (.aload_n 0, 1) := by decide +kernel
theorem dX5_readLine_32 : decode cX5_readLine 32 = .ok (.invokevirtual 85, 3) := by decide +kernel
theorem dX5_readLine_35 : decode cX5_readLine 35 = .ok (.ireturn, 1) := by decide +kernel
theorem dX5_readLine_36 : decode cX5_readLine 36 = .ok (.aload_n 0, 1) := by decide +kernel
theorem dX5_readLine_37 : decode cX5_readLine 37 = .ok (.ldc 88, 2) := by decide +kernel
theorem dX5_readLine_39 : decode cX5_readLine 39 = .ok (.invokevirtual 59, 3) := by decide +kernel
theorem dX5_readLine_42 : decode cX5_readLine 42 = .ok (.ifCond .eq 14, 3) := by decide +kernel
theorem dX5_readLine_45 : decode cX5_readLine 45 = .ok (.aload_n 0, 1) := by decide +kernel
theorem dX5_readLine_46 : decode cX5_readLine 46 = .ok (.invokevirtual 47, 3) := by decide +kernel
theorem dX5_readLine_49 : decode cX5_readLine 49 = .ok (.aload_n 0, 1) := by decide +kernel
theorem dX5_readLine_50 : decode cX5_readLine 50 = .ok (.iconst 2, 1) := by decide +kernel
theorem dX5_readLine_51 : decode cX5_readLine 51 = .ok (.iconst 0, 1) := by decide +kernel
theorem dX5_readLine_52 : decode cX5_readLine 52 = .ok (.invokevirtual 90, 3) := by decide +kernel
theorem dX5_readLine_55 : decode cX5_readLine 55 = .ok (.ireturn, 1) := by decide +kernel
theorem dX5_readLine_56 : decode cX5_readLine 56 = .ok (.aload_n 0, 1) := by decide +kernel
theorem dX5_readLine_57 : decode cX5_readLine 57 = .ok (.ldc 94, 2) := by decide +kernel
theorem dX5_readLine_59 : decode cX5_readLine 59 = .ok (.invokevirtual 59, 3) := by decide +kernel
theorem dX5_readLine_62 : decode cX5_readLine 62 = .ok (.ifCond .eq 14, 3) := by decide +kernel
theorem dX5_readLine_65 : decode cX5_readLine 65 = .ok (.aload_n 0, 1) := by decide +kernel
theorem dX5_readLine_66 : decode cX5_readLine 66 = .ok (.invokevirtual 47, 3) := by decide +kernel
theorem dX5_readLine_69 : decode cX5_readLine 69 = .ok (.aload_n 0, 1) := by decide +kernel
theorem dX5_readLine_70 : decode cX5_readLine 70 = .ok (.iconst 3, 1) := by decide +kernel
theorem dX5_readLine_71 : decode cX5_readLine 71 = .ok (.iconst 1, 1) := by decide +kernel
theorem dX5_readLine_72 : decode cX5_readLine 72 = .ok (.invokevirtual 90, 3) := by decide +kernel
theorem dX5_readLine_75 : decode cX5_readLine 75 = .ok (.ireturn, 1) := by decide +kernel
theorem dX5_readLine_76 : decode cX5_readLine 76 = .ok (.aload_n 0, 1) := by decide +kernel
theorem dX5_readLine_77 : decode cX5_readLine 77 = .ok (.iconst 1, 1) := by decide +kernel
theorem dX5_readLine_78 : decode cX5_readLine 78 = .ok (.invokevirtual 63, 3) := by decide +kernel
theorem dX5_readLine_81 : decode cX5_readLine 81 = .ok (.ireturn, 1) := by decide +kernel
theorem dX5_readPaint_0 : decode cX5_readPaint 0 = .ok (.aload_n 0, 1) := by decide +kernel
theorem dX5_readPaint_1 : decode cX5_readPaint 1 = .ok (.invokevirtual 96, 3) := by decide +kernel
theorem dX5_readPaint_4 : decode cX5_readPaint 4 = .ok (.ifCond .ne 5, 3) := by decide +kernel
theorem dX5_readPaint_7 : decode cX5_readPaint 7 = .ok (.iconst 0, 1) := by decide +kernel
theorem dX5_readPaint_8 : decode cX5_readPaint 8 = .ok (.ireturn, 1) := by decide +kernel
theorem dX5_readPaint_9 : decode cX5_readPaint 9 = .ok (.aload_n 0, 1) := by decide +kernel
theorem dX5_readPaint_10 : decode cX5_readPaint 10 = .ok (.invokevirtual 67, 3) := by decide +kernel
theorem dX5_readPaint_13 : decode cX5_readPaint 13 = .ok (.istore_n 1, 1) := by decide +kernel
theorem dX5_readPaint_14 : decode cX5_readPaint 14 = .ok (.aload_n 0, 1) := by decide +kernel
theorem dX5_readPaint_15 : decode cX5_readPaint 15 = .ok (.getfield 44, 3) := by decide +kernel
theorem dX5_readPaint_18 : decode cX5_readPaint 18 = .ok (.iload_n 1, 1) := by decide +kernel
theorem dX5_readPaint_19 : decode cX5_readPaint 19 = .ok (.invokestatic 99, 3) := by decide +kernel
theorem dX5_readPaint_22 : decode cX5_readPaint 22 = .ok (.ifCond .eq 9, 3) := by decide +kernel
theorem dX5_readPaint_25 : decode cX5_readPaint 25 = .ok (.aload_n 0, 1) := by decide +kernel
theorem dX5_readPaint_26 : decode cX5_readPaint 26 = .ok (.iconst 3, 1) := by decide +kernel
theorem dX5_readPaint_27 : decode cX5_readPaint 27 = .ok (.invokevirtual 63, 3) := by decide +kernel
theorem dX5_readPaint_30 : decode cX5_readPaint 30 = .ok (.ireturn, 1) := by decide +kernel
theorem dX5_readPaint_31 : decode cX5_readPaint 31 = .ok (.aload_n 0, 1) := by decide +kernel
theorem dX5_readPaint_32 : decode cX5_readPaint 32 = .ok (.dup, 1) := by decide +kernel
theorem dX5_readPaint_33 : decode cX5_readPaint 33 = .ok (.getfield 44, 3) := by decide +kernel
theorem dX5_readPaint_36 : decode cX5_readPaint 36 = .ok (.iconst 1, 1) := by decide +kernel
theorem dX5_readPaint_37 : decode cX5_readPaint 37 = .ok (.iload_n 1, 1) := by decide +kernel
theorem dX5_readPaint_38 : decode cX5_readPaint 38 = .ok (.ishl, 1) := by decide +kernel
theorem dX5_readPaint_39 : decode cX5_readPaint 39 = .ok (.ior, 1) := by decide +kernel
theorem dX5_readPaint_40 : decode cX5_readPaint 40 = .ok (.putfield 44, 3) := by decide +kernel
theorem dX5_readPaint_43 : decode cX5_readPaint 43 = .ok (.aload_n 0, 1) := by decide +kernel
theorem dX5_readPaint_44 : decode cX5_readPaint 44 = .ok (.invokevirtual 47, 3) := by decide +kernel
theorem dX5_readPaint_47 : decode cX5_readPaint 47 = .ok (.aload_n 0, 1) := by decide +kernel
theorem dX5_readPaint_48 : decode cX5_readPaint 48 = .ok (.getfield 35, 3) := by decide +kernel
theorem dX5_readPaint_51 : decode cX5_readPaint 51 = .ok (.iconst 1, 1) := by decide +kernel
theorem dX5_readPaint_52 : decode cX5_readPaint 52 = .ok (.if_icmp .eq 9, 3) := by decide +kernel
theorem dX5_readPaint_55 : decode cX5_readPaint 55 = .ok (.aload_n 0, 1) := by decide +kernel
theorem dX5_readPaint_56 : decode cX5_readPaint 56 = .ok (.iconst 1, 1) := by decide +kernel
theorem dX5_readPaint_57 : decode cX5_readPaint 57 = .ok (.invokevirtual 63, 3) := by decide +kernel
theorem dX5_readPaint_60 : decode cX5_readPaint 60 = .ok (.ireturn, 1) := by decide +kernel
theorem dX5_readPaint_61 : decode cX5_readPaint 61 = .ok (.aload_n 0, 1) := by decide +kernel
theorem dX5_readPaint_62 : decode cX5_readPaint 62 = .ok (.getfield 24, 3) := by decide +kernel
theorem dX5_readPaint_65 : decode cX5_readPaint 65 = .ok (.getfield 103, 3) := by decide +kernel
theorem dX5_readPaint_68 : decode cX5_readPaint 68 = .ok (.iload_n 1, 1) := by decide +kernel
theorem dX5_readPaint_69 : decode cX5_readPaint 69 = .ok (.aload_n 0, 1) := by decide +kernel
theorem dX5_readPaint_70 : decode cX5_readPaint 70 = .ok (.invokevirtual 67, 3) := by decide +kernel
theorem dX5_readPaint_73 : decode cX5_readPaint 73 = .ok (.iastore, 1) := by decide +kernel
theorem dX5_readPaint_74 : decode cX5_readPaint 74 = .ok (.aload_n 0, 1) := by decide +kernel
theorem dX5_readPaint_75 : decode cX5_readPaint 75 = .ok (.invokevirtual 47, 3) := by decide +kernel
theorem dX5_readPaint_78 : decode cX5_readPaint 78 = .ok (.iconst 1, 1) := by decide +kernel
theorem dX5_readPaint_79 : decode cX5_readPaint 79 = .ok (.ireturn, 1) := by decide +kernel
theorem dX5_readLink_0 : decode cX5_readLink 0 = .ok (.aload_n 0, 1) := by decide +kernel
theorem dX5_readLink_1 : decode cX5_readLink 1 = .ok (.invokevirtual 96, 3) := by decide +kernel
theorem dX5_readLink_4 : decode cX5_readLink 4 = .ok (.ifCond .ne 5, 3) := by decide +kernel
theorem dX5_readLink_7 : decode cX5_readLink 7 = .ok (.iconst 0, 1) := by decide +kernel
theorem dX5_readLink_8 : decode cX5_readLink 8 = .ok (.ireturn, 1) := by decide +kernel
theorem dX5_readLink_9 : decode cX5_readLink 9 = .ok (.aload_n 0, 1) := by decide +kernel
theorem dX5_readLink_10 : decode cX5_readLink 10 = .ok (.invokevirtual 67, 3) := by decide +kernel
theorem dX5_readLink_13 : decode cX5_readLink 13 = .ok (.istore_n 1, 1) := by decide +kernel
theorem dX5_readLink_14 : decode cX5_readLink 14 = .ok (.aload_n 0, 1) := by decide +kernel
theorem dX5_readLink_15 : decode cX5_readLink 15 = .ok (.invokevirtual 47, 3) := by decide +kernel
theorem dX5_readLink_18 : decode cX5_readLink 18 = .ok (.aload_n 0, 1) := by decide +kernel
theorem dX5_readLink_19 : decode cX5_readLink 19 = .ok (.invokevirtual 96, 3) := by decide +kernel
theorem dX5_readLink_22 : decode cX5_readLink 22 = .ok (.ifCond .ne 5, 3) := by decide +kernel
theorem dX5_readLink_25 : decode cX5_readLink 25 = .ok (.iconst 0, 1) := by decide +kernel
theorem dX5_readLink_26 : decode cX5_readLink 26 = .ok (.ireturn, 1) := by decide +kernel
theorem dX5_readLink_27 : decode cX5_readLink 27 = .ok (.aload_n 0, 1) := by decide +kernel
theorem dX5_readLink_28 : decode cX5_readLink 28 = .ok (.invokevirtual 67, 3) := by decide +kernel
theorem dX5_readLink_31 : decode cX5_readLink 31 = .ok (.istore_n 2, 1) := by decide +kernel
theorem dX5_readLink_32 : decode cX5_readLink 32 = .ok (.aload_n 0, 1) := by decide +kernel
theorem dX5_readLink_33 : decode cX5_readLink 33 = .ok (.iload_n 1, 1) := by decide +kernel
theorem dX5_readLink_34 : decode cX5_readLink 34 = .ok (.iload_n 2, 1) := by decide +kernel
theorem dX5_readLink_35 : decode cX5_readLink 35 = .ok (.invokevirtual 106, 3) := by decide +kernel
theorem dX5_readLink_38 : decode cX5_readLink 38 = .ok (.ifCond .ne 5, 3) := by decide +kernel
theorem dX5_readLink_41 : decode cX5_readLink 41 = .ok (.iconst 0, 1) := by decide +kernel
theorem dX5_readLink_42 : decode cX5_readLink 42 = .ok (.ireturn, 1) := by decide +kernel
theorem dX5_readLink_43 : decode cX5_readLink 43 = .ok (.aload_n 0, 1) := by decide +kernel
theorem dX5_readLink_44 : decode cX5_readLink 44 = .ok (.invokevirtual 47, 3) := by decide +kernel
theorem dX5_readLink_47 : decode cX5_readLink 47 = .ok (.aload_n 0, 1) := by decide +kernel
theorem dX5_readLink_48 : decode cX5_readLink 48 = .ok (.getfield 35, 3) := by decide +kernel
theorem dX5_readLink_51 : decode cX5_readLink 51 = .ok (.iconst 1, 1) := by decide +kernel
theorem dX5_readLink_52 : decode cX5_readLink 52 = .ok (.if_icmp .eq 5, 3) := by decide +kernel
theorem dX5_readLink_55 : decode cX5_readLink 55 = .ok (.iconst 1, 1) := by decide +kernel
theorem dX5_readLink_56 : decode cX5_readLink 56 = .ok (.ireturn, 1) := by decide +kernel
theorem dX5_readLink_57 : decode cX5_readLink 57 = .ok (.aload_n 0, 1) := by decide +kernel
theorem dX5_readLink_58 : decode cX5_readLink 58 = .ok (.invokevirtual 67, 3) := by decide +kernel
theorem dX5_readLink_61 : decode cX5_readLink 61 = .ok (.iconst 1, 1) := by decide +kernel
theorem dX5_readLink_62 : decode cX5_readLink 62 = .ok (.if_icmp .lt 11, 3) := by decide +kernel
theorem dX5_readLink_65 : decode cX5_readLink 65 = .ok (.aload_n 0, 1) := by decide +kernel
theorem dX5_readLink_66 : decode cX5_readLink 66 = .ok (.invokevirtual 67, 3) := by decide +kernel
theorem dX5_readLink_69 : decode cX5_readLink 69 = .ok (.iconst 4, 1) := by decide +kernel
theorem dX5_readLink_70 : decode cX5_readLink 70 = .ok (.if_icmp .lt 9, 3) := by decide +kernel
theorem dX5_readLink_73 : decode cX5_readLink 73 = .ok (.aload_n 0, 1) := by decide +kernel
theorem dX5_readLink_74 : decode cX5_readLink 74 = .ok (.iconst 2, 1) := by decide +kernel
theorem dX5_readLink_75 : decode cX5_readLink 75 = .ok (.invokevirtual 63, 3) := by decide +kernel
theorem dX5_readLink_78 : decode cX5_readLink 78 = .ok (.ireturn, 1) := by decide +kernel
theorem dX5_readLink_79 : decode cX5_readLink 79 = .ok (.aload_n 0, 1) := by decide +kernel
theorem dX5_readLink_80 : decode cX5_readLink 80 = .ok (.getfield 24, 3) := by decide +kernel
theorem dX5_readLink_83 : decode cX5_readLink 83 = .ok (.iload_n 1, 1) := by decide +kernel
theorem dX5_readLink_84 : decode cX5_readLink 84 = .ok (.iload_n 2, 1) := by decide +kernel
theorem dX5_readLink_85 : decode cX5_readLink 85 = .ok (.aload_n 0, 1) := by decide +kernel
theorem dX5_readLink_86 : decode cX5_readLink 86 = .ok (.invokevirtual 67, 3) := by decide +kernel
theorem dX5_readLink_89 : decode cX5_readLink 89 = .ok (.invokevirtual 109, 3) := by decide +kernel
theorem dX5_readLink_92 : decode cX5_readLink 92 = .ok (.aload_n 0, 1) := by decide +kernel
theorem dX5_readLink_93 : decode cX5_readLink 93 = .ok (.invokevirtual 47, 3) := by decide +kernel
theorem dX5_readLink_96 : decode cX5_readLink 96 = .ok (.iconst 1, 1) := by decide +kernel
theorem dX5_readLink_97 : decode cX5_readLink 97 = .ok (.ireturn, 1) := by decide +kernel
theorem dX5_readChain_0 : decode cX5_readChain 0 = .ok (.iconst 0, 1) := by decide +kernel
theorem dX5_readChain_1 : decode cX5_readChain 1 = .ok (.istore_n 3, 1) := by decide +kernel
theorem dX5_readChain_2 : decode cX5_readChain 2 = .ok (.iconst 0, 1) := by decide +kernel
theorem dX5_readChain_3 : decode cX5_readChain 3 = .ok (.istore 4, 2) := by decide +kernel
theorem dX5_readChain_5 : decode cX5_readChain 5 = .ok (.iconst 0, 1) := by decide +kernel
theorem dX5_readChain_6 : decode cX5_readChain 6 = .ok (.istore 5, 2) := by decide +kernel
theorem dX5_readChain_8 : decode cX5_readChain 8 = .ok (.iload 5, 2) := by decide +kernel
theorem dX5_readChain_10 : decode cX5_readChain 10 = .ok (.sipush 400, 3) := by decide +kernel
theorem dX5_readChain_13 : decode cX5_readChain 13 = .ok (.if_icmp .ge 70, 3) := by decide +kernel
theorem dX5_readChain_16 : decode cX5_readChain 16 = .ok (.iload 5, 2) := by decide +kernel
theorem dX5_readChain_18 : decode cX5_readChain 18 = .ok (.iload_n 1, 1) := by decide +kernel
theorem dX5_readChain_19 : decode cX5_readChain 19 = .ok (.if_icmp .lt 11, 3) := by decide +kernel
theorem dX5_readChain_22 : decode cX5_readChain 22 = .ok (.aload_n 0, 1) := by decide +kernel
theorem dX5_readChain_23 : decode cX5_readChain 23 = .ok (.getfield 35, 3) := by decide +kernel
theorem dX5_readChain_26 : decode cX5_readChain 26 = .ok (.iconst 1, 1) := by decide +kernel
theorem dX5_readChain_27 : decode cX5_readChain 27 = .ok (.if_icmp .ne 56, 3) := by decide +kernel
theorem dX5_readChain_30 : decode cX5_readChain 30 = .ok (.aload_n 0, 1) := by decide +kernel
theorem dX5_readChain_31 : decode cX5_readChain 31 = .ok (.invokevirtual 96, 3) := by decide +kernel
theorem dX5_readChain_34 : decode cX5_readChain 34 = .ok (.ifCond .ne 5, 3) := by decide +kernel
theorem dX5_readChain_37 : decode cX5_readChain 37 = .ok (.iconst 0, 1) := by decide +kernel
theorem dX5_readChain_38 : decode cX5_readChain 38 = .ok (.ireturn, 1) := by decide +kernel
theorem dX5_readChain_39 : decode cX5_readChain 39 = .ok (.aload_n 0, 1) := by decide +kernel
theorem dX5_readChain_40 : decode cX5_readChain 40 = .ok (.invokevirtual 67, 3) := by decide +kernel
theorem dX5_readChain_43 : decode cX5_readChain 43 = .ok (.istore 6, 2) := by decide +kernel
theorem dX5_readChain_45 : decode cX5_readChain 45 = .ok (.iload 5, 2) := by decide +kernel
theorem dX5_readChain_47 : decode cX5_readChain 47 = .ok (.ifCond .ne 9, 3) := by decide +kernel
theorem dX5_readChain_50 : decode cX5_readChain 50 = .ok (.iload 6, 2) := by decide +kernel
theorem dX5_readChain_52 : decode cX5_readChain 52 = .ok (.istore_n 3, 1) := by decide +kernel
theorem dX5_readChain_53 : decode cX5_readChain 53 = .ok (.goto 16, 3) := by decide +kernel
theorem dX5_readChain_56 : decode cX5_readChain 56 = .ok (.aload_n 0, 1) := by decide +kernel
theorem dX5_readChain_57 : decode cX5_readChain 57 = .ok (.iload 4, 2) := by decide +kernel
theorem dX5_readChain_59 : decode cX5_readChain 59 = .ok (.iload 6, 2) := by decide +kernel
theorem dX5_readChain_61 : decode cX5_readChain 61 = .ok (.invokevirtual 106, 3) := by decide +kernel
theorem dX5_readChain_64 : decode cX5_readChain 64 = .ok (.ifCond .ne 5, 3) := by decide +kernel
theorem dX5_readChain_67 : decode cX5_readChain 67 = .ok (.iconst 0, 1) := by decide +kernel
theorem dX5_readChain_68 : decode cX5_readChain 68 = .ok (.ireturn, 1) := by decide +kernel
theorem dX5_readChain_69 : decode cX5_readChain 69 = .ok (.iload 6, 2) := by decide +kernel
theorem dX5_readChain_71 : decode cX5_readChain 71 = .ok (.istore 4, 2) := by decide +kernel
theorem dX5_readChain_73 : decode cX5_readChain 73 = .ok (.aload_n 0, 1) := by decide +kernel
theorem dX5_readChain_74 : decode cX5_readChain 74 = .ok (.invokevirtual 47, 3) := by decide +kernel
theorem dX5_readChain_77 : decode cX5_readChain 77 = .ok (.iinc 5 1, 3) := by decide +kernel
theorem dX5_readChain_80 : decode cX5_readChain 80 = .ok (.goto (-72), 3) := by decide +kernel
theorem dX5_readChain_83 : decode cX5_readChain 83 = .ok (.iload_n 2, 1) := by decide +kernel
theorem dX5_readChain_84 : decode cX5_readChain 84 = .ok (.ifCond .eq 28, 3) := by decide +kernel
theorem dX5_readChain_87 : decode cX5_readChain 87 = .ok (.aload_n 0, 1) := by decide +kernel
theorem dX5_readChain_88 : decode cX5_readChain 88 = .ok (.getfield 35, 3) := by decide +kernel
theorem dX5_readChain_91 : decode cX5_readChain 91 = .ok (.iconst 3, 1) := by decide +kernel
theorem dX5_readChain_92 : decode cX5_readChain 92 = .ok (.if_icmp .eq 10, 3) := by decide +kernel
theorem dX5_readChain_95 : decode cX5_readChain 95 = .ok (.aload_n 0, 1) := by decide +kernel
theorem dX5_readChain_96 : decode cX5_readChain 96 = .ok (.getfield 35, 3) := by decide +kernel
theorem dX5_readChain_99 : decode cX5_readChain 99 = .ok (.ifCond .ne 13, 3) := by decide +kernel
theorem dX5_readChain_102 : decode cX5_readChain 102 = .ok (.aload_n 0, 1) := by decide +kernel
theorem dX5_readChain_103 : decode cX5_readChain 103 = .ok (.iload 4, 2) := by decide +kernel
theorem dX5_readChain_105 : decode cX5_readChain 105 = .ok (.iload_n 3, 1) := by decide +kernel
theorem dX5_readChain_106 : decode cX5_readChain 106 = .ok (.invokevirtual 106, 3) := by decide +kernel
theorem dX5_readChain_109 : decode cX5_readChain 109 = .ok (.ifCond .eq 7, 3) := by decide +kernel
theorem dX5_readChain_112 : decode cX5_readChain 112 = .ok (.iconst 1, 1) := by decide +kernel
theorem dX5_readChain_113 : decode cX5_readChain 113 = .ok (.goto 4, 3) := by decide +kernel
theorem dX5_readChain_116 : decode cX5_readChain 116 = .ok (.iconst 0, 1) := by decide +kernel
theorem dX5_readChain_117 : decode cX5_readChain 117 = .ok (.ireturn, 1) := by decide +kernel
theorem dX5_joins_0 : decode cX5_joins 0 = .ok (.iload_n 1, 1) := by decide +kernel
theorem dX5_joins_1 : decode cX5_joins 1 = .ok (.iload_n 2, 1) := by decide +kernel
theorem dX5_joins_2 : decode cX5_joins 2 = .ok (.if_icmp .eq 17, 3) := by decide +kernel
theorem dX5_joins_5 : decode cX5_joins 5 = .ok (.aload_n 0, 1) := by decide +kernel
theorem dX5_joins_6 : decode cX5_joins 6 = .ok (.getfield 24, 3) := by decide +kernel
theorem dX5_joins_9 : decode cX5_joins 9 = .ok (.getfield 113, 3) := by decide +kernel
theorem dX5_joins_12 : decode cX5_joins 12 = .ok (.iload_n 1, 1) := by decide +kernel
theorem dX5_joins_13 : decode cX5_joins 13 = .ok (.aaload, 1) := by decide +kernel
theorem dX5_joins_14 : decode cX5_joins 14 = .ok (.iload_n 2, 1) := by decide +kernel
theorem dX5_joins_15 : decode cX5_joins 15 = .ok (.iaload, 1) := by decide +kernel
theorem dX5_joins_16 : decode cX5_joins 16 = .ok (.ifCond .eq 9, 3) := by decide +kernel
theorem dX5_joins_19 : decode cX5_joins 19 = .ok (.aload_n 0, 1) := by decide +kernel
theorem dX5_joins_20 : decode cX5_joins 20 = .ok (.iconst 3, 1) := by decide +kernel
theorem dX5_joins_21 : decode cX5_joins 21 = .ok (.invokevirtual 63, 3) := by decide +kernel
theorem dX5_joins_24 : decode cX5_joins 24 = .ok (.ireturn, 1) := by decide +kernel
theorem dX5_joins_25 : decode cX5_joins 25 = .ok (.aload_n 0, 1) := by decide +kernel
theorem dX5_joins_26 : decode cX5_joins 26 = .ok (.getfield 24, 3) := by decide +kernel
theorem dX5_joins_29 : decode cX5_joins 29 = .ok (.iload_n 1, 1) := by decide +kernel
theorem dX5_joins_30 : decode cX5_joins 30 = .ok (.iload_n 2, 1) := by decide +kernel
theorem dX5_joins_31 : decode cX5_joins 31 = .ok (.iconst 1, 1) := by decide +kernel
theorem dX5_joins_32 : decode cX5_joins 32 = .ok (.invokevirtual 109, 3) := by decide +kernel
theorem dX5_joins_35 : decode cX5_joins 35 = .ok (.iconst 1, 1) := by decide +kernel
theorem dX5_joins_36 : decode cX5_joins 36 = .ok (.ireturn, 1) := by decide +kernel
theorem dX5_fails_0 : decode cX5_fails 0 = .ok (.aload_n 0, 1) := by decide +kernel
theorem dX5_fails_1 : decode cX5_fails 1 = .ok (.iload_n 1, 1) := by decide +kernel
theorem dX5_fails_2 : decode cX5_fails 2 = .ok (.putfield 15, 3) := by decide +kernel
theorem dX5_fails_5 : decode cX5_fails 5 = .ok (.aload_n 0, 1) := by decide +kernel
theorem dX5_fails_6 : decode cX5_fails 6 = .ok (.aload_n 0, 1) := by decide +kernel
theorem dX5_fails_7 : decode cX5_fails 7 = .ok (.getfield 38, 3) := by decide +kernel
theorem dX5_fails_10 : decode cX5_fails 10 = .ok (.putfield 18, 3) := by decide +kernel
theorem dX5_fails_13 : decode cX5_fails 13 = .ok (.iconst 0, 1) := by decide +kernel
theorem dX5_fails_14 : decode cX5_fails 14 = .ok (.ireturn, 1) := by decide +kernel
theorem dX5_isVertex_0 : decode cX5_isVertex 0 = .ok (.aload_n 0, 1) := by decide +kernel
theorem dX5_isVertex_1 : decode cX5_isVertex 1 = .ok (.getfield 35, 3) := by decide +kernel
theorem dX5_isVertex_4 : decode cX5_isVertex 4 = .ok (.iconst 1, 1) := by decide +kernel
theorem dX5_isVertex_5 : decode cX5_isVertex 5 = .ok (.if_icmp .eq 9, 3) := by decide +kernel
theorem dX5_isVertex_8 : decode cX5_isVertex 8 = .ok (.aload_n 0, 1) := by decide +kernel
theorem dX5_isVertex_9 : decode cX5_isVertex 9 = .ok (.iconst 1, 1) := by decide +kernel
theorem dX5_isVertex_10 : decode cX5_isVertex 10 = .ok (.invokevirtual 63, 3) := by decide +kernel
theorem dX5_isVertex_13 : decode cX5_isVertex 13 = .ok (.ireturn, 1) := by decide +kernel
theorem dX5_isVertex_14 : decode cX5_isVertex 14 = .ok (.aload_n 0, 1) := by decide +kernel
theorem dX5_isVertex_15 : decode cX5_isVertex 15 = .ok (.getfield 24, 3) := by decide +kernel
theorem dX5_isVertex_18 : decode cX5_isVertex 18 = .ok (.aload_n 0, 1) := by decide +kernel
theorem dX5_isVertex_19 : decode cX5_isVertex 19 = .ok (.invokevirtual 67, 3) := by decide +kernel
theorem dX5_isVertex_22 : decode cX5_isVertex 22 = .ok (.invokevirtual 117, 3) := by decide +kernel
theorem dX5_isVertex_25 : decode cX5_isVertex 25 = .ok (.ifCond .ne 11, 3) := by decide +kernel
theorem dX5_isVertex_28 : decode cX5_isVertex 28 = .ok (.aload_n 0, 1) := by decide +kernel
theorem dX5_isVertex_29 : decode cX5_isVertex 29 = .ok (.iconst 2, 1) := by decide +kernel
theorem dX5_isVertex_30 : decode cX5_isVertex 30 = .ok (.invokevirtual 63, 3) := by decide +kernel
theorem dX5_isVertex_33 : decode cX5_isVertex 33 = .ok (.ifCond .eq 7, 3) := by decide +kernel
theorem dX5_isVertex_36 : decode cX5_isVertex 36 = .ok (.iconst 1, 1) := by decide +kernel
theorem dX5_isVertex_37 : decode cX5_isVertex 37 = .ok (.goto 4, 3) := by decide +kernel
theorem dX5_isVertex_40 : decode cX5_isVertex 40 = .ok (.iconst 0, 1) := by decide +kernel
theorem dX5_isVertex_41 : decode cX5_isVertex 41 = .ok (.ireturn, 1) := by decide +kernel
theorem dX5_digit_0 : decode cX5_digit 0 = .ok (.aload_n 0, 1) := by decide +kernel
theorem dX5_digit_1 : decode cX5_digit 1 = .ok (.getfield 38, 3) := by decide +kernel
theorem dX5_digit_4 : decode cX5_digit 4 = .ok (.sipush 400, 3) := by decide +kernel
theorem dX5_digit_7 : decode cX5_digit 7 = .ok (.if_icmp .ge 18, 3) := by decide +kernel
theorem dX5_digit_10 : decode cX5_digit 10 = .ok (.aload_n 0, 1) := by decide +kernel
theorem dX5_digit_11 : decode cX5_digit 11 = .ok (.getfield 28, 3) := by decide +kernel
theorem dX5_digit_14 : decode cX5_digit 14 = .ok (.aload_n 0, 1) := by decide +kernel
theorem dX5_digit_15 : decode cX5_digit 15 = .ok (.getfield 38, 3) := by decide +kernel
theorem dX5_digit_18 : decode cX5_digit 18 = .ok (.iaload, 1) := by decide +kernel
theorem dX5_digit_19 : decode cX5_digit 19 = .ok (.bipush 48, 2) := by decide +kernel
theorem dX5_digit_21 : decode cX5_digit 21 = .ok (.isub, 1) := by decide +kernel
theorem dX5_digit_22 : decode cX5_digit 22 = .ok (.goto 4, 3) := by decide +kernel
theorem dX5_digit_25 : decode cX5_digit 25 = .ok (.iconst 0, 1) := by decide +kernel
theorem dX5_digit_26 : decode cX5_digit 26 = .ok (.ireturn, 1) := by decide +kernel
theorem dX5_isWord_0 : decode cX5_isWord 0 = .ok (.aload_n 0, 1) := by decide +kernel
theorem dX5_isWord_1 : decode cX5_isWord 1 = .ok (.getfield 35, 3) := by decide +kernel
theorem dX5_isWord_4 : decode cX5_isWord 4 = .ok (.iconst 2, 1) := by decide +kernel
theorem dX5_isWord_5 : decode cX5_isWord 5 = .ok (.if_icmp .ne 19, 3) := by decide +kernel
theorem dX5_isWord_8 : decode cX5_isWord 8 = .ok (.aload_n 0, 1) := by decide +kernel
theorem dX5_isWord_9 : decode cX5_isWord 9 = .ok (.getfield 41, 3) := by decide +kernel
theorem dX5_isWord_12 : decode cX5_isWord 12 = .ok (.aload_n 0, 1) := by decide +kernel
theorem dX5_isWord_13 : decode cX5_isWord 13 = .ok (.getfield 38, 3) := by decide +kernel
theorem dX5_isWord_16 : decode cX5_isWord 16 = .ok (.isub, 1) := by decide +kernel
theorem dX5_isWord_17 : decode cX5_isWord 17 = .ok (.aload_n 1, 1) := by decide +kernel
theorem dX5_isWord_18 : decode cX5_isWord 18 = .ok (.invokevirtual 120, 3) := by decide +kernel
theorem dX5_isWord_21 : decode cX5_isWord 21 = .ok (.if_icmp .eq 5, 3) := by decide +kernel
theorem dX5_isWord_24 : decode cX5_isWord 24 = .ok (.iconst 0, 1) := by decide +kernel
theorem dX5_isWord_25 : decode cX5_isWord 25 = .ok (.ireturn, 1) := by decide +kernel
theorem dX5_isWord_26 : decode cX5_isWord 26 = .ok (.iconst 0, 1) := by decide +kernel
theorem dX5_isWord_27 : decode cX5_isWord 27 = .ok (.istore_n 2, 1) := by decide +kernel
theorem dX5_isWord_28 : decode cX5_isWord 28 = .ok (.iload_n 2, 1) := by decide +kernel
theorem dX5_isWord_29 : decode cX5_isWord 29 = .ok (.aload_n 1, 1) := by decide +kernel
theorem dX5_isWord_30 : decode cX5_isWord 30 = .ok (.invokevirtual 120, 3) := by decide +kernel
theorem dX5_isWord_33 : decode cX5_isWord 33 = .ok (.if_icmp .ge 30, 3) := by decide +kernel
theorem dX5_isWord_36 : decode cX5_isWord 36 = .ok (.aload_n 0, 1) := by decide +kernel
theorem dX5_isWord_37 : decode cX5_isWord 37 = .ok (.getfield 28, 3) := by decide +kernel
theorem dX5_isWord_40 : decode cX5_isWord 40 = .ok (.aload_n 0, 1) := by decide +kernel
theorem dX5_isWord_41 : decode cX5_isWord 41 = .ok (.getfield 38, 3) := by decide +kernel
theorem dX5_isWord_44 : decode cX5_isWord 44 = .ok (.iload_n 2, 1) := by decide +kernel
theorem dX5_isWord_45 : decode cX5_isWord 45 = .ok (.iadd, 1) := by decide +kernel
theorem dX5_isWord_46 : decode cX5_isWord 46 = .ok (.iaload, 1) := by decide +kernel
theorem dX5_isWord_47 : decode cX5_isWord 47 = .ok (.aload_n 1, 1) := by decide +kernel
theorem dX5_isWord_48 : decode cX5_isWord 48 = .ok (.iload_n 2, 1) := by decide +kernel
theorem dX5_isWord_49 : decode cX5_isWord 49 = .ok (.invokevirtual 125, 3) := by decide +kernel
theorem dX5_isWord_52 : decode cX5_isWord 52 = .ok (.if_icmp .eq 5, 3) := by decide +kernel
theorem dX5_isWord_55 : decode cX5_isWord 55 = .ok (.iconst 0, 1) := by decide +kernel
theorem dX5_isWord_56 : decode cX5_isWord 56 = .ok (.ireturn, 1) := by decide +kernel
theorem dX5_isWord_57 : decode cX5_isWord 57 = .ok (.iinc 2 1, 3) := by decide +kernel
theorem dX5_isWord_60 : decode cX5_isWord 60 = .ok (.goto (-32), 3) := by decide +kernel
theorem dX5_isWord_63 : decode cX5_isWord 63 = .ok (.iconst 1, 1) := by decide +kernel
theorem dX5_isWord_64 : decode cX5_isWord 64 = .ok (.ireturn, 1) := by decide +kernel
theorem dX5_step_0 : decode cX5_step 0 = .ok (.aload_n 0, 1) := by decide +kernel
theorem dX5_step_1 : decode cX5_step 1 = .ok (.aload_n 0, 1) := by decide +kernel
theorem dX5_step_2 : decode cX5_step 2 = .ok (.getfield 41, 3) := by decide +kernel
theorem dX5_step_5 : decode cX5_step 5 = .ok (.putfield 38, 3) := by decide +kernel
theorem dX5_step_8 : decode cX5_step 8 = .ok (.aload_n 0, 1) := by decide +kernel
theorem dX5_step_9 : decode cX5_step 9 = .ok (.getfield 38, 3) := by decide +kernel
theorem dX5_step_12 : decode cX5_step 12 = .ok (.aload_n 0, 1) := by decide +kernel
theorem dX5_step_13 : decode cX5_step 13 = .ok (.getfield 32, 3) := by decide +kernel
theorem dX5_step_16 : decode cX5_step 16 = .ok (.if_icmp .ge 30, 3) := by decide +kernel
theorem dX5_step_19 : decode cX5_step 19 = .ok (.aload_n 0, 1) := by decide +kernel
theorem dX5_step_20 : decode cX5_step 20 = .ok (.getfield 28, 3) := by decide +kernel
theorem dX5_step_23 : decode cX5_step 23 = .ok (.aload_n 0, 1) := by decide +kernel
theorem dX5_step_24 : decode cX5_step 24 = .ok (.getfield 38, 3) := by decide +kernel
theorem dX5_step_27 : decode cX5_step 27 = .ok (.iaload, 1) := by decide +kernel
theorem dX5_step_28 : decode cX5_step 28 = .ok (.bipush 32, 2) := by decide +kernel
theorem dX5_step_30 : decode cX5_step 30 = .ok (.if_icmp .ne 16, 3) := by decide +kernel
theorem dX5_step_33 : decode cX5_step 33 = .ok (.aload_n 0, 1) := by decide +kernel
theorem dX5_step_34 : decode cX5_step 34 = .ok (.dup, 1) := by decide +kernel
theorem dX5_step_35 : decode cX5_step 35 = .ok (.getfield 38, 3) := by decide +kernel
theorem dX5_step_38 : decode cX5_step 38 = .ok (.iconst 1, 1) := by decide +kernel
theorem dX5_step_39 : decode cX5_step 39 = .ok (.iadd, 1) := by decide +kernel
theorem dX5_step_40 : decode cX5_step 40 = .ok (.putfield 38, 3) := by decide +kernel
theorem dX5_step_43 : decode cX5_step 43 = .ok (.goto (-35), 3) := by decide +kernel
theorem dX5_step_46 : decode cX5_step 46 = .ok (.aload_n 0, 1) := by decide +kernel
theorem dX5_step_47 : decode cX5_step 47 = .ok (.getfield 38, 3) := by decide +kernel
theorem dX5_step_50 : decode cX5_step 50 = .ok (.aload_n 0, 1) := by decide +kernel
theorem dX5_step_51 : decode cX5_step 51 = .ok (.getfield 32, 3) := by decide +kernel
theorem dX5_step_54 : decode cX5_step 54 = .ok (.if_icmp .lt 17, 3) := by decide +kernel
theorem dX5_step_57 : decode cX5_step 57 = .ok (.aload_n 0, 1) := by decide +kernel
theorem dX5_step_58 : decode cX5_step 58 = .ok (.iconst 0, 1) := by decide +kernel
theorem dX5_step_59 : decode cX5_step 59 = .ok (.putfield 35, 3) := by decide +kernel
theorem dX5_step_62 : decode cX5_step 62 = .ok (.aload_n 0, 1) := by decide +kernel
theorem dX5_step_63 : decode cX5_step 63 = .ok (.aload_n 0, 1) := by decide +kernel
theorem dX5_step_64 : decode cX5_step 64 = .ok (.getfield 38, 3) := by decide +kernel
theorem dX5_step_67 : decode cX5_step 67 = .ok (.putfield 41, 3) := by decide +kernel
theorem dX5_step_70 : decode cX5_step 70 = .ok (.return_, 1) := by decide +kernel
theorem dX5_step_71 : decode cX5_step 71 = .ok (.aload_n 0, 1) := by decide +kernel
theorem dX5_step_72 : decode cX5_step 72 = .ok (.aload_n 0, 1) := by decide +kernel
theorem dX5_step_73 : decode cX5_step 73 = .ok (.getfield 38, 3) := by decide +kernel
theorem dX5_step_76 : decode cX5_step 76 = .ok (.iconst 1, 1) := by decide +kernel
theorem dX5_step_77 : decode cX5_step 77 = .ok (.iadd, 1) := by decide +kernel
theorem dX5_step_78 : decode cX5_step 78 = .ok (.putfield 41, 3) := by decide +kernel
theorem dX5_step_81 : decode cX5_step 81 = .ok (.aload_n 0, 1) := by decide +kernel
theorem dX5_step_82 : decode cX5_step 82 = .ok (.getfield 28, 3) := by decide +kernel
theorem dX5_step_85 : decode cX5_step 85 = .ok (.aload_n 0, 1) := by decide +kernel
theorem dX5_step_86 : decode cX5_step 86 = .ok (.getfield 38, 3) := by decide +kernel
theorem dX5_step_89 : decode cX5_step 89 = .ok (.iaload, 1) := by decide +kernel
theorem dX5_step_90 : decode cX5_step 90 = .ok (.istore_n 1, 1) := by decide +kernel
theorem dX5_step_91 : decode cX5_step 91 = .ok (.iload_n 1, 1) := by decide +kernel
theorem dX5_step_92 : decode cX5_step 92 = .ok (.invokestatic 129, 3) := by decide +kernel
theorem dX5_step_95 : decode cX5_step 95 = .ok (.ifCond .eq 50, 3) := by decide +kernel
theorem dX5_step_98 : decode cX5_step 98 = .ok (.aload_n 0, 1) := by decide +kernel
theorem dX5_step_99 : decode cX5_step 99 = .ok (.getfield 41, 3) := by decide +kernel
theorem dX5_step_102 : decode cX5_step 102 = .ok (.aload_n 0, 1) := by decide +kernel
theorem dX5_step_103 : decode cX5_step 103 = .ok (.getfield 32, 3) := by decide +kernel
theorem dX5_step_106 : decode cX5_step 106 = .ok (.if_icmp .ge 31, 3) := by decide +kernel
theorem dX5_step_109 : decode cX5_step 109 = .ok (.aload_n 0, 1) := by decide +kernel
theorem dX5_step_110 : decode cX5_step 110 = .ok (.getfield 28, 3) := by decide +kernel
theorem dX5_step_113 : decode cX5_step 113 = .ok (.aload_n 0, 1) := by decide +kernel
theorem dX5_step_114 : decode cX5_step 114 = .ok (.getfield 41, 3) := by decide +kernel
theorem dX5_step_117 : decode cX5_step 117 = .ok (.iaload, 1) := by decide +kernel
theorem dX5_step_118 : decode cX5_step 118 = .ok (.invokestatic 129, 3) := by decide +kernel
theorem dX5_step_121 : decode cX5_step 121 = .ok (.ifCond .eq 16, 3) := by decide +kernel
theorem dX5_step_124 : decode cX5_step 124 = .ok (.aload_n 0, 1) := by decide +kernel
theorem dX5_step_125 : decode cX5_step 125 = .ok (.dup, 1) := by decide +kernel
theorem dX5_step_126 : decode cX5_step 126 = .ok (.getfield 41, 3) := by decide +kernel
theorem dX5_step_129 : decode cX5_step 129 = .ok (.iconst 1, 1) := by decide +kernel
theorem dX5_step_130 : decode cX5_step 130 = .ok (.iadd, 1) := by decide +kernel
theorem dX5_step_131 : decode cX5_step 131 = .ok (.putfield 41, 3) := by decide +kernel
theorem dX5_step_134 : decode cX5_step 134 = .ok (.goto (-36), 3) := by decide +kernel
theorem dX5_step_137 : decode cX5_step 137 = .ok (.aload_n 0, 1) := by decide +kernel
theorem dX5_step_138 : decode cX5_step 138 = .ok (.iconst 2, 1) := by decide +kernel
theorem dX5_step_139 : decode cX5_step 139 = .ok (.putfield 35, 3) := by decide +kernel
theorem dX5_step_142 : decode cX5_step 142 = .ok (.goto 38, 3) := by decide +kernel
theorem dX5_step_145 : decode cX5_step 145 = .ok (.iload_n 1, 1) := by decide +kernel
theorem dX5_step_146 : decode cX5_step 146 = .ok (.bipush 48, 2) := by decide +kernel
theorem dX5_step_148 : decode cX5_step 148 = .ok (.if_icmp .lt 17, 3) := by decide +kernel
theorem dX5_step_151 : decode cX5_step 151 = .ok (.iload_n 1, 1) := by decide +kernel
theorem dX5_step_152 : decode cX5_step 152 = .ok (.bipush 57, 2) := by decide +kernel
theorem dX5_step_154 : decode cX5_step 154 = .ok (.if_icmp .gt 11, 3) := by decide +kernel
theorem dX5_step_157 : decode cX5_step 157 = .ok (.aload_n 0, 1) := by decide +kernel
theorem dX5_step_158 : decode cX5_step 158 = .ok (.iconst 1, 1) := by decide +kernel
theorem dX5_step_159 : decode cX5_step 159 = .ok (.putfield 35, 3) := by decide +kernel
theorem dX5_step_162 : decode cX5_step 162 = .ok (.goto 18, 3) := by decide +kernel
theorem dX5_step_165 : decode cX5_step 165 = .ok (.aload_n 0, 1) := by decide +kernel
theorem dX5_step_166 : decode cX5_step 166 = .ok (.iload_n 1, 1) := by decide +kernel
theorem dX5_step_167 : decode cX5_step 167 = .ok (.bipush 59, 2) := by decide +kernel
theorem dX5_step_169 : decode cX5_step 169 = .ok (.if_icmp .ne 7, 3) := by decide +kernel
theorem dX5_step_172 : decode cX5_step 172 = .ok (.iconst 3, 1) := by decide +kernel
theorem dX5_step_173 : decode cX5_step 173 = .ok (.goto 4, 3) := by decide +kernel
theorem dX5_step_176 : decode cX5_step 176 = .ok (.iconst 4, 1) := by decide +kernel
theorem dX5_step_177 : decode cX5_step 177 = .ok (.putfield 35, 3) := by decide +kernel
theorem dX5_step_180 : decode cX5_step 180 = .ok (.return_, 1) := by decide +kernel
theorem dX5_isLetter_0 : decode cX5_isLetter 0 = .ok (.iload_n 0, 1) := by decide +kernel
theorem dX5_isLetter_1 : decode cX5_isLetter 1 = .ok (.bipush 97, 2) := by decide +kernel
theorem dX5_isLetter_3 : decode cX5_isLetter 3 = .ok (.if_icmp .lt 13, 3) := by decide +kernel
theorem dX5_isLetter_6 : decode cX5_isLetter 6 = .ok (.iload_n 0, 1) := by decide +kernel
theorem dX5_isLetter_7 : decode cX5_isLetter 7 = .ok (.bipush 122, 2) := by decide +kernel
theorem dX5_isLetter_9 : decode cX5_isLetter 9 = .ok (.if_icmp .gt 7, 3) := by decide +kernel
theorem dX5_isLetter_12 : decode cX5_isLetter 12 = .ok (.iconst 1, 1) := by decide +kernel
theorem dX5_isLetter_13 : decode cX5_isLetter 13 = .ok (.goto 4, 3) := by decide +kernel
theorem dX5_isLetter_16 : decode cX5_isLetter 16 = .ok (.iconst 0, 1) := by decide +kernel
theorem dX5_isLetter_17 : decode cX5_isLetter 17 = .ok (.ireturn, 1) := by decide +kernel
theorem dX6_init_0 : decode cX6_init 0 = .ok (.aload_n 0, 1) := by decide +kernel
theorem dX6_init_1 : decode cX6_init 1 = .ok (.invokespecial 3, 3) := by decide +kernel
theorem dX6_init_4 : decode cX6_init 4 = .ok (.aload_n 0, 1) := by decide +kernel
theorem dX6_init_5 : decode cX6_init 5 = .ok (.iconst 0, 1) := by decide +kernel
theorem dX6_init_6 : decode cX6_init 6 = .ok (.putfield 9, 3) := by decide +kernel
theorem dX6_init_9 : decode cX6_init 9 = .ok (.aload_n 0, 1) := by decide +kernel
theorem dX6_init_10 : decode cX6_init 10 = .ok (.iconst 0, 1) := by decide +kernel
theorem dX6_init_11 : decode cX6_init 11 = .ok (.putfield 15, 3) := by decide +kernel
theorem dX6_init_14 : decode cX6_init 14 = .ok (.aload_n 0, 1) := by decide +kernel
theorem dX6_init_15 : decode cX6_init 15 = .ok (.sipush 5040, 3) := by decide +kernel
theorem dX6_init_18 : decode cX6_init 18 = .ok (.newarray .int, 2) := by decide +kernel
theorem dX6_init_20 : decode cX6_init 20 = .ok (.putfield 18, 3) := by decide +kernel
theorem dX6_init_23 : decode cX6_init 23 = .ok (.aload_n 0, 1) := by decide +kernel
theorem dX6_init_24 : decode cX6_init 24 = .ok (.new 22, 3) := by decide +kernel
theorem dX6_init_27 : decode cX6_init 27 = .ok (.dup, 1) := by decide +kernel
theorem dX6_init_28 : decode cX6_init 28 = .ok (.invokespecial 24, 3) := by decide +kernel
theorem dX6_init_31 : decode cX6_init 31 = .ok (.putfield 25, 3) := by decide +kernel
theorem dX6_init_34 : decode cX6_init 34 = .ok (.return_, 1) := by decide +kernel
theorem dX6_forget_0 : decode cX6_forget 0 = .ok (.aload_n 0, 1) := by decide +kernel
theorem dX6_forget_1 : decode cX6_forget 1 = .ok (.iconst 0, 1) := by decide +kernel
theorem dX6_forget_2 : decode cX6_forget 2 = .ok (.putfield 9, 3) := by decide +kernel
theorem dX6_forget_5 : decode cX6_forget 5 = .ok (.aload_n 0, 1) := by decide +kernel
theorem dX6_forget_6 : decode cX6_forget 6 = .ok (.iconst 0, 1) := by decide +kernel
theorem dX6_forget_7 : decode cX6_forget 7 = .ok (.putfield 15, 3) := by decide +kernel
theorem dX6_forget_10 : decode cX6_forget 10 = .ok (.return_, 1) := by decide +kernel
theorem dX6_skips_0 : decode cX6_skips 0 = .ok (.aload_n 0, 1) := by decide +kernel
theorem dX6_skips_1 : decode cX6_skips 1 = .ok (.iload_n 2, 1) := by decide +kernel
theorem dX6_skips_2 : decode cX6_skips 2 = .ok (.iload_n 3, 1) := by decide +kernel
theorem dX6_skips_3 : decode cX6_skips 3 = .ok (.invokevirtual 29, 3) := by decide +kernel
theorem dX6_skips_6 : decode cX6_skips 6 = .ok (.iload_n 1, 1) := by decide +kernel
theorem dX6_skips_7 : decode cX6_skips 7 = .ok (.invokestatic 33, 3) := by decide +kernel
theorem dX6_skips_10 : decode cX6_skips 10 = .ok (.ireturn, 1) := by decide +kernel
theorem dX6_spread_0 : decode cX6_spread 0 = .ok (.iload_n 1, 1) := by decide +kernel
theorem dX6_spread_1 : decode cX6_spread 1 = .ok (.istore_n 3, 1) := by decide +kernel
theorem dX6_spread_2 : decode cX6_spread 2 = .ok (.iconst 0, 1) := by decide +kernel
theorem dX6_spread_3 : decode cX6_spread 3 = .ok (.istore 4, 2) := by decide +kernel
theorem dX6_spread_5 : decode cX6_spread 5 = .ok (.iconst 0, 1) := by decide +kernel
theorem dX6_spread_6 : decode cX6_spread 6 = .ok (.istore 5, 2) := by decide +kernel
theorem dX6_spread_8 : decode cX6_spread 8 = .ok (.iload 5, 2) := by decide +kernel
theorem dX6_spread_10 : decode cX6_spread 10 = .ok (.bipush 7, 2) := by decide +kernel
theorem dX6_spread_12 : decode cX6_spread 12 = .ok (.if_icmp .ge 66, 3) := by decide +kernel
theorem dX6_spread_15 : decode cX6_spread 15 = .ok (.iload_n 3, 1) := by decide +kernel
theorem dX6_spread_16 : decode cX6_spread 16 = .ok (.iload 4, 2) := by decide +kernel
theorem dX6_spread_18 : decode cX6_spread 18 = .ok (.if_icmp .eq 60, 3) := by decide +kernel
theorem dX6_spread_21 : decode cX6_spread 21 = .ok (.iload_n 3, 1) := by decide +kernel
theorem dX6_spread_22 : decode cX6_spread 22 = .ok (.istore 4, 2) := by decide +kernel
theorem dX6_spread_24 : decode cX6_spread 24 = .ok (.iconst 0, 1) := by decide +kernel
theorem dX6_spread_25 : decode cX6_spread 25 = .ok (.istore 6, 2) := by decide +kernel
theorem dX6_spread_27 : decode cX6_spread 27 = .ok (.iload 6, 2) := by decide +kernel
theorem dX6_spread_29 : decode cX6_spread 29 = .ok (.aload_n 0, 1) := by decide +kernel
theorem dX6_spread_30 : decode cX6_spread 30 = .ok (.getfield 9, 3) := by decide +kernel
theorem dX6_spread_33 : decode cX6_spread 33 = .ok (.if_icmp .ge 39, 3) := by decide +kernel
theorem dX6_spread_36 : decode cX6_spread 36 = .ok (.aload_n 0, 1) := by decide +kernel
theorem dX6_spread_37 : decode cX6_spread 37 = .ok (.aload_n 0, 1) := by decide +kernel
theorem dX6_spread_38 : decode cX6_spread 38 = .ok (.getfield 18, 3) := by decide +kernel
theorem dX6_spread_41 : decode cX6_spread 41 = .ok (.iload 6, 2) := by decide +kernel
theorem dX6_spread_43 : decode cX6_spread 43 = .ok (.iaload, 1) := by decide +kernel
theorem dX6_spread_44 : decode cX6_spread 44 = .ok (.iload_n 2, 1) := by decide +kernel
theorem dX6_spread_45 : decode cX6_spread 45 = .ok (.invokevirtual 37, 3) := by decide +kernel
theorem dX6_spread_48 : decode cX6_spread 48 = .ok (.ifCond .eq 18, 3) := by decide +kernel
theorem dX6_spread_51 : decode cX6_spread 51 = .ok (.iload_n 3, 1) := by decide +kernel
theorem dX6_spread_52 : decode cX6_spread 52 = .ok (.aload_n 0, 1) := by decide +kernel
theorem dX6_spread_53 : decode cX6_spread 53 = .ok (.iload_n 3, 1) := by decide +kernel
theorem dX6_spread_54 : decode cX6_spread 54 = .ok (.aload_n 0, 1) := by decide +kernel
theorem dX6_spread_55 : decode cX6_spread 55 = .ok (.getfield 18, 3) := by decide +kernel
theorem dX6_spread_58 : decode cX6_spread 58 = .ok (.iload 6, 2) := by decide +kernel
theorem dX6_spread_60 : decode cX6_spread 60 = .ok (.iaload, 1) := by decide +kernel
theorem dX6_spread_61 : decode cX6_spread 61 = .ok (.invokevirtual 40, 3) := by decide +kernel
theorem dX6_spread_64 : decode cX6_spread 64 = .ok (.ior, 1) := by decide +kernel
theorem dX6_spread_65 : decode cX6_spread 65 = .ok (.istore_n 3, 1) := by decide +kernel
theorem dX6_spread_66 : decode cX6_spread 66 = .ok (.iinc 6 1, 3) := by decide +kernel
theorem dX6_spread_69 : decode cX6_spread 69 = .ok (.goto (-42), 3) := by decide +kernel
theorem dX6_spread_72 : decode cX6_spread 72 = .ok (.iinc 5 1, 3) := by decide +kernel
theorem dX6_spread_75 : decode cX6_spread 75 = .ok (.goto (-67), 3) := by decide +kernel
theorem dX6_spread_78 : decode cX6_spread 78 = .ok (.iload_n 3, 1) := by decide +kernel
theorem dX6_spread_79 : decode cX6_spread 79 = .ok (.ireturn, 1) := by decide +kernel
theorem dX6_leavesAlone_0 : decode cX6_leavesAlone 0 = .ok (.iconst 0, 1) := by decide +kernel
theorem dX6_leavesAlone_1 : decode cX6_leavesAlone 1 = .ok (.istore_n 3, 1) := by decide +kernel
theorem dX6_leavesAlone_2 : decode cX6_leavesAlone 2 = .ok (.iload_n 3, 1) := by decide +kernel
theorem dX6_leavesAlone_3 : decode cX6_leavesAlone 3 = .ok (.aload_n 0, 1) := by decide +kernel
theorem dX6_leavesAlone_4 : decode cX6_leavesAlone 4 = .ok (.getfield 43, 3) := by decide +kernel
theorem dX6_leavesAlone_7 : decode cX6_leavesAlone 7 = .ok (.getfield 47, 3) := by decide +kernel
theorem dX6_leavesAlone_10 : decode cX6_leavesAlone 10 = .ok (.if_icmp .ge 28, 3) := by decide +kernel
theorem dX6_leavesAlone_13 : decode cX6_leavesAlone 13 = .ok (.iload_n 2, 1) := by decide +kernel
theorem dX6_leavesAlone_14 : decode cX6_leavesAlone 14 = .ok (.iload_n 3, 1) := by decide +kernel
theorem dX6_leavesAlone_15 : decode cX6_leavesAlone 15 = .ok (.invokestatic 33, 3) := by decide +kernel
theorem dX6_leavesAlone_18 : decode cX6_leavesAlone 18 = .ok (.ifCond .eq 14, 3) := by decide +kernel
theorem dX6_leavesAlone_21 : decode cX6_leavesAlone 21 = .ok (.iload_n 1, 1) := by decide +kernel
theorem dX6_leavesAlone_22 : decode cX6_leavesAlone 22 = .ok (.iload_n 3, 1) := by decide +kernel
theorem dX6_leavesAlone_23 : decode cX6_leavesAlone 23 = .ok (.invokestatic 52, 3) := by decide +kernel
theorem dX6_leavesAlone_26 : decode cX6_leavesAlone 26 = .ok (.iload_n 3, 1) := by decide +kernel
theorem dX6_leavesAlone_27 : decode cX6_leavesAlone 27 = .ok (.if_icmp .eq 5, 3) := by decide +kernel
theorem dX6_leavesAlone_30 : decode cX6_leavesAlone 30 = .ok (.iconst 0, 1) := by decide +kernel
theorem dX6_leavesAlone_31 : decode cX6_leavesAlone 31 = .ok (.ireturn, 1) := by decide +kernel
theorem dX6_leavesAlone_32 : decode cX6_leavesAlone 32 = .ok (.iinc 3 1, 3) := by decide +kernel
theorem dX6_leavesAlone_35 : decode cX6_leavesAlone 35 = .ok (.goto (-33), 3) := by decide +kernel
theorem dX6_leavesAlone_38 : decode cX6_leavesAlone 38 = .ok (.iconst 1, 1) := by decide +kernel
theorem dX6_leavesAlone_39 : decode cX6_leavesAlone 39 = .ok (.ireturn, 1) := by decide +kernel
theorem dX6_imageOf_0 : decode cX6_imageOf 0 = .ok (.iconst 0, 1) := by decide +kernel
theorem dX6_imageOf_1 : decode cX6_imageOf 1 = .ok (.istore_n 3, 1) := by decide +kernel
theorem dX6_imageOf_2 : decode cX6_imageOf 2 = .ok (.iconst 0, 1) := by decide +kernel
theorem dX6_imageOf_3 : decode cX6_imageOf 3 = .ok (.istore 4, 2) := by decide +kernel
theorem dX6_imageOf_5 : decode cX6_imageOf 5 = .ok (.iload 4, 2) := by decide +kernel
theorem dX6_imageOf_7 : decode cX6_imageOf 7 = .ok (.aload_n 0, 1) := by decide +kernel
theorem dX6_imageOf_8 : decode cX6_imageOf 8 = .ok (.getfield 43, 3) := by decide +kernel
theorem dX6_imageOf_11 : decode cX6_imageOf 11 = .ok (.getfield 47, 3) := by decide +kernel
theorem dX6_imageOf_14 : decode cX6_imageOf 14 = .ok (.if_icmp .ge 29, 3) := by decide +kernel
theorem dX6_imageOf_17 : decode cX6_imageOf 17 = .ok (.iload_n 1, 1) := by decide +kernel
theorem dX6_imageOf_18 : decode cX6_imageOf 18 = .ok (.iload 4, 2) := by decide +kernel
theorem dX6_imageOf_20 : decode cX6_imageOf 20 = .ok (.invokestatic 33, 3) := by decide +kernel
theorem dX6_imageOf_23 : decode cX6_imageOf 23 = .ok (.ifCond .eq 14, 3) := by decide +kernel
theorem dX6_imageOf_26 : decode cX6_imageOf 26 = .ok (.iload_n 3, 1) := by decide +kernel
theorem dX6_imageOf_27 : decode cX6_imageOf 27 = .ok (.iconst 1, 1) := by decide +kernel
theorem dX6_imageOf_28 : decode cX6_imageOf 28 = .ok (.iload_n 2, 1) := by decide +kernel
theorem dX6_imageOf_29 : decode cX6_imageOf 29 = .ok (.iload 4, 2) := by decide +kernel
theorem dX6_imageOf_31 : decode cX6_imageOf 31 = .ok (.invokestatic 52, 3) := by decide +kernel
theorem dX6_imageOf_34 : decode cX6_imageOf 34 = .ok (.ishl, 1) := by decide +kernel
theorem dX6_imageOf_35 : decode cX6_imageOf 35 = .ok (.ior, 1) := by decide +kernel
theorem dX6_imageOf_36 : decode cX6_imageOf 36 = .ok (.istore_n 3, 1) := by decide +kernel
theorem dX6_imageOf_37 : decode cX6_imageOf 37 = .ok (.iinc 4 1, 3) := by decide +kernel
theorem dX6_imageOf_40 : decode cX6_imageOf 40 = .ok (.goto (-35), 3) := by decide +kernel
theorem dX6_imageOf_43 : decode cX6_imageOf 43 = .ok (.iload_n 3, 1) := by decide +kernel
theorem dX6_imageOf_44 : decode cX6_imageOf 44 = .ok (.ireturn, 1) := by decide +kernel
theorem dX6_cuts_0 : decode cX6_cuts 0 = .ok (.aload_n 0, 1) := by decide +kernel
theorem dX6_cuts_1 : decode cX6_cuts 1 = .ok (.getfield 55, 3) := by decide +kernel
theorem dX6_cuts_4 : decode cX6_cuts 4 = .ok (.ifCond .ne 5, 3) := by decide +kernel
theorem dX6_cuts_7 : decode cX6_cuts 7 = .ok (.iconst 0, 1) := by decide +kernel
theorem dX6_cuts_8 : decode cX6_cuts 8 = .ok (.ireturn, 1) := by decide +kernel
theorem dX6_cuts_9 : decode cX6_cuts 9 = .ok (.iconst 0, 1) := by decide +kernel
theorem dX6_cuts_10 : decode cX6_cuts 10 = .ok (.istore_n 2, 1) := by decide +kernel
theorem dX6_cuts_11 : decode cX6_cuts 11 = .ok (.iload_n 2, 1) := by decide +kernel
theorem dX6_cuts_12 : decode cX6_cuts 12 = .ok (.iload_n 1, 1) := by decide +kernel
theorem dX6_cuts_13 : decode cX6_cuts 13 = .ok (.if_icmp .ge 32, 3) := by decide +kernel
theorem dX6_cuts_16 : decode cX6_cuts 16 = .ok (.aload_n 0, 1) := by decide +kernel
theorem dX6_cuts_17 : decode cX6_cuts 17 = .ok (.getfield 58, 3) := by decide +kernel
theorem dX6_cuts_20 : decode cX6_cuts 20 = .ok (.getfield 61, 3) := by decide +kernel
theorem dX6_cuts_23 : decode cX6_cuts 23 = .ok (.iload_n 2, 1) := by decide +kernel
theorem dX6_cuts_24 : decode cX6_cuts 24 = .ok (.iaload, 1) := by decide +kernel
theorem dX6_cuts_25 : decode cX6_cuts 25 = .ok (.aload_n 0, 1) := by decide +kernel
theorem dX6_cuts_26 : decode cX6_cuts 26 = .ok (.getfield 64, 3) := by decide +kernel
theorem dX6_cuts_29 : decode cX6_cuts 29 = .ok (.getfield 61, 3) := by decide +kernel
theorem dX6_cuts_32 : decode cX6_cuts 32 = .ok (.iload_n 2, 1) := by decide +kernel
theorem dX6_cuts_33 : decode cX6_cuts 33 = .ok (.iaload, 1) := by decide +kernel
theorem dX6_cuts_34 : decode cX6_cuts 34 = .ok (.if_icmp .eq 5, 3) := by decide +kernel
theorem dX6_cuts_37 : decode cX6_cuts 37 = .ok (.iconst 0, 1) := by decide +kernel
theorem dX6_cuts_38 : decode cX6_cuts 38 = .ok (.ireturn, 1) := by decide +kernel
theorem dX6_cuts_39 : decode cX6_cuts 39 = .ok (.iinc 2 1, 3) := by decide +kernel
theorem dX6_cuts_42 : decode cX6_cuts 42 = .ok (.goto (-31), 3) := by decide +kernel
theorem dX6_cuts_45 : decode cX6_cuts 45 = .ok (.aload_n 0, 1) := by decide +kernel
theorem dX6_cuts_46 : decode cX6_cuts 46 = .ok (.getfield 58, 3) := by decide +kernel
theorem dX6_cuts_49 : decode cX6_cuts 49 = .ok (.getfield 61, 3) := by decide +kernel
theorem dX6_cuts_52 : decode cX6_cuts 52 = .ok (.iload_n 1, 1) := by decide +kernel
theorem dX6_cuts_53 : decode cX6_cuts 53 = .ok (.iaload, 1) := by decide +kernel
theorem dX6_cuts_54 : decode cX6_cuts 54 = .ok (.aload_n 0, 1) := by decide +kernel
theorem dX6_cuts_55 : decode cX6_cuts 55 = .ok (.getfield 64, 3) := by decide +kernel
theorem dX6_cuts_58 : decode cX6_cuts 58 = .ok (.getfield 61, 3) := by decide +kernel
theorem dX6_cuts_61 : decode cX6_cuts 61 = .ok (.iload_n 1, 1) := by decide +kernel
theorem dX6_cuts_62 : decode cX6_cuts 62 = .ok (.iaload, 1) := by decide +kernel
theorem dX6_cuts_63 : decode cX6_cuts 63 = .ok (.if_icmp .le 7, 3) := by decide +kernel
theorem dX6_cuts_66 : decode cX6_cuts 66 = .ok (.iconst 1, 1) := by decide +kernel
theorem dX6_cuts_67 : decode cX6_cuts 67 = .ok (.goto 4, 3) := by decide +kernel
theorem dX6_cuts_70 : decode cX6_cuts 70 = .ok (.iconst 0, 1) := by decide +kernel
theorem dX6_cuts_71 : decode cX6_cuts 71 = .ok (.ireturn, 1) := by decide +kernel
theorem dX6_reach_0 : decode cX6_reach 0 = .ok (.aload_n 0, 1) := by decide +kernel
theorem dX6_reach_1 : decode cX6_reach 1 = .ok (.getfield 55, 3) := by decide +kernel
theorem dX6_reach_4 : decode cX6_reach 4 = .ok (.iconst 1, 1) := by decide +kernel
theorem dX6_reach_5 : decode cX6_reach 5 = .ok (.if_icmp .ne 17, 3) := by decide +kernel
theorem dX6_reach_8 : decode cX6_reach 8 = .ok (.aload_n 0, 1) := by decide +kernel
theorem dX6_reach_9 : decode cX6_reach 9 = .ok (.getfield 25, 3) := by decide +kernel
theorem dX6_reach_12 : decode cX6_reach 12 = .ok (.aload_n 0, 1) := by decide +kernel
theorem dX6_reach_13 : decode cX6_reach 13 = .ok (.getfield 58, 3) := by decide +kernel
theorem dX6_reach_16 : decode cX6_reach 16 = .ok (.invokevirtual 67, 3) := by decide +kernel
theorem dX6_reach_19 : decode cX6_reach 19 = .ok (.goto 26, 3) := by decide +kernel
theorem dX6_reach_22 : decode cX6_reach 22 = .ok (.aload_n 0, 1) := by decide +kernel
theorem dX6_reach_23 : decode cX6_reach 23 = .ok (.getfield 58, 3) := by decide +kernel
theorem dX6_reach_26 : decode cX6_reach 26 = .ok (.aload_n 0, 1) := by decide +kernel
theorem dX6_reach_27 : decode cX6_reach 27 = .ok (.getfield 25, 3) := by decide +kernel
theorem dX6_reach_30 : decode cX6_reach 30 = .ok (.invokevirtual 71, 3) := by decide +kernel
theorem dX6_reach_33 : decode cX6_reach 33 = .ok (.ifCond .ne 12, 3) := by decide +kernel
theorem dX6_reach_36 : decode cX6_reach 36 = .ok (.aload_n 0, 1) := by decide +kernel
theorem dX6_reach_37 : decode cX6_reach 37 = .ok (.aload_n 0, 1) := by decide +kernel
theorem dX6_reach_38 : decode cX6_reach 38 = .ok (.getfield 25, 3) := by decide +kernel
theorem dX6_reach_41 : decode cX6_reach 41 = .ok (.invokevirtual 75, 3) := by decide +kernel
theorem dX6_reach_44 : decode cX6_reach 44 = .ok (.return_, 1) := by decide +kernel
theorem dX6_reach_45 : decode cX6_reach 45 = .ok (.aload_n 0, 1) := by decide +kernel
theorem dX6_reach_46 : decode cX6_reach 46 = .ok (.getfield 55, 3) := by decide +kernel
theorem dX6_reach_49 : decode cX6_reach 49 = .ok (.iconst 1, 1) := by decide +kernel
theorem dX6_reach_50 : decode cX6_reach 50 = .ok (.if_icmp .ne 7, 3) := by decide +kernel
theorem dX6_reach_53 : decode cX6_reach 53 = .ok (.iconst (-1), 1) := by decide +kernel
theorem dX6_reach_54 : decode cX6_reach 54 = .ok (.goto 14, 3) := by decide +kernel
theorem dX6_reach_57 : decode cX6_reach 57 = .ok (.aload_n 0, 1) := by decide +kernel
theorem dX6_reach_58 : decode cX6_reach 58 = .ok (.getfield 58, 3) := by decide +kernel
theorem dX6_reach_61 : decode cX6_reach 61 = .ok (.aload_n 0, 1) := by decide +kernel
theorem dX6_reach_62 : decode cX6_reach 62 = .ok (.getfield 64, 3) := by decide +kernel
theorem dX6_reach_65 : decode cX6_reach 65 = .ok (.invokevirtual 71, 3) := by decide +kernel
theorem dX6_reach_68 : decode cX6_reach 68 = .ok (.istore_n 1, 1) := by decide +kernel
theorem dX6_reach_69 : decode cX6_reach 69 = .ok (.iload_n 1, 1) := by decide +kernel
theorem dX6_reach_70 : decode cX6_reach 70 = .ok (.ifCond .ge 27, 3) := by decide +kernel
theorem dX6_reach_73 : decode cX6_reach 73 = .ok (.aload_n 0, 1) := by decide +kernel
theorem dX6_reach_74 : decode cX6_reach 74 = .ok (.getfield 64, 3) := by decide +kernel
theorem dX6_reach_77 : decode cX6_reach 77 = .ok (.aload_n 0, 1) := by decide +kernel
theorem dX6_reach_78 : decode cX6_reach 78 = .ok (.getfield 58, 3) := by decide +kernel
theorem dX6_reach_81 : decode cX6_reach 81 = .ok (.invokevirtual 67, 3) := by decide +kernel
theorem dX6_reach_84 : decode cX6_reach 84 = .ok (.aload_n 0, 1) := by decide +kernel
theorem dX6_reach_85 : decode cX6_reach 85 = .ok (.dup, 1) := by decide +kernel
theorem dX6_reach_86 : decode cX6_reach 86 = .ok (.getfield 15, 3) := by decide +kernel
theorem dX6_reach_89 : decode cX6_reach 89 = .ok (.iconst 1, 1) := by decide +kernel
theorem dX6_reach_90 : decode cX6_reach 90 = .ok (.iadd, 1) := by decide +kernel
theorem dX6_reach_91 : decode cX6_reach 91 = .ok (.putfield 15, 3) := by decide +kernel
theorem dX6_reach_94 : decode cX6_reach 94 = .ok (.goto 15, 3) := by decide +kernel
theorem dX6_reach_97 : decode cX6_reach 97 = .ok (.iload_n 1, 1) := by decide +kernel
theorem dX6_reach_98 : decode cX6_reach 98 = .ok (.ifCond .ne 11, 3) := by decide +kernel
theorem dX6_reach_101 : decode cX6_reach 101 = .ok (.aload_n 0, 1) := by decide +kernel
theorem dX6_reach_102 : decode cX6_reach 102 = .ok (.aload_n 0, 1) := by decide +kernel
theorem dX6_reach_103 : decode cX6_reach 103 = .ok (.getfield 64, 3) := by decide +kernel
theorem dX6_reach_106 : decode cX6_reach 106 = .ok (.invokevirtual 75, 3) := by decide +kernel
theorem dX6_reach_109 : decode cX6_reach 109 = .ok (.return_, 1) := by decide +kernel
theorem dX6_note_0 : decode cX6_note 0 = .ok (.aload_n 0, 1) := by decide +kernel
theorem dX6_note_1 : decode cX6_note 1 = .ok (.getfield 9, 3) := by decide +kernel
theorem dX6_note_4 : decode cX6_note 4 = .ok (.sipush 5040, 3) := by decide +kernel
theorem dX6_note_7 : decode cX6_note 7 = .ok (.if_icmp .lt 4, 3) := by decide +kernel
theorem dX6_note_10 : decode cX6_note 10 = .ok (.return_, 1) := by decide +kernel
theorem dX6_note_11 : decode cX6_note 11 = .ok (.iconst 0, 1) := by decide +kernel
theorem dX6_note_12 : decode cX6_note 12 = .ok (.istore_n 2, 1) := by decide +kernel
theorem dX6_note_13 : decode cX6_note 13 = .ok (.iconst 0, 1) := by decide +kernel
theorem dX6_note_14 : decode cX6_note 14 = .ok (.istore_n 3, 1) := by decide +kernel
theorem dX6_note_15 : decode cX6_note 15 = .ok (.iload_n 3, 1) := by decide +kernel
theorem dX6_note_16 : decode cX6_note 16 = .ok (.aload_n 0, 1) := by decide +kernel
theorem dX6_note_17 : decode cX6_note 17 = .ok (.getfield 43, 3) := by decide +kernel
theorem dX6_note_20 : decode cX6_note 20 = .ok (.getfield 47, 3) := by decide +kernel
theorem dX6_note_23 : decode cX6_note 23 = .ok (.if_icmp .ge 30, 3) := by decide +kernel
theorem dX6_note_26 : decode cX6_note 26 = .ok (.iload_n 2, 1) := by decide +kernel
theorem dX6_note_27 : decode cX6_note 27 = .ok (.aload_n 0, 1) := by decide +kernel
theorem dX6_note_28 : decode cX6_note 28 = .ok (.getfield 58, 3) := by decide +kernel
theorem dX6_note_31 : decode cX6_note 31 = .ok (.getfield 78, 3) := by decide +kernel
theorem dX6_note_34 : decode cX6_note 34 = .ok (.iload_n 3, 1) := by decide +kernel
theorem dX6_note_35 : decode cX6_note 35 = .ok (.iaload, 1) := by decide +kernel
theorem dX6_note_36 : decode cX6_note 36 = .ok (.iconst 3, 1) := by decide +kernel
theorem dX6_note_37 : decode cX6_note 37 = .ok (.aload_n 1, 1) := by decide +kernel
theorem dX6_note_38 : decode cX6_note 38 = .ok (.getfield 78, 3) := by decide +kernel
theorem dX6_note_41 : decode cX6_note 41 = .ok (.iload_n 3, 1) := by decide +kernel
theorem dX6_note_42 : decode cX6_note 42 = .ok (.iaload, 1) := by decide +kernel
theorem dX6_note_43 : decode cX6_note 43 = .ok (.imul, 1) := by decide +kernel
theorem dX6_note_44 : decode cX6_note 44 = .ok (.ishl, 1) := by decide +kernel
theorem dX6_note_45 : decode cX6_note 45 = .ok (.ior, 1) := by decide +kernel
theorem dX6_note_46 : decode cX6_note 46 = .ok (.istore_n 2, 1) := by decide +kernel
theorem dX6_note_47 : decode cX6_note 47 = .ok (.iinc 3 1, 3) := by decide +kernel
theorem dX6_note_50 : decode cX6_note 50 = .ok (.goto (-35), 3) := by decide +kernel
theorem dX6_note_53 : decode cX6_note 53 = .ok (.aload_n 0, 1) := by decide +kernel
theorem dX6_note_54 : decode cX6_note 54 = .ok (.getfield 18, 3) := by decide +kernel
theorem dX6_note_57 : decode cX6_note 57 = .ok (.aload_n 0, 1) := by decide +kernel
theorem dX6_note_58 : decode cX6_note 58 = .ok (.getfield 9, 3) := by decide +kernel
theorem dX6_note_61 : decode cX6_note 61 = .ok (.iload_n 2, 1) := by decide +kernel
theorem dX6_note_62 : decode cX6_note 62 = .ok (.iastore, 1) := by decide +kernel
theorem dX6_note_63 : decode cX6_note 63 = .ok (.aload_n 0, 1) := by decide +kernel
theorem dX6_note_64 : decode cX6_note 64 = .ok (.dup, 1) := by decide +kernel
theorem dX6_note_65 : decode cX6_note 65 = .ok (.getfield 9, 3) := by decide +kernel
theorem dX6_note_68 : decode cX6_note 68 = .ok (.iconst 1, 1) := by decide +kernel
theorem dX6_note_69 : decode cX6_note 69 = .ok (.iadd, 1) := by decide +kernel
theorem dX6_note_70 : decode cX6_note 70 = .ok (.putfield 9, 3) := by decide +kernel
theorem dX6_note_73 : decode cX6_note 73 = .ok (.return_, 1) := by decide +kernel
theorem dX7_init_0 : decode cX7_init 0 = .ok (.aload_n 0, 1) := by decide +kernel
theorem dX7_init_1 : decode cX7_init 1 = .ok (.invokespecial 1, 3) := by decide +kernel
theorem dX7_init_4 : decode cX7_init 4 = .ok (.aload_n 0, 1) := by decide +kernel
theorem dX7_init_5 : decode cX7_init 5 = .ok (.iconst 0, 1) := by decide +kernel
theorem dX7_init_6 : decode cX7_init 6 = .ok (.putfield 7, 3) := by decide +kernel
theorem dX7_init_9 : decode cX7_init 9 = .ok (.aload_n 0, 1) := by decide +kernel
theorem dX7_init_10 : decode cX7_init 10 = .ok (.iconst 0, 1) := by decide +kernel
theorem dX7_init_11 : decode cX7_init 11 = .ok (.putfield 13, 3) := by decide +kernel
theorem dX7_init_14 : decode cX7_init 14 = .ok (.return_, 1) := by decide +kernel
theorem dX7_forget_0 : decode cX7_forget 0 = .ok (.aload_n 0, 1) := by decide +kernel
theorem dX7_forget_1 : decode cX7_forget 1 = .ok (.iconst 0, 1) := by decide +kernel
theorem dX7_forget_2 : decode cX7_forget 2 = .ok (.putfield 7, 3) := by decide +kernel
theorem dX7_forget_5 : decode cX7_forget 5 = .ok (.aload_n 0, 1) := by decide +kernel
theorem dX7_forget_6 : decode cX7_forget 6 = .ok (.iconst 0, 1) := by decide +kernel
theorem dX7_forget_7 : decode cX7_forget 7 = .ok (.putfield 13, 3) := by decide +kernel
theorem dX7_forget_10 : decode cX7_forget 10 = .ok (.return_, 1) := by decide +kernel
theorem dX7_skips_0 : decode cX7_skips 0 = .ok (.iconst 0, 1) := by decide +kernel
theorem dX7_skips_1 : decode cX7_skips 1 = .ok (.ireturn, 1) := by decide +kernel
theorem dX7_cuts_0 : decode cX7_cuts 0 = .ok (.iconst 0, 1) := by decide +kernel
theorem dX7_cuts_1 : decode cX7_cuts 1 = .ok (.ireturn, 1) := by decide +kernel
theorem dX7_reach_0 : decode cX7_reach 0 = .ok (.aload_n 0, 1) := by decide +kernel
theorem dX7_reach_1 : decode cX7_reach 1 = .ok (.aload_n 0, 1) := by decide +kernel
theorem dX7_reach_2 : decode cX7_reach 2 = .ok (.getfield 7, 3) := by decide +kernel
theorem dX7_reach_5 : decode cX7_reach 5 = .ok (.aload_n 0, 1) := by decide +kernel
theorem dX7_reach_6 : decode cX7_reach 6 = .ok (.getfield 16, 3) := by decide +kernel
theorem dX7_reach_9 : decode cX7_reach 9 = .ok (.getfield 20, 3) := by decide +kernel
theorem dX7_reach_12 : decode cX7_reach 12 = .ok (.invokestatic 25, 3) := by decide +kernel
theorem dX7_reach_15 : decode cX7_reach 15 = .ok (.putfield 7, 3) := by decide +kernel
theorem dX7_reach_18 : decode cX7_reach 18 = .ok (.aload_n 0, 1) := by decide +kernel
theorem dX7_reach_19 : decode cX7_reach 19 = .ok (.getfield 31, 3) := by decide +kernel
theorem dX7_reach_22 : decode cX7_reach 22 = .ok (.iconst 1, 1) := by decide +kernel
theorem dX7_reach_23 : decode cX7_reach 23 = .ok (.if_icmp .ne 7, 3) := by decide +kernel
theorem dX7_reach_26 : decode cX7_reach 26 = .ok (.iconst (-1), 1) := by decide +kernel
theorem dX7_reach_27 : decode cX7_reach 27 = .ok (.goto 14, 3) := by decide +kernel
theorem dX7_reach_30 : decode cX7_reach 30 = .ok (.aload_n 0, 1) := by decide +kernel
theorem dX7_reach_31 : decode cX7_reach 31 = .ok (.getfield 16, 3) := by decide +kernel
theorem dX7_reach_34 : decode cX7_reach 34 = .ok (.aload_n 0, 1) := by decide +kernel
theorem dX7_reach_35 : decode cX7_reach 35 = .ok (.getfield 34, 3) := by decide +kernel
theorem dX7_reach_38 : decode cX7_reach 38 = .ok (.invokevirtual 37, 3) := by decide +kernel
theorem dX7_reach_41 : decode cX7_reach 41 = .ok (.istore_n 1, 1) := by decide +kernel
theorem dX7_reach_42 : decode cX7_reach 42 = .ok (.iload_n 1, 1) := by decide +kernel
theorem dX7_reach_43 : decode cX7_reach 43 = .ok (.ifCond .ge 22, 3) := by decide +kernel
theorem dX7_reach_46 : decode cX7_reach 46 = .ok (.aload_n 0, 1) := by decide +kernel
theorem dX7_reach_47 : decode cX7_reach 47 = .ok (.getfield 34, 3) := by decide +kernel
theorem dX7_reach_50 : decode cX7_reach 50 = .ok (.aload_n 0, 1) := by decide +kernel
theorem dX7_reach_51 : decode cX7_reach 51 = .ok (.getfield 16, 3) := by decide +kernel
theorem dX7_reach_54 : decode cX7_reach 54 = .ok (.invokevirtual 41, 3) := by decide +kernel
theorem dX7_reach_57 : decode cX7_reach 57 = .ok (.aload_n 0, 1) := by decide +kernel
theorem dX7_reach_58 : decode cX7_reach 58 = .ok (.iconst 1, 1) := by decide +kernel
theorem dX7_reach_59 : decode cX7_reach 59 = .ok (.putfield 13, 3) := by decide +kernel
theorem dX7_reach_62 : decode cX7_reach 62 = .ok (.goto 17, 3) := by decide +kernel
theorem dX7_reach_65 : decode cX7_reach 65 = .ok (.iload_n 1, 1) := by decide +kernel
theorem dX7_reach_66 : decode cX7_reach 66 = .ok (.ifCond .ne 13, 3) := by decide +kernel
theorem dX7_reach_69 : decode cX7_reach 69 = .ok (.aload_n 0, 1) := by decide +kernel
theorem dX7_reach_70 : decode cX7_reach 70 = .ok (.dup, 1) := by decide +kernel
theorem dX7_reach_71 : decode cX7_reach 71 = .ok (.getfield 13, 3) := by decide +kernel
theorem dX7_reach_74 : decode cX7_reach 74 = .ok (.iconst 1, 1) := by decide +kernel
theorem dX7_reach_75 : decode cX7_reach 75 = .ok (.iadd, 1) := by decide +kernel
theorem dX7_reach_76 : decode cX7_reach 76 = .ok (.putfield 13, 3) := by decide +kernel
theorem dX7_reach_79 : decode cX7_reach 79 = .ok (.return_, 1) := by decide +kernel
theorem dX8_init_0 : decode cX8_init 0 = .ok (.aload_n 0, 1) := by decide +kernel
theorem dX8_init_1 : decode cX8_init 1 = .ok (.invokespecial 3, 3) := by decide +kernel
theorem dX8_init_4 : decode cX8_init 4 = .ok (.aload_n 0, 1) := by decide +kernel
theorem dX8_init_5 : decode cX8_init 5 = .ok (.new 9, 3) := by decide +kernel
theorem dX8_init_8 : decode cX8_init 8 = .ok (.dup, 1) := by decide +kernel
theorem dX8_init_9 : decode cX8_init 9 = .ok (.invokespecial 11, 3) := by decide +kernel
theorem dX8_init_12 : decode cX8_init 12 = .ok (.putfield 12, 3) := by decide +kernel
theorem dX8_init_15 : decode cX8_init 15 = .ok (.aload_n 0, 1) := by decide +kernel
theorem dX8_init_16 : decode cX8_init 16 = .ok (.bipush 7, 2) := by decide +kernel
theorem dX8_init_18 : decode cX8_init 18 = .ok (.anewarray 18, 3) := by decide +kernel
theorem dX8_init_21 : decode cX8_init 21 = .ok (.putfield 20, 3) := by decide +kernel
theorem dX8_init_24 : decode cX8_init 24 = .ok (.aload_n 0, 1) := by decide +kernel
theorem dX8_init_25 : decode cX8_init 25 = .ok (.new 24, 3) := by decide +kernel
theorem dX8_init_28 : decode cX8_init 28 = .ok (.dup, 1) := by decide +kernel
theorem dX8_init_29 : decode cX8_init 29 = .ok (.invokespecial 26, 3) := by decide +kernel
theorem dX8_init_32 : decode cX8_init 32 = .ok (.putfield 27, 3) := by decide +kernel
theorem dX8_init_35 : decode cX8_init 35 = .ok (.aload_n 0, 1) := by decide +kernel
theorem dX8_init_36 : decode cX8_init 36 = .ok (.new 24, 3) := by decide +kernel
theorem dX8_init_39 : decode cX8_init 39 = .ok (.dup, 1) := by decide +kernel
theorem dX8_init_40 : decode cX8_init 40 = .ok (.invokespecial 26, 3) := by decide +kernel
theorem dX8_init_43 : decode cX8_init 43 = .ok (.putfield 31, 3) := by decide +kernel
theorem dX8_init_46 : decode cX8_init 46 = .ok (.aload_n 0, 1) := by decide +kernel
theorem dX8_init_47 : decode cX8_init 47 = .ok (.iconst 0, 1) := by decide +kernel
theorem dX8_init_48 : decode cX8_init 48 = .ok (.putfield 34, 3) := by decide +kernel
theorem dX8_init_51 : decode cX8_init 51 = .ok (.aload_n 0, 1) := by decide +kernel
theorem dX8_init_52 : decode cX8_init 52 = .ok (.iconst 0, 1) := by decide +kernel
theorem dX8_init_53 : decode cX8_init 53 = .ok (.putfield 38, 3) := by decide +kernel
theorem dX8_init_56 : decode cX8_init 56 = .ok (.aload_n 0, 1) := by decide +kernel
theorem dX8_init_57 : decode cX8_init 57 = .ok (.iconst 0, 1) := by decide +kernel
theorem dX8_init_58 : decode cX8_init 58 = .ok (.putfield 41, 3) := by decide +kernel
theorem dX8_init_61 : decode cX8_init 61 = .ok (.aload_n 0, 1) := by decide +kernel
theorem dX8_init_62 : decode cX8_init 62 = .ok (.iconst 0, 1) := by decide +kernel
theorem dX8_init_63 : decode cX8_init 63 = .ok (.putfield 44, 3) := by decide +kernel
theorem dX8_init_66 : decode cX8_init 66 = .ok (.aload_n 0, 1) := by decide +kernel
theorem dX8_init_67 : decode cX8_init 67 = .ok (.iconst 0, 1) := by decide +kernel
theorem dX8_init_68 : decode cX8_init 68 = .ok (.putfield 47, 3) := by decide +kernel
theorem dX8_init_71 : decode cX8_init 71 = .ok (.iconst 0, 1) := by decide +kernel
theorem dX8_init_72 : decode cX8_init 72 = .ok (.istore_n 1, 1) := by decide +kernel
theorem dX8_init_73 : decode cX8_init 73 = .ok (.iload_n 1, 1) := by decide +kernel
theorem dX8_init_74 : decode cX8_init 74 = .ok (.bipush 7, 2) := by decide +kernel
theorem dX8_init_76 : decode cX8_init 76 = .ok (.if_icmp .ge 22, 3) := by decide +kernel
theorem dX8_init_79 : decode cX8_init 79 = .ok (.aload_n 0, 1) := by decide +kernel
theorem dX8_init_80 : decode cX8_init 80 = .ok (.getfield 20, 3) := by decide +kernel
theorem dX8_init_83 : decode cX8_init 83 = .ok (.iload_n 1, 1) := by decide +kernel
theorem dX8_init_84 : decode cX8_init 84 = .ok (.new 18, 3) := by decide +kernel
theorem dX8_init_87 : decode cX8_init 87 = .ok (.dup, 1) := by decide +kernel
theorem dX8_init_88 : decode cX8_init 88 = .ok (.invokespecial 51, 3) := by decide +kernel
theorem dX8_init_91 : decode cX8_init 91 = .ok (.aastore, 1) := by decide +kernel
theorem dX8_init_92 : decode cX8_init 92 = .ok (.iinc 1 1, 3) := by decide +kernel
theorem dX8_init_95 : decode cX8_init 95 = .ok (.goto (-22), 3) := by decide +kernel
theorem dX8_init_98 : decode cX8_init 98 = .ok (.return_, 1) := by decide +kernel
theorem dX8_look_0 : decode cX8_look 0 = .ok (.aload_n 0, 1) := by decide +kernel
theorem dX8_look_1 : decode cX8_look 1 = .ok (.getfield 47, 3) := by decide +kernel
theorem dX8_look_4 : decode cX8_look 4 = .ok (.ifCond .eq 15, 3) := by decide +kernel
theorem dX8_look_7 : decode cX8_look 7 = .ok (.aload_n 0, 1) := by decide +kernel
theorem dX8_look_8 : decode cX8_look 8 = .ok (.getfield 12, 3) := by decide +kernel
theorem dX8_look_11 : decode cX8_look 11 = .ok (.aload_n 1, 1) := by decide +kernel
theorem dX8_look_12 : decode cX8_look 12 = .ok (.invokevirtual 52, 3) := by decide +kernel
theorem dX8_look_15 : decode cX8_look 15 = .ok (.ifCond .eq 4, 3) := by decide +kernel
theorem dX8_look_18 : decode cX8_look 18 = .ok (.return_, 1) := by decide +kernel
theorem dX8_look_19 : decode cX8_look 19 = .ok (.aload_n 0, 1) := by decide +kernel
theorem dX8_look_20 : decode cX8_look 20 = .ok (.iconst 1, 1) := by decide +kernel
theorem dX8_look_21 : decode cX8_look 21 = .ok (.putfield 47, 3) := by decide +kernel
theorem dX8_look_24 : decode cX8_look 24 = .ok (.aload_n 0, 1) := by decide +kernel
theorem dX8_look_25 : decode cX8_look 25 = .ok (.getfield 12, 3) := by decide +kernel
theorem dX8_look_28 : decode cX8_look 28 = .ok (.aload_n 1, 1) := by decide +kernel
theorem dX8_look_29 : decode cX8_look 29 = .ok (.invokevirtual 56, 3) := by decide +kernel
theorem dX8_look_32 : decode cX8_look 32 = .ok (.aload_n 0, 1) := by decide +kernel
theorem dX8_look_33 : decode cX8_look 33 = .ok (.iconst 0, 1) := by decide +kernel
theorem dX8_look_34 : decode cX8_look 34 = .ok (.putfield 34, 3) := by decide +kernel
theorem dX8_look_37 : decode cX8_look 37 = .ok (.aload_n 0, 1) := by decide +kernel
theorem dX8_look_38 : decode cX8_look 38 = .ok (.iconst 0, 1) := by decide +kernel
theorem dX8_look_39 : decode cX8_look 39 = .ok (.putfield 38, 3) := by decide +kernel
theorem dX8_look_42 : decode cX8_look 42 = .ok (.aload_n 0, 1) := by decide +kernel
theorem dX8_look_43 : decode cX8_look 43 = .ok (.iconst 0, 1) := by decide +kernel
theorem dX8_look_44 : decode cX8_look 44 = .ok (.putfield 41, 3) := by decide +kernel
theorem dX8_look_47 : decode cX8_look 47 = .ok (.aload_n 0, 1) := by decide +kernel
theorem dX8_look_48 : decode cX8_look 48 = .ok (.iconst 0, 1) := by decide +kernel
theorem dX8_look_49 : decode cX8_look 49 = .ok (.putfield 44, 3) := by decide +kernel
theorem dX8_look_52 : decode cX8_look 52 = .ok (.aload_n 0, 1) := by decide +kernel
theorem dX8_look_53 : decode cX8_look 53 = .ok (.invokevirtual 60, 3) := by decide +kernel
theorem dX8_look_56 : decode cX8_look 56 = .ok (.aload_n 0, 1) := by decide +kernel
theorem dX8_look_57 : decode cX8_look 57 = .ok (.getfield 20, 3) := by decide +kernel
theorem dX8_look_60 : decode cX8_look 60 = .ok (.iconst 0, 1) := by decide +kernel
theorem dX8_look_61 : decode cX8_look 61 = .ok (.aaload, 1) := by decide +kernel
theorem dX8_look_62 : decode cX8_look 62 = .ok (.aload_n 0, 1) := by decide +kernel
theorem dX8_look_63 : decode cX8_look 63 = .ok (.getfield 12, 3) := by decide +kernel
theorem dX8_look_66 : decode cX8_look 66 = .ok (.invokevirtual 63, 3) := by decide +kernel
theorem dX8_look_69 : decode cX8_look 69 = .ok (.aload_n 0, 1) := by decide +kernel
theorem dX8_look_70 : decode cX8_look 70 = .ok (.getfield 27, 3) := by decide +kernel
theorem dX8_look_73 : decode cX8_look 73 = .ok (.getfield 66, 3) := by decide +kernel
theorem dX8_look_76 : decode cX8_look 76 = .ok (.iconst 0, 1) := by decide +kernel
theorem dX8_look_77 : decode cX8_look 77 = .ok (.aload_n 0, 1) := by decide +kernel
theorem dX8_look_78 : decode cX8_look 78 = .ok (.getfield 20, 3) := by decide +kernel
theorem dX8_look_81 : decode cX8_look 81 = .ok (.iconst 0, 1) := by decide +kernel
theorem dX8_look_82 : decode cX8_look 82 = .ok (.aaload, 1) := by decide +kernel
theorem dX8_look_83 : decode cX8_look 83 = .ok (.invokevirtual 70, 3) := by decide +kernel
theorem dX8_look_86 : decode cX8_look 86 = .ok (.iastore, 1) := by decide +kernel
theorem dX8_look_87 : decode cX8_look 87 = .ok (.aload_n 0, 1) := by decide +kernel
theorem dX8_look_88 : decode cX8_look 88 = .ok (.iconst 0, 1) := by decide +kernel
theorem dX8_look_89 : decode cX8_look 89 = .ok (.iconst 0, 1) := by decide +kernel
theorem dX8_look_90 : decode cX8_look 90 = .ok (.invokevirtual 74, 3) := by decide +kernel
theorem dX8_look_93 : decode cX8_look 93 = .ok (.return_, 1) := by decide +kernel
theorem dX8_come_0 : decode cX8_come 0 = .ok (.aload_n 0, 1) := by decide +kernel
theorem dX8_come_1 : decode cX8_come 1 = .ok (.dup, 1) := by decide +kernel
theorem dX8_come_2 : decode cX8_come 2 = .ok (.getfield 34, 3) := by decide +kernel
theorem dX8_come_5 : decode cX8_come 5 = .ok (.iconst 1, 1) := by decide +kernel
theorem dX8_come_6 : decode cX8_come 6 = .ok (.iadd, 1) := by decide +kernel
theorem dX8_come_7 : decode cX8_come 7 = .ok (.putfield 34, 3) := by decide +kernel
theorem dX8_come_10 : decode cX8_come 10 = .ok (.aload_n 0, 1) := by decide +kernel
theorem dX8_come_11 : decode cX8_come 11 = .ok (.getfield 20, 3) := by decide +kernel
theorem dX8_come_14 : decode cX8_come 14 = .ok (.iload_n 1, 1) := by decide +kernel
theorem dX8_come_15 : decode cX8_come 15 = .ok (.aaload, 1) := by decide +kernel
theorem dX8_come_16 : decode cX8_come 16 = .ok (.invokevirtual 78, 3) := by decide +kernel
theorem dX8_come_19 : decode cX8_come 19 = .ok (.istore_n 3, 1) := by decide +kernel
theorem dX8_come_20 : decode cX8_come 20 = .ok (.iload_n 3, 1) := by decide +kernel
theorem dX8_come_21 : decode cX8_come 21 = .ok (.ifCond .eq 11, 3) := by decide +kernel
theorem dX8_come_24 : decode cX8_come 24 = .ok (.iload_n 1, 1) := by decide +kernel
theorem dX8_come_25 : decode cX8_come 25 = .ok (.iconst 1, 1) := by decide +kernel
theorem dX8_come_26 : decode cX8_come 26 = .ok (.iadd, 1) := by decide +kernel
theorem dX8_come_27 : decode cX8_come 27 = .ok (.bipush 7, 2) := by decide +kernel
theorem dX8_come_29 : decode cX8_come 29 = .ok (.if_icmp .lt 36, 3) := by decide +kernel
theorem dX8_come_32 : decode cX8_come 32 = .ok (.aload_n 0, 1) := by decide +kernel
theorem dX8_come_33 : decode cX8_come 33 = .ok (.dup, 1) := by decide +kernel
theorem dX8_come_34 : decode cX8_come 34 = .ok (.getfield 38, 3) := by decide +kernel
theorem dX8_come_37 : decode cX8_come 37 = .ok (.iconst 1, 1) := by decide +kernel
theorem dX8_come_38 : decode cX8_come 38 = .ok (.iadd, 1) := by decide +kernel
theorem dX8_come_39 : decode cX8_come 39 = .ok (.putfield 38, 3) := by decide +kernel
theorem dX8_come_42 : decode cX8_come 42 = .ok (.aload_n 0, 1) := by decide +kernel
theorem dX8_come_43 : decode cX8_come 43 = .ok (.getfield 27, 3) := by decide +kernel
theorem dX8_come_46 : decode cX8_come 46 = .ok (.aload_n 0, 1) := by decide +kernel
theorem dX8_come_47 : decode cX8_come 47 = .ok (.getfield 12, 3) := by decide +kernel
theorem dX8_come_50 : decode cX8_come 50 = .ok (.aload_n 0, 1) := by decide +kernel
theorem dX8_come_51 : decode cX8_come 51 = .ok (.getfield 20, 3) := by decide +kernel
theorem dX8_come_54 : decode cX8_come 54 = .ok (.iload_n 1, 1) := by decide +kernel
theorem dX8_come_55 : decode cX8_come 55 = .ok (.aaload, 1) := by decide +kernel
theorem dX8_come_56 : decode cX8_come 56 = .ok (.iload_n 1, 1) := by decide +kernel
theorem dX8_come_57 : decode cX8_come 57 = .ok (.invokevirtual 81, 3) := by decide +kernel
theorem dX8_come_60 : decode cX8_come 60 = .ok (.aload_n 0, 1) := by decide +kernel
theorem dX8_come_61 : decode cX8_come 61 = .ok (.invokevirtual 85, 3) := by decide +kernel
theorem dX8_come_64 : decode cX8_come 64 = .ok (.return_, 1) := by decide +kernel
theorem dX8_come_65 : decode cX8_come 65 = .ok (.aload_n 0, 1) := by decide +kernel
theorem dX8_come_66 : decode cX8_come 66 = .ok (.getfield 20, 3) := by decide +kernel
theorem dX8_come_69 : decode cX8_come 69 = .ok (.iload_n 1, 1) := by decide +kernel
theorem dX8_come_70 : decode cX8_come 70 = .ok (.iconst 1, 1) := by decide +kernel
theorem dX8_come_71 : decode cX8_come 71 = .ok (.iadd, 1) := by decide +kernel
theorem dX8_come_72 : decode cX8_come 72 = .ok (.aaload, 1) := by decide +kernel
theorem dX8_come_73 : decode cX8_come 73 = .ok (.astore 4, 2) := by decide +kernel
theorem dX8_come_75 : decode cX8_come 75 = .ok (.iconst 0, 1) := by decide +kernel
theorem dX8_come_76 : decode cX8_come 76 = .ok (.istore 5, 2) := by decide +kernel
theorem dX8_come_78 : decode cX8_come 78 = .ok (.iconst 0, 1) := by decide +kernel
theorem dX8_come_79 : decode cX8_come 79 = .ok (.istore 6, 2) := by decide +kernel
theorem dX8_come_81 : decode cX8_come 81 = .ok (.iload 6, 2) := by decide +kernel
theorem dX8_come_83 : decode cX8_come 83 = .ok (.aload_n 0, 1) := by decide +kernel
theorem dX8_come_84 : decode cX8_come 84 = .ok (.getfield 12, 3) := by decide +kernel
theorem dX8_come_87 : decode cX8_come 87 = .ok (.getfield 88, 3) := by decide +kernel
theorem dX8_come_90 : decode cX8_come 90 = .ok (.if_icmp .ge 134, 3) := by decide +kernel
theorem dX8_come_93 : decode cX8_come 93 = .ok (.iload_n 3, 1) := by decide +kernel
theorem dX8_come_94 : decode cX8_come 94 = .ok (.iload 6, 2) := by decide +kernel
theorem dX8_come_96 : decode cX8_come 96 = .ok (.invokestatic 91, 3) := by decide +kernel
theorem dX8_come_99 : decode cX8_come 99 = .ok (.ifCond .ne 6, 3) := by decide +kernel
theorem dX8_come_102 : decode cX8_come 102 = .ok (.goto 116, 3) := by decide +kernel
theorem dX8_come_105 : decode cX8_come 105 = .ok (.aload_n 0, 1) := by decide +kernel
theorem dX8_come_106 : decode cX8_come 106 = .ok (.iload 6, 2) := by decide +kernel
theorem dX8_come_108 : decode cX8_come 108 = .ok (.iload 5, 2) := by decide +kernel
theorem dX8_come_110 : decode cX8_come 110 = .ok (.iload_n 2, 1) := by decide +kernel
theorem dX8_come_111 : decode cX8_come 111 = .ok (.invokevirtual 95, 3) := by decide +kernel
theorem dX8_come_114 : decode cX8_come 114 = .ok (.ifCond .eq 16, 3) := by decide +kernel
theorem dX8_come_117 : decode cX8_come 117 = .ok (.aload_n 0, 1) := by decide +kernel
theorem dX8_come_118 : decode cX8_come 118 = .ok (.dup, 1) := by decide +kernel
theorem dX8_come_119 : decode cX8_come 119 = .ok (.getfield 44, 3) := by decide +kernel
theorem dX8_come_122 : decode cX8_come 122 = .ok (.iconst 1, 1) := by decide +kernel
theorem dX8_come_123 : decode cX8_come 123 = .ok (.iadd, 1) := by decide +kernel
theorem dX8_come_124 : decode cX8_come 124 = .ok (.putfield 44, 3) := by decide +kernel
theorem dX8_come_127 : decode cX8_come 127 = .ok (.goto 91, 3) := by decide +kernel
theorem dX8_come_130 : decode cX8_come 130 = .ok (.iload 5, 2) := by decide +kernel
theorem dX8_come_132 : decode cX8_come 132 = .ok (.iconst 1, 1) := by decide +kernel
theorem dX8_come_133 : decode cX8_come 133 = .ok (.iload 6, 2) := by decide +kernel
theorem dX8_come_135 : decode cX8_come 135 = .ok (.ishl, 1) := by decide +kernel
theorem dX8_come_136 : decode cX8_come 136 = .ok (.ior, 1) := by decide +kernel
theorem dX8_come_137 : decode cX8_come 137 = .ok (.istore 5, 2) := by decide +kernel
theorem dX8_come_139 : decode cX8_come 139 = .ok (.aload 4, 2) := by decide +kernel
theorem dX8_come_141 : decode cX8_come 141 = .ok (.aload_n 0, 1) := by decide +kernel
theorem dX8_come_142 : decode cX8_come 142 = .ok (.getfield 20, 3) := by decide +kernel
theorem dX8_come_145 : decode cX8_come 145 = .ok (.iload_n 1, 1) := by decide +kernel
theorem dX8_come_146 : decode cX8_come 146 = .ok (.aaload, 1) := by decide +kernel
theorem dX8_come_147 : decode cX8_come 147 = .ok (.invokevirtual 99, 3) := by decide +kernel
theorem dX8_come_150 : decode cX8_come 150 = .ok (.aload 4, 2) := by decide +kernel
theorem dX8_come_152 : decode cX8_come 152 = .ok (.iload 6, 2) := by decide +kernel
theorem dX8_come_154 : decode cX8_come 154 = .ok (.invokevirtual 102, 3) := by decide +kernel
theorem dX8_come_157 : decode cX8_come 157 = .ok (.aload 4, 2) := by decide +kernel
theorem dX8_come_159 : decode cX8_come 159 = .ok (.aload_n 0, 1) := by decide +kernel
theorem dX8_come_160 : decode cX8_come 160 = .ok (.getfield 12, 3) := by decide +kernel
theorem dX8_come_163 : decode cX8_come 163 = .ok (.invokevirtual 106, 3) := by decide +kernel
theorem dX8_come_166 : decode cX8_come 166 = .ok (.aload_n 0, 1) := by decide +kernel
theorem dX8_come_167 : decode cX8_come 167 = .ok (.getfield 27, 3) := by decide +kernel
theorem dX8_come_170 : decode cX8_come 170 = .ok (.getfield 66, 3) := by decide +kernel
theorem dX8_come_173 : decode cX8_come 173 = .ok (.iload_n 1, 1) := by decide +kernel
theorem dX8_come_174 : decode cX8_come 174 = .ok (.iconst 1, 1) := by decide +kernel
theorem dX8_come_175 : decode cX8_come 175 = .ok (.iadd, 1) := by decide +kernel
theorem dX8_come_176 : decode cX8_come 176 = .ok (.aload 4, 2) := by decide +kernel
theorem dX8_come_178 : decode cX8_come 178 = .ok (.invokevirtual 70, 3) := by decide +kernel
theorem dX8_come_181 : decode cX8_come 181 = .ok (.iastore, 1) := by decide +kernel
theorem dX8_come_182 : decode cX8_come 182 = .ok (.aload_n 0, 1) := by decide +kernel
theorem dX8_come_183 : decode cX8_come 183 = .ok (.iload_n 1, 1) := by decide +kernel
theorem dX8_come_184 : decode cX8_come 184 = .ok (.iconst 1, 1) := by decide +kernel
theorem dX8_come_185 : decode cX8_come 185 = .ok (.iadd, 1) := by decide +kernel
theorem dX8_come_186 : decode cX8_come 186 = .ok (.invokevirtual 109, 3) := by decide +kernel
theorem dX8_come_189 : decode cX8_come 189 = .ok (.ifCond .eq 16, 3) := by decide +kernel
theorem dX8_come_192 : decode cX8_come 192 = .ok (.aload_n 0, 1) := by decide +kernel
theorem dX8_come_193 : decode cX8_come 193 = .ok (.dup, 1) := by decide +kernel
theorem dX8_come_194 : decode cX8_come 194 = .ok (.getfield 41, 3) := by decide +kernel
theorem dX8_come_197 : decode cX8_come 197 = .ok (.iconst 1, 1) := by decide +kernel
theorem dX8_come_198 : decode cX8_come 198 = .ok (.iadd, 1) := by decide +kernel
theorem dX8_come_199 : decode cX8_come 199 = .ok (.putfield 41, 3) := by decide +kernel
theorem dX8_come_202 : decode cX8_come 202 = .ok (.goto 16, 3) := by decide +kernel
theorem dX8_come_205 : decode cX8_come 205 = .ok (.aload_n 0, 1) := by decide +kernel
theorem dX8_come_206 : decode cX8_come 206 = .ok (.iload_n 1, 1) := by decide +kernel
theorem dX8_come_207 : decode cX8_come 207 = .ok (.iconst 1, 1) := by decide +kernel
theorem dX8_come_208 : decode cX8_come 208 = .ok (.iadd, 1) := by decide +kernel
theorem dX8_come_209 : decode cX8_come 209 = .ok (.iload_n 2, 1) := by decide +kernel
theorem dX8_come_210 : decode cX8_come 210 = .ok (.iconst 1, 1) := by decide +kernel
theorem dX8_come_211 : decode cX8_come 211 = .ok (.iload 6, 2) := by decide +kernel
theorem dX8_come_213 : decode cX8_come 213 = .ok (.ishl, 1) := by decide +kernel
theorem dX8_come_214 : decode cX8_come 214 = .ok (.ior, 1) := by decide +kernel
theorem dX8_come_215 : decode cX8_come 215 = .ok (.invokevirtual 74, 3) := by decide +kernel
theorem dX8_come_218 : decode cX8_come 218 = .ok (.iinc 6 1, 3) := by decide +kernel
theorem dX8_come_221 : decode cX8_come 221 = .ok (.goto (-140), 3) := by decide +kernel
theorem dX8_come_224 : decode cX8_come 224 = .ok (.return_, 1) := by decide +kernel
theorem dX9_init_0 : decode cX9_init 0 = .ok (.aload_n 0, 1) := by decide +kernel
theorem dX9_init_1 : decode cX9_init 1 = .ok (.invokespecial 1, 3) := by decide +kernel
theorem dX9_init_4 : decode cX9_init 4 = .ok (.aload_n 0, 1) := by decide +kernel
theorem dX9_init_5 : decode cX9_init 5 = .ok (.iconst 3, 1) := by decide +kernel
theorem dX9_init_6 : decode cX9_init 6 = .ok (.anewarray 9, 3) := by decide +kernel
theorem dX9_init_9 : decode cX9_init 9 = .ok (.putfield 11, 3) := by decide +kernel
theorem dX9_init_12 : decode cX9_init 12 = .ok (.aload_n 0, 1) := by decide +kernel
theorem dX9_init_13 : decode cX9_init 13 = .ok (.iconst 3, 1) := by decide +kernel
theorem dX9_init_14 : decode cX9_init 14 = .ok (.anewarray 15, 3) := by decide +kernel
theorem dX9_init_17 : decode cX9_init 17 = .ok (.putfield 17, 3) := by decide +kernel
theorem dX9_init_20 : decode cX9_init 20 = .ok (.aload_n 0, 1) := by decide +kernel
theorem dX9_init_21 : decode cX9_init 21 = .ok (.iconst 3, 1) := by decide +kernel
theorem dX9_init_22 : decode cX9_init 22 = .ok (.anewarray 21, 3) := by decide +kernel
theorem dX9_init_25 : decode cX9_init 25 = .ok (.putfield 23, 3) := by decide +kernel
theorem dX9_init_28 : decode cX9_init 28 = .ok (.aload_n 0, 1) := by decide +kernel
theorem dX9_init_29 : decode cX9_init 29 = .ok (.new 27, 3) := by decide +kernel
theorem dX9_init_32 : decode cX9_init 32 = .ok (.dup, 1) := by decide +kernel
theorem dX9_init_33 : decode cX9_init 33 = .ok (.invokespecial 29, 3) := by decide +kernel
theorem dX9_init_36 : decode cX9_init 36 = .ok (.putfield 30, 3) := by decide +kernel
theorem dX9_init_39 : decode cX9_init 39 = .ok (.aload_n 0, 1) := by decide +kernel
theorem dX9_init_40 : decode cX9_init 40 = .ok (.new 34, 3) := by decide +kernel
theorem dX9_init_43 : decode cX9_init 43 = .ok (.dup, 1) := by decide +kernel
theorem dX9_init_44 : decode cX9_init 44 = .ok (.invokespecial 36, 3) := by decide +kernel
theorem dX9_init_47 : decode cX9_init 47 = .ok (.putfield 37, 3) := by decide +kernel
theorem dX9_init_50 : decode cX9_init 50 = .ok (.aload_n 0, 1) := by decide +kernel
theorem dX9_init_51 : decode cX9_init 51 = .ok (.bipush 6, 2) := by decide +kernel
theorem dX9_init_53 : decode cX9_init 53 = .ok (.anewarray 9, 3) := by decide +kernel
theorem dX9_init_56 : decode cX9_init 56 = .ok (.putfield 41, 3) := by decide +kernel
theorem dX9_init_59 : decode cX9_init 59 = .ok (.aload_n 0, 1) := by decide +kernel
theorem dX9_init_60 : decode cX9_init 60 = .ok (.iconst 2, 1) := by decide +kernel
theorem dX9_init_61 : decode cX9_init 61 = .ok (.newarray .boolean, 2) := by decide +kernel
theorem dX9_init_63 : decode cX9_init 63 = .ok (.putfield 44, 3) := by decide +kernel
theorem dX9_init_66 : decode cX9_init 66 = .ok (.aload_n 0, 1) := by decide +kernel
theorem dX9_init_67 : decode cX9_init 67 = .ok (.new 48, 3) := by decide +kernel
theorem dX9_init_70 : decode cX9_init 70 = .ok (.dup, 1) := by decide +kernel
theorem dX9_init_71 : decode cX9_init 71 = .ok (.invokespecial 50, 3) := by decide +kernel
theorem dX9_init_74 : decode cX9_init 74 = .ok (.putfield 51, 3) := by decide +kernel
theorem dX9_init_77 : decode cX9_init 77 = .ok (.aload_n 0, 1) := by decide +kernel
theorem dX9_init_78 : decode cX9_init 78 = .ok (.new 48, 3) := by decide +kernel
theorem dX9_init_81 : decode cX9_init 81 = .ok (.dup, 1) := by decide +kernel
theorem dX9_init_82 : decode cX9_init 82 = .ok (.invokespecial 50, 3) := by decide +kernel
theorem dX9_init_85 : decode cX9_init 85 = .ok (.putfield 55, 3) := by decide +kernel
theorem dX9_init_88 : decode cX9_init 88 = .ok (.aload_n 0, 1) := by decide +kernel
theorem dX9_init_89 : decode cX9_init 89 = .ok (.new 58, 3) := by decide +kernel
theorem dX9_init_92 : decode cX9_init 92 = .ok (.dup, 1) := by decide +kernel
theorem dX9_init_93 : decode cX9_init 93 = .ok (.invokespecial 60, 3) := by decide +kernel
theorem dX9_init_96 : decode cX9_init 96 = .ok (.putfield 61, 3) := by decide +kernel
theorem dX9_init_99 : decode cX9_init 99 = .ok (.aload_n 0, 1) := by decide +kernel
theorem dX9_init_100 : decode cX9_init 100 = .ok (.new 9, 3) := by decide +kernel
theorem dX9_init_103 : decode cX9_init 103 = .ok (.dup, 1) := by decide +kernel
theorem dX9_init_104 : decode cX9_init 104 = .ok (.invokespecial 65, 3) := by decide +kernel
theorem dX9_init_107 : decode cX9_init 107 = .ok (.putfield 66, 3) := by decide +kernel
theorem dX9_init_110 : decode cX9_init 110 = .ok (.aload_n 0, 1) := by decide +kernel
theorem dX9_init_111 : decode cX9_init 111 = .ok (.new 21, 3) := by decide +kernel
theorem dX9_init_114 : decode cX9_init 114 = .ok (.dup, 1) := by decide +kernel
theorem dX9_init_115 : decode cX9_init 115 = .ok (.invokespecial 70, 3) := by decide +kernel
theorem dX9_init_118 : decode cX9_init 118 = .ok (.putfield 71, 3) := by decide +kernel
theorem dX9_init_121 : decode cX9_init 121 = .ok (.aload_n 0, 1) := by decide +kernel
theorem dX9_init_122 : decode cX9_init 122 = .ok (.bipush 7, 2) := by decide +kernel
theorem dX9_init_124 : decode cX9_init 124 = .ok (.anewarray 75, 3) := by decide +kernel
theorem dX9_init_127 : decode cX9_init 127 = .ok (.putfield 77, 3) := by decide +kernel
theorem dX9_init_130 : decode cX9_init 130 = .ok (.aload_n 0, 1) := by decide +kernel
theorem dX9_init_131 : decode cX9_init 131 = .ok (.iconst 0, 1) := by decide +kernel
theorem dX9_init_132 : decode cX9_init 132 = .ok (.putfield 81, 3) := by decide +kernel
theorem dX9_init_135 : decode cX9_init 135 = .ok (.iconst 0, 1) := by decide +kernel
theorem dX9_init_136 : decode cX9_init 136 = .ok (.istore_n 1, 1) := by decide +kernel
theorem dX9_init_137 : decode cX9_init 137 = .ok (.iload_n 1, 1) := by decide +kernel
theorem dX9_init_138 : decode cX9_init 138 = .ok (.iconst 3, 1) := by decide +kernel
theorem dX9_init_139 : decode cX9_init 139 = .ok (.if_icmp .ge 48, 3) := by decide +kernel
theorem dX9_init_142 : decode cX9_init 142 = .ok (.aload_n 0, 1) := by decide +kernel
theorem dX9_init_143 : decode cX9_init 143 = .ok (.getfield 11, 3) := by decide +kernel
theorem dX9_init_146 : decode cX9_init 146 = .ok (.iload_n 1, 1) := by decide +kernel
theorem dX9_init_147 : decode cX9_init 147 = .ok (.new 9, 3) := by decide +kernel
theorem dX9_init_150 : decode cX9_init 150 = .ok (.dup, 1) := by decide +kernel
theorem dX9_init_151 : decode cX9_init 151 = .ok (.invokespecial 65, 3) := by decide +kernel
theorem dX9_init_154 : decode cX9_init 154 = .ok (.aastore, 1) := by decide +kernel
theorem dX9_init_155 : decode cX9_init 155 = .ok (.aload_n 0, 1) := by decide +kernel
theorem dX9_init_156 : decode cX9_init 156 = .ok (.getfield 17, 3) := by decide +kernel
theorem dX9_init_159 : decode cX9_init 159 = .ok (.iload_n 1, 1) := by decide +kernel
theorem dX9_init_160 : decode cX9_init 160 = .ok (.new 15, 3) := by decide +kernel
theorem dX9_init_163 : decode cX9_init 163 = .ok (.dup, 1) := by decide +kernel
theorem dX9_init_164 : decode cX9_init 164 = .ok (.invokespecial 85, 3) := by decide +kernel
theorem dX9_init_167 : decode cX9_init 167 = .ok (.aastore, 1) := by decide +kernel
theorem dX9_init_168 : decode cX9_init 168 = .ok (.aload_n 0, 1) := by decide +kernel
theorem dX9_init_169 : decode cX9_init 169 = .ok (.getfield 23, 3) := by decide +kernel
theorem dX9_init_172 : decode cX9_init 172 = .ok (.iload_n 1, 1) := by decide +kernel
theorem dX9_init_173 : decode cX9_init 173 = .ok (.new 21, 3) := by decide +kernel
theorem dX9_init_176 : decode cX9_init 176 = .ok (.dup, 1) := by decide +kernel
theorem dX9_init_177 : decode cX9_init 177 = .ok (.invokespecial 70, 3) := by decide +kernel
theorem dX9_init_180 : decode cX9_init 180 = .ok (.aastore, 1) := by decide +kernel
theorem dX9_init_181 : decode cX9_init 181 = .ok (.iinc 1 1, 3) := by decide +kernel
theorem dX9_init_184 : decode cX9_init 184 = .ok (.goto (-47), 3) := by decide +kernel
theorem dX9_init_187 : decode cX9_init 187 = .ok (.iconst 0, 1) := by decide +kernel
theorem dX9_init_188 : decode cX9_init 188 = .ok (.istore_n 1, 1) := by decide +kernel
theorem dX9_init_189 : decode cX9_init 189 = .ok (.iload_n 1, 1) := by decide +kernel
theorem dX9_init_190 : decode cX9_init 190 = .ok (.aload_n 0, 1) := by decide +kernel
theorem dX9_init_191 : decode cX9_init 191 = .ok (.getfield 41, 3) := by decide +kernel
theorem dX9_init_194 : decode cX9_init 194 = .ok (.arraylength, 1) := by decide +kernel
theorem dX9_init_195 : decode cX9_init 195 = .ok (.if_icmp .ge 22, 3) := by decide +kernel
theorem dX9_init_198 : decode cX9_init 198 = .ok (.aload_n 0, 1) := by decide +kernel
theorem dX9_init_199 : decode cX9_init 199 = .ok (.getfield 41, 3) := by decide +kernel
theorem dX9_init_202 : decode cX9_init 202 = .ok (.iload_n 1, 1) := by decide +kernel
theorem dX9_init_203 : decode cX9_init 203 = .ok (.new 9, 3) := by decide +kernel
theorem dX9_init_206 : decode cX9_init 206 = .ok (.dup, 1) := by decide +kernel
theorem dX9_init_207 : decode cX9_init 207 = .ok (.invokespecial 65, 3) := by decide +kernel
theorem dX9_init_210 : decode cX9_init 210 = .ok (.aastore, 1) := by decide +kernel
theorem dX9_init_211 : decode cX9_init 211 = .ok (.iinc 1 1, 3) := by decide +kernel
theorem dX9_init_214 : decode cX9_init 214 = .ok (.goto (-25), 3) := by decide +kernel
theorem dX9_init_217 : decode cX9_init 217 = .ok (.iconst 0, 1) := by decide +kernel
theorem dX9_init_218 : decode cX9_init 218 = .ok (.istore_n 1, 1) := by decide +kernel
theorem dX9_init_219 : decode cX9_init 219 = .ok (.iload_n 1, 1) := by decide +kernel
theorem dX9_init_220 : decode cX9_init 220 = .ok (.bipush 7, 2) := by decide +kernel
theorem dX9_init_222 : decode cX9_init 222 = .ok (.if_icmp .ge 22, 3) := by decide +kernel
theorem dX9_init_225 : decode cX9_init 225 = .ok (.aload_n 0, 1) := by decide +kernel
theorem dX9_init_226 : decode cX9_init 226 = .ok (.getfield 77, 3) := by decide +kernel
theorem dX9_init_229 : decode cX9_init 229 = .ok (.iload_n 1, 1) := by decide +kernel
theorem dX9_init_230 : decode cX9_init 230 = .ok (.new 75, 3) := by decide +kernel
theorem dX9_init_233 : decode cX9_init 233 = .ok (.dup, 1) := by decide +kernel
theorem dX9_init_234 : decode cX9_init 234 = .ok (.invokespecial 86, 3) := by decide +kernel
theorem dX9_init_237 : decode cX9_init 237 = .ok (.aastore, 1) := by decide +kernel
theorem dX9_init_238 : decode cX9_init 238 = .ok (.iinc 1 1, 3) := by decide +kernel
theorem dX9_init_241 : decode cX9_init 241 = .ok (.goto (-22), 3) := by decide +kernel
theorem dX9_init_244 : decode cX9_init 244 = .ok (.return_, 1) := by decide +kernel
theorem dX9_feed_0 : decode cX9_feed 0 = .ok (.aload_n 0, 1) := by decide +kernel
theorem dX9_feed_1 : decode cX9_feed 1 = .ok (.getfield 30, 3) := by decide +kernel
theorem dX9_feed_4 : decode cX9_feed 4 = .ok (.getfield 87, 3) := by decide +kernel
theorem dX9_feed_7 : decode cX9_feed 7 = .ok (.sipush 380, 3) := by decide +kernel
theorem dX9_feed_10 : decode cX9_feed 10 = .ok (.if_icmp .le 5, 3) := by decide +kernel
theorem dX9_feed_13 : decode cX9_feed 13 = .ok (.iconst (-1), 1) := by decide +kernel
theorem dX9_feed_14 : decode cX9_feed 14 = .ok (.ireturn, 1) := by decide +kernel
theorem dX9_feed_15 : decode cX9_feed 15 = .ok (.aload_n 0, 1) := by decide +kernel
theorem dX9_feed_16 : decode cX9_feed 16 = .ok (.getfield 30, 3) := by decide +kernel
theorem dX9_feed_19 : decode cX9_feed 19 = .ok (.iload_n 1, 1) := by decide +kernel
theorem dX9_feed_20 : decode cX9_feed 20 = .ok (.invokevirtual 90, 3) := by decide +kernel
theorem dX9_feed_23 : decode cX9_feed 23 = .ok (.aload_n 0, 1) := by decide +kernel
theorem dX9_feed_24 : decode cX9_feed 24 = .ok (.getfield 30, 3) := by decide +kernel
theorem dX9_feed_27 : decode cX9_feed 27 = .ok (.iload_n 2, 1) := by decide +kernel
theorem dX9_feed_28 : decode cX9_feed 28 = .ok (.invokevirtual 90, 3) := by decide +kernel
theorem dX9_feed_31 : decode cX9_feed 31 = .ok (.aload_n 0, 1) := by decide +kernel
theorem dX9_feed_32 : decode cX9_feed 32 = .ok (.getfield 30, 3) := by decide +kernel
theorem dX9_feed_35 : decode cX9_feed 35 = .ok (.iload_n 3, 1) := by decide +kernel
theorem dX9_feed_36 : decode cX9_feed 36 = .ok (.invokevirtual 90, 3) := by decide +kernel
theorem dX9_feed_39 : decode cX9_feed 39 = .ok (.aload_n 0, 1) := by decide +kernel
theorem dX9_feed_40 : decode cX9_feed 40 = .ok (.getfield 30, 3) := by decide +kernel
theorem dX9_feed_43 : decode cX9_feed 43 = .ok (.iload 4, 2) := by decide +kernel
theorem dX9_feed_45 : decode cX9_feed 45 = .ok (.invokevirtual 90, 3) := by decide +kernel
theorem dX9_feed_48 : decode cX9_feed 48 = .ok (.aload_n 0, 1) := by decide +kernel
theorem dX9_feed_49 : decode cX9_feed 49 = .ok (.getfield 30, 3) := by decide +kernel
theorem dX9_feed_52 : decode cX9_feed 52 = .ok (.iload 5, 2) := by decide +kernel
theorem dX9_feed_54 : decode cX9_feed 54 = .ok (.invokevirtual 90, 3) := by decide +kernel
theorem dX9_feed_57 : decode cX9_feed 57 = .ok (.aload_n 0, 1) := by decide +kernel
theorem dX9_feed_58 : decode cX9_feed 58 = .ok (.getfield 30, 3) := by decide +kernel
theorem dX9_feed_61 : decode cX9_feed 61 = .ok (.getfield 87, 3) := by decide +kernel
theorem dX9_feed_64 : decode cX9_feed 64 = .ok (.ireturn, 1) := by decide +kernel
theorem dX9_text_0 : decode cX9_text 0 = .ok (.aload_n 0, 1) := by decide +kernel
theorem dX9_text_1 : decode cX9_text 1 = .ok (.iload_n 1, 1) := by decide +kernel
theorem dX9_text_2 : decode cX9_text 2 = .ok (.invokevirtual 94, 3) := by decide +kernel
theorem dX9_text_5 : decode cX9_text 5 = .ok (.astore_n 3, 1) := by decide +kernel
theorem dX9_text_6 : decode cX9_text 6 = .ok (.aload_n 3, 1) := by decide +kernel
theorem dX9_text_7 : decode cX9_text 7 = .ok (.ifnonnull 9, 3) := by decide +kernel
theorem dX9_text_10 : decode cX9_text 10 = .ok (.aload_n 0, 1) := by decide +kernel
theorem dX9_text_11 : decode cX9_text 11 = .ok (.iconst 1, 1) := by decide +kernel
theorem dX9_text_12 : decode cX9_text 12 = .ok (.invokevirtual 98, 3) := by decide +kernel
theorem dX9_text_15 : decode cX9_text 15 = .ok (.ireturn, 1) := by decide +kernel
theorem dX9_text_16 : decode cX9_text 16 = .ok (.iload_n 2, 1) := by decide +kernel
theorem dX9_text_17 : decode cX9_text 17 = .ok (.ifCond .lt 14, 3) := by decide +kernel
theorem dX9_text_20 : decode cX9_text 20 = .ok (.iload_n 2, 1) := by decide +kernel
theorem dX9_text_21 : decode cX9_text 21 = .ok (.aload_n 0, 1) := by decide +kernel
theorem dX9_text_22 : decode cX9_text 22 = .ok (.getfield 30, 3) := by decide +kernel
theorem dX9_text_25 : decode cX9_text 25 = .ok (.getfield 87, 3) := by decide +kernel
theorem dX9_text_28 : decode cX9_text 28 = .ok (.if_icmp .le 9, 3) := by decide +kernel
theorem dX9_text_31 : decode cX9_text 31 = .ok (.aload_n 0, 1) := by decide +kernel
theorem dX9_text_32 : decode cX9_text 32 = .ok (.iconst 2, 1) := by decide +kernel
theorem dX9_text_33 : decode cX9_text 33 = .ok (.invokevirtual 98, 3) := by decide +kernel
theorem dX9_text_36 : decode cX9_text 36 = .ok (.ireturn, 1) := by decide +kernel
theorem dX9_text_37 : decode cX9_text 37 = .ok (.aload_n 0, 1) := by decide +kernel
theorem dX9_text_38 : decode cX9_text 38 = .ok (.getfield 30, 3) := by decide +kernel
theorem dX9_text_41 : decode cX9_text 41 = .ok (.iload_n 2, 1) := by decide +kernel
theorem dX9_text_42 : decode cX9_text 42 = .ok (.invokevirtual 102, 3) := by decide +kernel
theorem dX9_text_45 : decode cX9_text 45 = .ok (.aload_n 0, 1) := by decide +kernel
theorem dX9_text_46 : decode cX9_text 46 = .ok (.getfield 30, 3) := by decide +kernel
theorem dX9_text_49 : decode cX9_text 49 = .ok (.getfield 105, 3) := by decide +kernel
theorem dX9_text_52 : decode cX9_text 52 = .ok (.ifCond .eq 9, 3) := by decide +kernel
theorem dX9_text_55 : decode cX9_text 55 = .ok (.aload_n 0, 1) := by decide +kernel
theorem dX9_text_56 : decode cX9_text 56 = .ok (.iconst 4, 1) := by decide +kernel
theorem dX9_text_57 : decode cX9_text 57 = .ok (.invokevirtual 98, 3) := by decide +kernel
theorem dX9_text_60 : decode cX9_text 60 = .ok (.ireturn, 1) := by decide +kernel
theorem dX9_text_61 : decode cX9_text 61 = .ok (.aload_n 0, 1) := by decide +kernel
theorem dX9_text_62 : decode cX9_text 62 = .ok (.getfield 37, 3) := by decide +kernel
theorem dX9_text_65 : decode cX9_text 65 = .ok (.iload_n 1, 1) := by decide +kernel
theorem dX9_text_66 : decode cX9_text 66 = .ok (.aload_n 3, 1) := by decide +kernel
theorem dX9_text_67 : decode cX9_text 67 = .ok (.invokevirtual 108, 3) := by decide +kernel
theorem dX9_text_70 : decode cX9_text 70 = .ok (.aload_n 3, 1) := by decide +kernel
theorem dX9_text_71 : decode cX9_text 71 = .ok (.aload_n 0, 1) := by decide +kernel
theorem dX9_text_72 : decode cX9_text 72 = .ok (.getfield 30, 3) := by decide +kernel
theorem dX9_text_75 : decode cX9_text 75 = .ok (.getfield 112, 3) := by decide +kernel
theorem dX9_text_78 : decode cX9_text 78 = .ok (.invokevirtual 115, 3) := by decide +kernel
theorem dX9_text_81 : decode cX9_text 81 = .ok (.aload_n 0, 1) := by decide +kernel
theorem dX9_text_82 : decode cX9_text 82 = .ok (.aload_n 3, 1) := by decide +kernel
theorem dX9_text_83 : decode cX9_text 83 = .ok (.getfield 119, 3) := by decide +kernel
theorem dX9_text_86 : decode cX9_text 86 = .ok (.invokevirtual 122, 3) := by decide +kernel
theorem dX9_text_89 : decode cX9_text 89 = .ok (.ireturn, 1) := by decide +kernel
theorem dX9_fault_0 : decode cX9_fault 0 = .ok (.aload_n 0, 1) := by decide +kernel
theorem dX9_fault_1 : decode cX9_fault 1 = .ok (.getfield 30, 3) := by decide +kernel
theorem dX9_fault_4 : decode cX9_fault 4 = .ok (.getfield 105, 3) := by decide +kernel
theorem dX9_fault_7 : decode cX9_fault 7 = .ok (.ireturn, 1) := by decide +kernel
theorem dX9_where_0 : decode cX9_where 0 = .ok (.aload_n 0, 1) := by decide +kernel
theorem dX9_where_1 : decode cX9_where 1 = .ok (.getfield 81, 3) := by decide +kernel
theorem dX9_where_4 : decode cX9_where 4 = .ok (.iconst 4, 1) := by decide +kernel
theorem dX9_where_5 : decode cX9_where 5 = .ok (.if_icmp .ne 13, 3) := by decide +kernel
theorem dX9_where_8 : decode cX9_where 8 = .ok (.aload_n 0, 1) := by decide +kernel
theorem dX9_where_9 : decode cX9_where 9 = .ok (.getfield 30, 3) := by decide +kernel
theorem dX9_where_12 : decode cX9_where 12 = .ok (.getfield 125, 3) := by decide +kernel
theorem dX9_where_15 : decode cX9_where 15 = .ok (.goto 4, 3) := by decide +kernel
theorem dX9_where_18 : decode cX9_where 18 = .ok (.iconst (-1), 1) := by decide +kernel
theorem dX9_where_19 : decode cX9_where 19 = .ok (.ireturn, 1) := by decide +kernel
theorem dX9_graph_0 : decode cX9_graph 0 = .ok (.aload_n 0, 1) := by decide +kernel
theorem dX9_graph_1 : decode cX9_graph 1 = .ok (.iload_n 1, 1) := by decide +kernel
theorem dX9_graph_2 : decode cX9_graph 2 = .ok (.invokevirtual 94, 3) := by decide +kernel
theorem dX9_graph_5 : decode cX9_graph 5 = .ok (.astore_n 3, 1) := by decide +kernel
theorem dX9_graph_6 : decode cX9_graph 6 = .ok (.aload_n 3, 1) := by decide +kernel
theorem dX9_graph_7 : decode cX9_graph 7 = .ok (.ifnull 12, 3) := by decide +kernel
theorem dX9_graph_10 : decode cX9_graph 10 = .ok (.iload_n 2, 1) := by decide +kernel
theorem dX9_graph_11 : decode cX9_graph 11 = .ok (.ifCond .lt 8, 3) := by decide +kernel
theorem dX9_graph_14 : decode cX9_graph 14 = .ok (.iload_n 2, 1) := by decide +kernel
theorem dX9_graph_15 : decode cX9_graph 15 = .ok (.iconst 3, 1) := by decide +kernel
theorem dX9_graph_16 : decode cX9_graph 16 = .ok (.if_icmp .le 9, 3) := by decide +kernel
theorem dX9_graph_19 : decode cX9_graph 19 = .ok (.aload_n 0, 1) := by decide +kernel
theorem dX9_graph_20 : decode cX9_graph 20 = .ok (.iconst 1, 1) := by decide +kernel
theorem dX9_graph_21 : decode cX9_graph 21 = .ok (.invokevirtual 98, 3) := by decide +kernel
theorem dX9_graph_24 : decode cX9_graph 24 = .ok (.ireturn, 1) := by decide +kernel
theorem dX9_graph_25 : decode cX9_graph 25 = .ok (.iload_n 2, 1) := by decide +kernel
theorem dX9_graph_26 : decode cX9_graph 26 = .ok (.tableswitch 64 0 2 #[26, 35, 44], 26) := by decide +kernel
theorem dX9_graph_52 : decode cX9_graph 52 = .ok (.aload_n 0, 1) := by decide +kernel
theorem dX9_graph_53 : decode cX9_graph 53 = .ok (.aload_n 3, 1) := by decide +kernel
theorem dX9_graph_54 : decode cX9_graph 54 = .ok (.getfield 119, 3) := by decide +kernel
theorem dX9_graph_57 : decode cX9_graph 57 = .ok (.invokevirtual 122, 3) := by decide +kernel
theorem dX9_graph_60 : decode cX9_graph 60 = .ok (.ireturn, 1) := by decide +kernel
theorem dX9_graph_61 : decode cX9_graph 61 = .ok (.aload_n 0, 1) := by decide +kernel
theorem dX9_graph_62 : decode cX9_graph 62 = .ok (.aload_n 3, 1) := by decide +kernel
theorem dX9_graph_63 : decode cX9_graph 63 = .ok (.invokevirtual 128, 3) := by decide +kernel
theorem dX9_graph_66 : decode cX9_graph 66 = .ok (.invokevirtual 122, 3) := by decide +kernel
theorem dX9_graph_69 : decode cX9_graph 69 = .ok (.ireturn, 1) := by decide +kernel
theorem dX9_graph_70 : decode cX9_graph 70 = .ok (.aload_n 0, 1) := by decide +kernel
theorem dX9_graph_71 : decode cX9_graph 71 = .ok (.getfield 51, 3) := by decide +kernel
theorem dX9_graph_74 : decode cX9_graph 74 = .ok (.aload_n 3, 1) := by decide +kernel
theorem dX9_graph_75 : decode cX9_graph 75 = .ok (.invokevirtual 132, 3) := by decide +kernel
theorem dX9_graph_78 : decode cX9_graph 78 = .ok (.aload_n 0, 1) := by decide +kernel
theorem dX9_graph_79 : decode cX9_graph 79 = .ok (.aload_n 0, 1) := by decide +kernel
theorem dX9_graph_80 : decode cX9_graph 80 = .ok (.getfield 51, 3) := by decide +kernel
theorem dX9_graph_83 : decode cX9_graph 83 = .ok (.getfield 135, 3) := by decide +kernel
theorem dX9_graph_86 : decode cX9_graph 86 = .ok (.invokevirtual 122, 3) := by decide +kernel
theorem dX9_graph_89 : decode cX9_graph 89 = .ok (.ireturn, 1) := by decide +kernel
theorem dX9_graph_90 : decode cX9_graph 90 = .ok (.aload_n 0, 1) := by decide +kernel
theorem dX9_graph_91 : decode cX9_graph 91 = .ok (.aload_n 3, 1) := by decide +kernel
theorem dX9_graph_92 : decode cX9_graph 92 = .ok (.invokevirtual 136, 3) := by decide +kernel
theorem dX9_graph_95 : decode cX9_graph 95 = .ok (.invokevirtual 122, 3) := by decide +kernel
theorem dX9_graph_98 : decode cX9_graph 98 = .ok (.ireturn, 1) := by decide +kernel
theorem dX9_colour_0 : decode cX9_colour 0 = .ok (.aload_n 0, 1) := by decide +kernel
theorem dX9_colour_1 : decode cX9_colour 1 = .ok (.iload_n 1, 1) := by decide +kernel
theorem dX9_colour_2 : decode cX9_colour 2 = .ok (.invokevirtual 94, 3) := by decide +kernel
theorem dX9_colour_5 : decode cX9_colour 5 = .ok (.astore_n 3, 1) := by decide +kernel
theorem dX9_colour_6 : decode cX9_colour 6 = .ok (.aload_n 3, 1) := by decide +kernel
theorem dX9_colour_7 : decode cX9_colour 7 = .ok (.ifnull 11, 3) := by decide +kernel
theorem dX9_colour_10 : decode cX9_colour 10 = .ok (.aload_n 3, 1) := by decide +kernel
theorem dX9_colour_11 : decode cX9_colour 11 = .ok (.iload_n 2, 1) := by decide +kernel
theorem dX9_colour_12 : decode cX9_colour 12 = .ok (.invokevirtual 139, 3) := by decide +kernel
theorem dX9_colour_15 : decode cX9_colour 15 = .ok (.ifCond .ne 9, 3) := by decide +kernel
theorem dX9_colour_18 : decode cX9_colour 18 = .ok (.aload_n 0, 1) := by decide +kernel
theorem dX9_colour_19 : decode cX9_colour 19 = .ok (.iconst 1, 1) := by decide +kernel
theorem dX9_colour_20 : decode cX9_colour 20 = .ok (.invokevirtual 98, 3) := by decide +kernel
theorem dX9_colour_23 : decode cX9_colour 23 = .ok (.ireturn, 1) := by decide +kernel
theorem dX9_colour_24 : decode cX9_colour 24 = .ok (.aload_n 0, 1) := by decide +kernel
theorem dX9_colour_25 : decode cX9_colour 25 = .ok (.aload_n 3, 1) := by decide +kernel
theorem dX9_colour_26 : decode cX9_colour 26 = .ok (.getfield 143, 3) := by decide +kernel
theorem dX9_colour_29 : decode cX9_colour 29 = .ok (.iload_n 2, 1) := by decide +kernel
theorem dX9_colour_30 : decode cX9_colour 30 = .ok (.iaload, 1) := by decide +kernel
theorem dX9_colour_31 : decode cX9_colour 31 = .ok (.invokevirtual 122, 3) := by decide +kernel
theorem dX9_colour_34 : decode cX9_colour 34 = .ok (.ireturn, 1) := by decide +kernel
theorem dX9_kind_0 : decode cX9_kind 0 = .ok (.aload_n 0, 1) := by decide +kernel
theorem dX9_kind_1 : decode cX9_kind 1 = .ok (.iload_n 1, 1) := by decide +kernel
theorem dX9_kind_2 : decode cX9_kind 2 = .ok (.invokevirtual 94, 3) := by decide +kernel
theorem dX9_kind_5 : decode cX9_kind 5 = .ok (.astore 4, 2) := by decide +kernel
theorem dX9_kind_7 : decode cX9_kind 7 = .ok (.aload 4, 2) := by decide +kernel
theorem dX9_kind_9 : decode cX9_kind 9 = .ok (.ifnull 21, 3) := by decide +kernel
theorem dX9_kind_12 : decode cX9_kind 12 = .ok (.aload 4, 2) := by decide +kernel
theorem dX9_kind_14 : decode cX9_kind 14 = .ok (.iload_n 2, 1) := by decide +kernel
theorem dX9_kind_15 : decode cX9_kind 15 = .ok (.invokevirtual 139, 3) := by decide +kernel
theorem dX9_kind_18 : decode cX9_kind 18 = .ok (.ifCond .eq 12, 3) := by decide +kernel
theorem dX9_kind_21 : decode cX9_kind 21 = .ok (.aload 4, 2) := by decide +kernel
theorem dX9_kind_23 : decode cX9_kind 23 = .ok (.iload_n 3, 1) := by decide +kernel
theorem dX9_kind_24 : decode cX9_kind 24 = .ok (.invokevirtual 139, 3) := by decide +kernel
theorem dX9_kind_27 : decode cX9_kind 27 = .ok (.ifCond .ne 9, 3) := by decide +kernel
theorem dX9_kind_30 : decode cX9_kind 30 = .ok (.aload_n 0, 1) := by decide +kernel
theorem dX9_kind_31 : decode cX9_kind 31 = .ok (.iconst 1, 1) := by decide +kernel
theorem dX9_kind_32 : decode cX9_kind 32 = .ok (.invokevirtual 98, 3) := by decide +kernel
theorem dX9_kind_35 : decode cX9_kind 35 = .ok (.ireturn, 1) := by decide +kernel
theorem dX9_kind_36 : decode cX9_kind 36 = .ok (.iload_n 2, 1) := by decide +kernel
theorem dX9_kind_37 : decode cX9_kind 37 = .ok (.iload_n 3, 1) := by decide +kernel
theorem dX9_kind_38 : decode cX9_kind 38 = .ok (.if_icmp .ne 9, 3) := by decide +kernel
theorem dX9_kind_41 : decode cX9_kind 41 = .ok (.aload_n 0, 1) := by decide +kernel
theorem dX9_kind_42 : decode cX9_kind 42 = .ok (.iconst 5, 1) := by decide +kernel
theorem dX9_kind_43 : decode cX9_kind 43 = .ok (.invokevirtual 98, 3) := by decide +kernel
theorem dX9_kind_46 : decode cX9_kind 46 = .ok (.ireturn, 1) := by decide +kernel
theorem dX9_kind_47 : decode cX9_kind 47 = .ok (.aload_n 0, 1) := by decide +kernel
theorem dX9_kind_48 : decode cX9_kind 48 = .ok (.aload 4, 2) := by decide +kernel
theorem dX9_kind_50 : decode cX9_kind 50 = .ok (.getfield 147, 3) := by decide +kernel
theorem dX9_kind_53 : decode cX9_kind 53 = .ok (.iload_n 2, 1) := by decide +kernel
theorem dX9_kind_54 : decode cX9_kind 54 = .ok (.aaload, 1) := by decide +kernel
theorem dX9_kind_55 : decode cX9_kind 55 = .ok (.iload_n 3, 1) := by decide +kernel
theorem dX9_kind_56 : decode cX9_kind 56 = .ok (.iaload, 1) := by decide +kernel
theorem dX9_kind_57 : decode cX9_kind 57 = .ok (.invokevirtual 122, 3) := by decide +kernel
theorem dX9_kind_60 : decode cX9_kind 60 = .ok (.ireturn, 1) := by decide +kernel
theorem dX9_degree_0 : decode cX9_degree 0 = .ok (.aload_n 0, 1) := by decide +kernel
theorem dX9_degree_1 : decode cX9_degree 1 = .ok (.iload_n 1, 1) := by decide +kernel
theorem dX9_degree_2 : decode cX9_degree 2 = .ok (.invokevirtual 94, 3) := by decide +kernel
theorem dX9_degree_5 : decode cX9_degree 5 = .ok (.astore 4, 2) := by decide +kernel
theorem dX9_degree_7 : decode cX9_degree 7 = .ok (.aload 4, 2) := by decide +kernel
theorem dX9_degree_9 : decode cX9_degree 9 = .ok (.ifnull 12, 3) := by decide +kernel
theorem dX9_degree_12 : decode cX9_degree 12 = .ok (.aload 4, 2) := by decide +kernel
theorem dX9_degree_14 : decode cX9_degree 14 = .ok (.iload_n 2, 1) := by decide +kernel
theorem dX9_degree_15 : decode cX9_degree 15 = .ok (.invokevirtual 139, 3) := by decide +kernel
theorem dX9_degree_18 : decode cX9_degree 18 = .ok (.ifCond .ne 9, 3) := by decide +kernel
theorem dX9_degree_21 : decode cX9_degree 21 = .ok (.aload_n 0, 1) := by decide +kernel
theorem dX9_degree_22 : decode cX9_degree 22 = .ok (.iconst 1, 1) := by decide +kernel
theorem dX9_degree_23 : decode cX9_degree 23 = .ok (.invokevirtual 98, 3) := by decide +kernel
theorem dX9_degree_26 : decode cX9_degree 26 = .ok (.ireturn, 1) := by decide +kernel
theorem dX9_degree_27 : decode cX9_degree 27 = .ok (.iload_n 3, 1) := by decide +kernel
theorem dX9_degree_28 : decode cX9_degree 28 = .ok (.ifCond .lt 8, 3) := by decide +kernel
theorem dX9_degree_31 : decode cX9_degree 31 = .ok (.iload_n 3, 1) := by decide +kernel
theorem dX9_degree_32 : decode cX9_degree 32 = .ok (.iconst 4, 1) := by decide +kernel
theorem dX9_degree_33 : decode cX9_degree 33 = .ok (.if_icmp .lt 9, 3) := by decide +kernel
theorem dX9_degree_36 : decode cX9_degree 36 = .ok (.aload_n 0, 1) := by decide +kernel
theorem dX9_degree_37 : decode cX9_degree 37 = .ok (.iconst 2, 1) := by decide +kernel
theorem dX9_degree_38 : decode cX9_degree 38 = .ok (.invokevirtual 98, 3) := by decide +kernel
theorem dX9_degree_41 : decode cX9_degree 41 = .ok (.ireturn, 1) := by decide +kernel
theorem dX9_degree_42 : decode cX9_degree 42 = .ok (.aload_n 0, 1) := by decide +kernel
theorem dX9_degree_43 : decode cX9_degree 43 = .ok (.aload 4, 2) := by decide +kernel
theorem dX9_degree_45 : decode cX9_degree 45 = .ok (.getfield 151, 3) := by decide +kernel
theorem dX9_degree_48 : decode cX9_degree 48 = .ok (.iload_n 3, 1) := by decide +kernel
theorem dX9_degree_49 : decode cX9_degree 49 = .ok (.aaload, 1) := by decide +kernel
theorem dX9_degree_50 : decode cX9_degree 50 = .ok (.iload_n 2, 1) := by decide +kernel
theorem dX9_degree_51 : decode cX9_degree 51 = .ok (.iaload, 1) := by decide +kernel
theorem dX9_degree_52 : decode cX9_degree 52 = .ok (.invokestatic 154, 3) := by decide +kernel
theorem dX9_degree_55 : decode cX9_degree 55 = .ok (.invokevirtual 122, 3) := by decide +kernel
theorem dX9_degree_58 : decode cX9_degree 58 = .ok (.ireturn, 1) := by decide +kernel
theorem dX9_start_0 : decode cX9_start 0 = .ok (.aload_n 0, 1) := by decide +kernel
theorem dX9_start_1 : decode cX9_start 1 = .ok (.iload_n 1, 1) := by decide +kernel
theorem dX9_start_2 : decode cX9_start 2 = .ok (.invokevirtual 94, 3) := by decide +kernel
theorem dX9_start_5 : decode cX9_start 5 = .ok (.astore_n 3, 1) := by decide +kernel
theorem dX9_start_6 : decode cX9_start 6 = .ok (.aload_n 3, 1) := by decide +kernel
theorem dX9_start_7 : decode cX9_start 7 = .ok (.ifnull 12, 3) := by decide +kernel
theorem dX9_start_10 : decode cX9_start 10 = .ok (.iload_n 2, 1) := by decide +kernel
theorem dX9_start_11 : decode cX9_start 11 = .ok (.ifCond .lt 8, 3) := by decide +kernel
theorem dX9_start_14 : decode cX9_start 14 = .ok (.iload_n 2, 1) := by decide +kernel
theorem dX9_start_15 : decode cX9_start 15 = .ok (.iconst 3, 1) := by decide +kernel
theorem dX9_start_16 : decode cX9_start 16 = .ok (.if_icmp .le 9, 3) := by decide +kernel
theorem dX9_start_19 : decode cX9_start 19 = .ok (.aload_n 0, 1) := by decide +kernel
theorem dX9_start_20 : decode cX9_start 20 = .ok (.iconst 1, 1) := by decide +kernel
theorem dX9_start_21 : decode cX9_start 21 = .ok (.invokevirtual 98, 3) := by decide +kernel
theorem dX9_start_24 : decode cX9_start 24 = .ok (.ireturn, 1) := by decide +kernel
theorem dX9_start_25 : decode cX9_start 25 = .ok (.aload_n 0, 1) := by decide +kernel
theorem dX9_start_26 : decode cX9_start 26 = .ok (.getfield 51, 3) := by decide +kernel
theorem dX9_start_29 : decode cX9_start 29 = .ok (.aload_n 3, 1) := by decide +kernel
theorem dX9_start_30 : decode cX9_start 30 = .ok (.invokevirtual 132, 3) := by decide +kernel
theorem dX9_start_33 : decode cX9_start 33 = .ok (.aload_n 0, 1) := by decide +kernel
theorem dX9_start_34 : decode cX9_start 34 = .ok (.getfield 51, 3) := by decide +kernel
theorem dX9_start_37 : decode cX9_start 37 = .ok (.getfield 135, 3) := by decide +kernel
theorem dX9_start_40 : decode cX9_start 40 = .ok (.istore 4, 2) := by decide +kernel
theorem dX9_start_42 : decode cX9_start 42 = .ok (.aload_n 0, 1) := by decide +kernel
theorem dX9_start_43 : decode cX9_start 43 = .ok (.getfield 51, 3) := by decide +kernel
theorem dX9_start_46 : decode cX9_start 46 = .ok (.aload_n 3, 1) := by decide +kernel
theorem dX9_start_47 : decode cX9_start 47 = .ok (.invokevirtual 159, 3) := by decide +kernel
theorem dX9_start_50 : decode cX9_start 50 = .ok (.iload_n 2, 1) := by decide +kernel
theorem dX9_start_51 : decode cX9_start 51 = .ok (.tableswitch 56 0 2 #[25, 37, 49], 25) := by decide +kernel
theorem dX9_start_76 : decode cX9_start 76 = .ok (.aload_n 0, 1) := by decide +kernel
theorem dX9_start_77 : decode cX9_start 77 = .ok (.aload_n 0, 1) := by decide +kernel
theorem dX9_start_78 : decode cX9_start 78 = .ok (.getfield 51, 3) := by decide +kernel
theorem dX9_start_81 : decode cX9_start 81 = .ok (.getfield 135, 3) := by decide +kernel
theorem dX9_start_84 : decode cX9_start 84 = .ok (.invokevirtual 122, 3) := by decide +kernel
theorem dX9_start_87 : decode cX9_start 87 = .ok (.ireturn, 1) := by decide +kernel
theorem dX9_start_88 : decode cX9_start 88 = .ok (.aload_n 0, 1) := by decide +kernel
theorem dX9_start_89 : decode cX9_start 89 = .ok (.aload_n 0, 1) := by decide +kernel
theorem dX9_start_90 : decode cX9_start 90 = .ok (.getfield 51, 3) := by decide +kernel
theorem dX9_start_93 : decode cX9_start 93 = .ok (.getfield 162, 3) := by decide +kernel
theorem dX9_start_96 : decode cX9_start 96 = .ok (.invokevirtual 122, 3) := by decide +kernel
theorem dX9_start_99 : decode cX9_start 99 = .ok (.ireturn, 1) := by decide +kernel
theorem dX9_start_100 : decode cX9_start 100 = .ok (.aload_n 0, 1) := by decide +kernel
theorem dX9_start_101 : decode cX9_start 101 = .ok (.iload 4, 2) := by decide +kernel
theorem dX9_start_103 : decode cX9_start 103 = .ok (.invokevirtual 122, 3) := by decide +kernel
theorem dX9_start_106 : decode cX9_start 106 = .ok (.ireturn, 1) := by decide +kernel
theorem dX9_start_107 : decode cX9_start 107 = .ok (.aload_n 0, 1) := by decide +kernel
theorem dX9_start_108 : decode cX9_start 108 = .ok (.aload_n 0, 1) := by decide +kernel
theorem dX9_start_109 : decode cX9_start 109 = .ok (.getfield 51, 3) := by decide +kernel
theorem dX9_start_112 : decode cX9_start 112 = .ok (.invokevirtual 165, 3) := by decide +kernel
theorem dX9_start_115 : decode cX9_start 115 = .ok (.invokevirtual 122, 3) := by decide +kernel
theorem dX9_start_118 : decode cX9_start 118 = .ok (.ireturn, 1) := by decide +kernel
theorem dX9_cell_0 : decode cX9_cell 0 = .ok (.aload_n 0, 1) := by decide +kernel
theorem dX9_cell_1 : decode cX9_cell 1 = .ok (.iload_n 1, 1) := by decide +kernel
theorem dX9_cell_2 : decode cX9_cell 2 = .ok (.invokevirtual 94, 3) := by decide +kernel
theorem dX9_cell_5 : decode cX9_cell 5 = .ok (.astore_n 3, 1) := by decide +kernel
theorem dX9_cell_6 : decode cX9_cell 6 = .ok (.aload_n 3, 1) := by decide +kernel
theorem dX9_cell_7 : decode cX9_cell 7 = .ok (.ifnonnull 9, 3) := by decide +kernel
theorem dX9_cell_10 : decode cX9_cell 10 = .ok (.aload_n 0, 1) := by decide +kernel
theorem dX9_cell_11 : decode cX9_cell 11 = .ok (.iconst 1, 1) := by decide +kernel
theorem dX9_cell_12 : decode cX9_cell 12 = .ok (.invokevirtual 98, 3) := by decide +kernel
theorem dX9_cell_15 : decode cX9_cell 15 = .ok (.ireturn, 1) := by decide +kernel
theorem dX9_cell_16 : decode cX9_cell 16 = .ok (.aload_n 0, 1) := by decide +kernel
theorem dX9_cell_17 : decode cX9_cell 17 = .ok (.getfield 51, 3) := by decide +kernel
theorem dX9_cell_20 : decode cX9_cell 20 = .ok (.aload_n 3, 1) := by decide +kernel
theorem dX9_cell_21 : decode cX9_cell 21 = .ok (.invokevirtual 168, 3) := by decide +kernel
theorem dX9_cell_24 : decode cX9_cell 24 = .ok (.iload_n 2, 1) := by decide +kernel
theorem dX9_cell_25 : decode cX9_cell 25 = .ok (.ifCond .lt 14, 3) := by decide +kernel
theorem dX9_cell_28 : decode cX9_cell 28 = .ok (.iload_n 2, 1) := by decide +kernel
theorem dX9_cell_29 : decode cX9_cell 29 = .ok (.aload_n 0, 1) := by decide +kernel
theorem dX9_cell_30 : decode cX9_cell 30 = .ok (.getfield 51, 3) := by decide +kernel
theorem dX9_cell_33 : decode cX9_cell 33 = .ok (.getfield 135, 3) := by decide +kernel
theorem dX9_cell_36 : decode cX9_cell 36 = .ok (.if_icmp .lt 9, 3) := by decide +kernel
theorem dX9_cell_39 : decode cX9_cell 39 = .ok (.aload_n 0, 1) := by decide +kernel
theorem dX9_cell_40 : decode cX9_cell 40 = .ok (.iconst 1, 1) := by decide +kernel
theorem dX9_cell_41 : decode cX9_cell 41 = .ok (.invokevirtual 98, 3) := by decide +kernel
theorem dX9_cell_44 : decode cX9_cell 44 = .ok (.ireturn, 1) := by decide +kernel
theorem dX9_cell_45 : decode cX9_cell 45 = .ok (.aload_n 0, 1) := by decide +kernel
theorem dX9_cell_46 : decode cX9_cell 46 = .ok (.aload_n 0, 1) := by decide +kernel
theorem dX9_cell_47 : decode cX9_cell 47 = .ok (.getfield 51, 3) := by decide +kernel
theorem dX9_cell_50 : decode cX9_cell 50 = .ok (.getfield 171, 3) := by decide +kernel
theorem dX9_cell_53 : decode cX9_cell 53 = .ok (.iload_n 2, 1) := by decide +kernel
theorem dX9_cell_54 : decode cX9_cell 54 = .ok (.iaload, 1) := by decide +kernel
theorem dX9_cell_55 : decode cX9_cell 55 = .ok (.invokevirtual 122, 3) := by decide +kernel
theorem dX9_cell_58 : decode cX9_cell 58 = .ok (.ireturn, 1) := by decide +kernel
theorem dX9_apart_0 : decode cX9_apart 0 = .ok (.aload_n 0, 1) := by decide +kernel
theorem dX9_apart_1 : decode cX9_apart 1 = .ok (.iload_n 1, 1) := by decide +kernel
theorem dX9_apart_2 : decode cX9_apart 2 = .ok (.invokevirtual 94, 3) := by decide +kernel
theorem dX9_apart_5 : decode cX9_apart 5 = .ok (.astore 4, 2) := by decide +kernel
theorem dX9_apart_7 : decode cX9_apart 7 = .ok (.aload 4, 2) := by decide +kernel
theorem dX9_apart_9 : decode cX9_apart 9 = .ok (.ifnull 21, 3) := by decide +kernel
theorem dX9_apart_12 : decode cX9_apart 12 = .ok (.aload 4, 2) := by decide +kernel
theorem dX9_apart_14 : decode cX9_apart 14 = .ok (.iload_n 2, 1) := by decide +kernel
theorem dX9_apart_15 : decode cX9_apart 15 = .ok (.invokevirtual 139, 3) := by decide +kernel
theorem dX9_apart_18 : decode cX9_apart 18 = .ok (.ifCond .eq 12, 3) := by decide +kernel
theorem dX9_apart_21 : decode cX9_apart 21 = .ok (.iload_n 3, 1) := by decide +kernel
theorem dX9_apart_22 : decode cX9_apart 22 = .ok (.ifCond .lt 8, 3) := by decide +kernel
theorem dX9_apart_25 : decode cX9_apart 25 = .ok (.iload_n 3, 1) := by decide +kernel
theorem dX9_apart_26 : decode cX9_apart 26 = .ok (.iconst 1, 1) := by decide +kernel
theorem dX9_apart_27 : decode cX9_apart 27 = .ok (.if_icmp .le 9, 3) := by decide +kernel
theorem dX9_apart_30 : decode cX9_apart 30 = .ok (.aload_n 0, 1) := by decide +kernel
theorem dX9_apart_31 : decode cX9_apart 31 = .ok (.iconst 1, 1) := by decide +kernel
theorem dX9_apart_32 : decode cX9_apart 32 = .ok (.invokevirtual 98, 3) := by decide +kernel
theorem dX9_apart_35 : decode cX9_apart 35 = .ok (.ireturn, 1) := by decide +kernel
theorem dX9_apart_36 : decode cX9_apart 36 = .ok (.aload_n 0, 1) := by decide +kernel
theorem dX9_apart_37 : decode cX9_apart 37 = .ok (.getfield 51, 3) := by decide +kernel
theorem dX9_apart_40 : decode cX9_apart 40 = .ok (.aload 4, 2) := by decide +kernel
theorem dX9_apart_42 : decode cX9_apart 42 = .ok (.invokevirtual 168, 3) := by decide +kernel
theorem dX9_apart_45 : decode cX9_apart 45 = .ok (.aload_n 0, 1) := by decide +kernel
theorem dX9_apart_46 : decode cX9_apart 46 = .ok (.getfield 51, 3) := by decide +kernel
theorem dX9_apart_49 : decode cX9_apart 49 = .ok (.invokevirtual 165, 3) := by decide +kernel
theorem dX9_apart_52 : decode cX9_apart 52 = .ok (.iload_n 2, 1) := by decide +kernel
theorem dX9_apart_53 : decode cX9_apart 53 = .ok (.invokestatic 174, 3) := by decide +kernel
theorem dX9_apart_56 : decode cX9_apart 56 = .ok (.ifCond .ne 9, 3) := by decide +kernel
theorem dX9_apart_59 : decode cX9_apart 59 = .ok (.aload_n 0, 1) := by decide +kernel
theorem dX9_apart_60 : decode cX9_apart 60 = .ok (.iconst 5, 1) := by decide +kernel
theorem dX9_apart_61 : decode cX9_apart 61 = .ok (.invokevirtual 98, 3) := by decide +kernel
theorem dX9_apart_64 : decode cX9_apart 64 = .ok (.ireturn, 1) := by decide +kernel
theorem dX9_apart_65 : decode cX9_apart 65 = .ok (.aload_n 0, 1) := by decide +kernel
theorem dX9_apart_66 : decode cX9_apart 66 = .ok (.getfield 51, 3) := by decide +kernel
theorem dX9_apart_69 : decode cX9_apart 69 = .ok (.iload_n 2, 1) := by decide +kernel
theorem dX9_apart_70 : decode cX9_apart 70 = .ok (.invokevirtual 178, 3) := by decide +kernel
theorem dX9_apart_73 : decode cX9_apart 73 = .ok (.aload_n 0, 1) := by decide +kernel
theorem dX9_apart_74 : decode cX9_apart 74 = .ok (.getfield 51, 3) := by decide +kernel
theorem dX9_apart_77 : decode cX9_apart 77 = .ok (.aload 4, 2) := by decide +kernel
theorem dX9_apart_79 : decode cX9_apart 79 = .ok (.invokevirtual 159, 3) := by decide +kernel
theorem dX9_apart_82 : decode cX9_apart 82 = .ok (.aload_n 0, 1) := by decide +kernel
theorem dX9_apart_83 : decode cX9_apart 83 = .ok (.iload_n 3, 1) := by decide +kernel
theorem dX9_apart_84 : decode cX9_apart 84 = .ok (.ifCond .ne 13, 3) := by decide +kernel
theorem dX9_apart_87 : decode cX9_apart 87 = .ok (.aload_n 0, 1) := by decide +kernel
theorem dX9_apart_88 : decode cX9_apart 88 = .ok (.getfield 51, 3) := by decide +kernel
theorem dX9_apart_91 : decode cX9_apart 91 = .ok (.getfield 135, 3) := by decide +kernel
theorem dX9_apart_94 : decode cX9_apart 94 = .ok (.goto 10, 3) := by decide +kernel
theorem dX9_apart_97 : decode cX9_apart 97 = .ok (.aload_n 0, 1) := by decide +kernel
theorem dX9_apart_98 : decode cX9_apart 98 = .ok (.getfield 51, 3) := by decide +kernel
theorem dX9_apart_101 : decode cX9_apart 101 = .ok (.invokevirtual 181, 3) := by decide +kernel
theorem dX9_apart_104 : decode cX9_apart 104 = .ok (.invokevirtual 122, 3) := by decide +kernel
theorem dX9_apart_107 : decode cX9_apart 107 = .ok (.ireturn, 1) := by decide +kernel
theorem dX9_tree_0 : decode cX9_tree 0 = .ok (.aload_n 0, 1) := by decide +kernel
theorem dX9_tree_1 : decode cX9_tree 1 = .ok (.iload_n 1, 1) := by decide +kernel
theorem dX9_tree_2 : decode cX9_tree 2 = .ok (.invokevirtual 94, 3) := by decide +kernel
theorem dX9_tree_5 : decode cX9_tree 5 = .ok (.astore_n 3, 1) := by decide +kernel
theorem dX9_tree_6 : decode cX9_tree 6 = .ok (.aload_n 3, 1) := by decide +kernel
theorem dX9_tree_7 : decode cX9_tree 7 = .ok (.ifnull 12, 3) := by decide +kernel
theorem dX9_tree_10 : decode cX9_tree 10 = .ok (.iload_n 2, 1) := by decide +kernel
theorem dX9_tree_11 : decode cX9_tree 11 = .ok (.ifCond .lt 8, 3) := by decide +kernel
theorem dX9_tree_14 : decode cX9_tree 14 = .ok (.iload_n 2, 1) := by decide +kernel
theorem dX9_tree_15 : decode cX9_tree 15 = .ok (.iconst 4, 1) := by decide +kernel
theorem dX9_tree_16 : decode cX9_tree 16 = .ok (.if_icmp .le 9, 3) := by decide +kernel
theorem dX9_tree_19 : decode cX9_tree 19 = .ok (.aload_n 0, 1) := by decide +kernel
theorem dX9_tree_20 : decode cX9_tree 20 = .ok (.iconst 1, 1) := by decide +kernel
theorem dX9_tree_21 : decode cX9_tree 21 = .ok (.invokevirtual 98, 3) := by decide +kernel
theorem dX9_tree_24 : decode cX9_tree 24 = .ok (.ireturn, 1) := by decide +kernel
theorem dX9_tree_25 : decode cX9_tree 25 = .ok (.aload_n 0, 1) := by decide +kernel
theorem dX9_tree_26 : decode cX9_tree 26 = .ok (.getfield 17, 3) := by decide +kernel
theorem dX9_tree_29 : decode cX9_tree 29 = .ok (.iload_n 1, 1) := by decide +kernel
theorem dX9_tree_30 : decode cX9_tree 30 = .ok (.aaload, 1) := by decide +kernel
theorem dX9_tree_31 : decode cX9_tree 31 = .ok (.astore 4, 2) := by decide +kernel
theorem dX9_tree_33 : decode cX9_tree 33 = .ok (.aload 4, 2) := by decide +kernel
theorem dX9_tree_35 : decode cX9_tree 35 = .ok (.aload_n 3, 1) := by decide +kernel
theorem dX9_tree_36 : decode cX9_tree 36 = .ok (.invokevirtual 184, 3) := by decide +kernel
theorem dX9_tree_39 : decode cX9_tree 39 = .ok (.iload_n 2, 1) := by decide +kernel
theorem dX9_tree_40 : decode cX9_tree 40 = .ok (.tableswitch 77 0 3 #[32, 42, 52, 62], 32) := by decide +kernel
theorem dX9_tree_72 : decode cX9_tree 72 = .ok (.aload_n 0, 1) := by decide +kernel
theorem dX9_tree_73 : decode cX9_tree 73 = .ok (.aload 4, 2) := by decide +kernel
theorem dX9_tree_75 : decode cX9_tree 75 = .ok (.getfield 187, 3) := by decide +kernel
theorem dX9_tree_78 : decode cX9_tree 78 = .ok (.invokevirtual 122, 3) := by decide +kernel
theorem dX9_tree_81 : decode cX9_tree 81 = .ok (.ireturn, 1) := by decide +kernel
theorem dX9_tree_82 : decode cX9_tree 82 = .ok (.aload_n 0, 1) := by decide +kernel
theorem dX9_tree_83 : decode cX9_tree 83 = .ok (.aload 4, 2) := by decide +kernel
theorem dX9_tree_85 : decode cX9_tree 85 = .ok (.getfield 190, 3) := by decide +kernel
theorem dX9_tree_88 : decode cX9_tree 88 = .ok (.invokevirtual 122, 3) := by decide +kernel
theorem dX9_tree_91 : decode cX9_tree 91 = .ok (.ireturn, 1) := by decide +kernel
theorem dX9_tree_92 : decode cX9_tree 92 = .ok (.aload_n 0, 1) := by decide +kernel
theorem dX9_tree_93 : decode cX9_tree 93 = .ok (.aload 4, 2) := by decide +kernel
theorem dX9_tree_95 : decode cX9_tree 95 = .ok (.getfield 193, 3) := by decide +kernel
theorem dX9_tree_98 : decode cX9_tree 98 = .ok (.invokevirtual 122, 3) := by decide +kernel
theorem dX9_tree_101 : decode cX9_tree 101 = .ok (.ireturn, 1) := by decide +kernel
theorem dX9_tree_102 : decode cX9_tree 102 = .ok (.aload_n 0, 1) := by decide +kernel
theorem dX9_tree_103 : decode cX9_tree 103 = .ok (.aload 4, 2) := by decide +kernel
theorem dX9_tree_105 : decode cX9_tree 105 = .ok (.getfield 196, 3) := by decide +kernel
theorem dX9_tree_108 : decode cX9_tree 108 = .ok (.getfield 200, 3) := by decide +kernel
theorem dX9_tree_111 : decode cX9_tree 111 = .ok (.iconst 0, 1) := by decide +kernel
theorem dX9_tree_112 : decode cX9_tree 112 = .ok (.iaload, 1) := by decide +kernel
theorem dX9_tree_113 : decode cX9_tree 113 = .ok (.invokevirtual 122, 3) := by decide +kernel
theorem dX9_tree_116 : decode cX9_tree 116 = .ok (.ireturn, 1) := by decide +kernel
theorem dX9_tree_117 : decode cX9_tree 117 = .ok (.aload_n 0, 1) := by decide +kernel
theorem dX9_tree_118 : decode cX9_tree 118 = .ok (.aload 4, 2) := by decide +kernel
theorem dX9_tree_120 : decode cX9_tree 120 = .ok (.getfield 203, 3) := by decide +kernel
theorem dX9_tree_123 : decode cX9_tree 123 = .ok (.invokevirtual 122, 3) := by decide +kernel
theorem dX9_tree_126 : decode cX9_tree 126 = .ok (.ireturn, 1) := by decide +kernel
theorem dX9_search_0 : decode cX9_search 0 = .ok (.aload_n 0, 1) := by decide +kernel
theorem dX9_search_1 : decode cX9_search 1 = .ok (.iload_n 1, 1) := by decide +kernel
theorem dX9_search_2 : decode cX9_search 2 = .ok (.invokevirtual 94, 3) := by decide +kernel
theorem dX9_search_5 : decode cX9_search 5 = .ok (.astore_n 3, 1) := by decide +kernel
theorem dX9_search_6 : decode cX9_search 6 = .ok (.aload_n 3, 1) := by decide +kernel
theorem dX9_search_7 : decode cX9_search 7 = .ok (.ifnull 12, 3) := by decide +kernel
theorem dX9_search_10 : decode cX9_search 10 = .ok (.iload_n 2, 1) := by decide +kernel
theorem dX9_search_11 : decode cX9_search 11 = .ok (.ifCond .lt 8, 3) := by decide +kernel
theorem dX9_search_14 : decode cX9_search 14 = .ok (.iload_n 2, 1) := by decide +kernel
theorem dX9_search_15 : decode cX9_search 15 = .ok (.iconst 5, 1) := by decide +kernel
theorem dX9_search_16 : decode cX9_search 16 = .ok (.if_icmp .le 9, 3) := by decide +kernel
theorem dX9_search_19 : decode cX9_search 19 = .ok (.aload_n 0, 1) := by decide +kernel
theorem dX9_search_20 : decode cX9_search 20 = .ok (.iconst 1, 1) := by decide +kernel
theorem dX9_search_21 : decode cX9_search 21 = .ok (.invokevirtual 98, 3) := by decide +kernel
theorem dX9_search_24 : decode cX9_search 24 = .ok (.ireturn, 1) := by decide +kernel
theorem dX9_search_25 : decode cX9_search 25 = .ok (.aload_n 0, 1) := by decide +kernel
theorem dX9_search_26 : decode cX9_search 26 = .ok (.iload_n 1, 1) := by decide +kernel
theorem dX9_search_27 : decode cX9_search 27 = .ok (.invokevirtual 206, 3) := by decide +kernel
theorem dX9_search_30 : decode cX9_search 30 = .ok (.astore 4, 2) := by decide +kernel
theorem dX9_search_32 : decode cX9_search 32 = .ok (.iload_n 2, 1) := by decide +kernel
theorem dX9_search_33 : decode cX9_search 33 = .ok (.tableswitch 85 0 4 #[35, 45, 55, 65, 75], 35) := by decide +kernel
theorem dX9_search_68 : decode cX9_search 68 = .ok (.aload_n 0, 1) := by decide +kernel
theorem dX9_search_69 : decode cX9_search 69 = .ok (.aload 4, 2) := by decide +kernel
theorem dX9_search_71 : decode cX9_search 71 = .ok (.getfield 210, 3) := by decide +kernel
theorem dX9_search_74 : decode cX9_search 74 = .ok (.invokevirtual 122, 3) := by decide +kernel
theorem dX9_search_77 : decode cX9_search 77 = .ok (.ireturn, 1) := by decide +kernel
theorem dX9_search_78 : decode cX9_search 78 = .ok (.aload_n 0, 1) := by decide +kernel
theorem dX9_search_79 : decode cX9_search 79 = .ok (.aload 4, 2) := by decide +kernel
theorem dX9_search_81 : decode cX9_search 81 = .ok (.getfield 211, 3) := by decide +kernel
theorem dX9_search_84 : decode cX9_search 84 = .ok (.invokevirtual 122, 3) := by decide +kernel
theorem dX9_search_87 : decode cX9_search 87 = .ok (.ireturn, 1) := by decide +kernel
theorem dX9_search_88 : decode cX9_search 88 = .ok (.aload_n 0, 1) := by decide +kernel
theorem dX9_search_89 : decode cX9_search 89 = .ok (.aload 4, 2) := by decide +kernel
theorem dX9_search_91 : decode cX9_search 91 = .ok (.getfield 212, 3) := by decide +kernel
theorem dX9_search_94 : decode cX9_search 94 = .ok (.invokevirtual 122, 3) := by decide +kernel
theorem dX9_search_97 : decode cX9_search 97 = .ok (.ireturn, 1) := by decide +kernel
theorem dX9_search_98 : decode cX9_search 98 = .ok (.aload_n 0, 1) := by decide +kernel
theorem dX9_search_99 : decode cX9_search 99 = .ok (.aload 4, 2) := by decide +kernel
theorem dX9_search_101 : decode cX9_search 101 = .ok (.getfield 215, 3) := by decide +kernel
theorem dX9_search_104 : decode cX9_search 104 = .ok (.invokevirtual 122, 3) := by decide +kernel
theorem dX9_search_107 : decode cX9_search 107 = .ok (.ireturn, 1) := by decide +kernel
theorem dX9_search_108 : decode cX9_search 108 = .ok (.aload_n 0, 1) := by decide +kernel
theorem dX9_search_109 : decode cX9_search 109 = .ok (.aload 4, 2) := by decide +kernel
theorem dX9_search_111 : decode cX9_search 111 = .ok (.getfield 218, 3) := by decide +kernel
theorem dX9_search_114 : decode cX9_search 114 = .ok (.invokevirtual 122, 3) := by decide +kernel
theorem dX9_search_117 : decode cX9_search 117 = .ok (.ireturn, 1) := by decide +kernel
theorem dX9_search_118 : decode cX9_search 118 = .ok (.aload_n 0, 1) := by decide +kernel
theorem dX9_search_119 : decode cX9_search 119 = .ok (.aload 4, 2) := by decide +kernel
theorem dX9_search_121 : decode cX9_search 121 = .ok (.getfield 221, 3) := by decide +kernel
theorem dX9_search_124 : decode cX9_search 124 = .ok (.invokevirtual 122, 3) := by decide +kernel
theorem dX9_search_127 : decode cX9_search 127 = .ok (.ireturn, 1) := by decide +kernel
theorem dX9_name_0 : decode cX9_name 0 = .ok (.aload_n 0, 1) := by decide +kernel
theorem dX9_name_1 : decode cX9_name 1 = .ok (.iload_n 1, 1) := by decide +kernel
theorem dX9_name_2 : decode cX9_name 2 = .ok (.invokevirtual 94, 3) := by decide +kernel
theorem dX9_name_5 : decode cX9_name 5 = .ok (.ifnonnull 9, 3) := by decide +kernel
theorem dX9_name_8 : decode cX9_name 8 = .ok (.aload_n 0, 1) := by decide +kernel
theorem dX9_name_9 : decode cX9_name 9 = .ok (.iconst 1, 1) := by decide +kernel
theorem dX9_name_10 : decode cX9_name 10 = .ok (.invokevirtual 98, 3) := by decide +kernel
theorem dX9_name_13 : decode cX9_name 13 = .ok (.ireturn, 1) := by decide +kernel
theorem dX9_name_14 : decode cX9_name 14 = .ok (.aload_n 0, 1) := by decide +kernel
theorem dX9_name_15 : decode cX9_name 15 = .ok (.iload_n 1, 1) := by decide +kernel
theorem dX9_name_16 : decode cX9_name 16 = .ok (.invokevirtual 206, 3) := by decide +kernel
theorem dX9_name_19 : decode cX9_name 19 = .ok (.getfield 224, 3) := by decide +kernel
theorem dX9_name_22 : decode cX9_name 22 = .ok (.astore_n 3, 1) := by decide +kernel
theorem dX9_name_23 : decode cX9_name 23 = .ok (.iload_n 2, 1) := by decide +kernel
theorem dX9_name_24 : decode cX9_name 24 = .ok (.ifCond .lt 11, 3) := by decide +kernel
theorem dX9_name_27 : decode cX9_name 27 = .ok (.iload_n 2, 1) := by decide +kernel
theorem dX9_name_28 : decode cX9_name 28 = .ok (.aload_n 3, 1) := by decide +kernel
theorem dX9_name_29 : decode cX9_name 29 = .ok (.getfield 225, 3) := by decide +kernel
theorem dX9_name_32 : decode cX9_name 32 = .ok (.if_icmp .lt 10, 3) := by decide +kernel
theorem dX9_name_35 : decode cX9_name 35 = .ok (.aload_n 0, 1) := by decide +kernel
theorem dX9_name_36 : decode cX9_name 36 = .ok (.bipush 6, 2) := by decide +kernel
theorem dX9_name_38 : decode cX9_name 38 = .ok (.invokevirtual 98, 3) := by decide +kernel
theorem dX9_name_41 : decode cX9_name 41 = .ok (.ireturn, 1) := by decide +kernel
theorem dX9_name_42 : decode cX9_name 42 = .ok (.aload_n 0, 1) := by decide +kernel
theorem dX9_name_43 : decode cX9_name 43 = .ok (.aload_n 3, 1) := by decide +kernel
theorem dX9_name_44 : decode cX9_name 44 = .ok (.getfield 228, 3) := by decide +kernel
theorem dX9_name_47 : decode cX9_name 47 = .ok (.iload_n 2, 1) := by decide +kernel
theorem dX9_name_48 : decode cX9_name 48 = .ok (.iaload, 1) := by decide +kernel
theorem dX9_name_49 : decode cX9_name 49 = .ok (.invokevirtual 122, 3) := by decide +kernel
theorem dX9_name_52 : decode cX9_name 52 = .ok (.ireturn, 1) := by decide +kernel
theorem dX9_place_0 : decode cX9_place 0 = .ok (.aload_n 0, 1) := by decide +kernel
theorem dX9_place_1 : decode cX9_place 1 = .ok (.iload_n 1, 1) := by decide +kernel
theorem dX9_place_2 : decode cX9_place 2 = .ok (.invokevirtual 94, 3) := by decide +kernel
theorem dX9_place_5 : decode cX9_place 5 = .ok (.astore_n 3, 1) := by decide +kernel
theorem dX9_place_6 : decode cX9_place 6 = .ok (.aload_n 3, 1) := by decide +kernel
theorem dX9_place_7 : decode cX9_place 7 = .ok (.ifnonnull 9, 3) := by decide +kernel
theorem dX9_place_10 : decode cX9_place 10 = .ok (.aload_n 0, 1) := by decide +kernel
theorem dX9_place_11 : decode cX9_place 11 = .ok (.iconst 1, 1) := by decide +kernel
theorem dX9_place_12 : decode cX9_place 12 = .ok (.invokevirtual 98, 3) := by decide +kernel
theorem dX9_place_15 : decode cX9_place 15 = .ok (.ireturn, 1) := by decide +kernel
theorem dX9_place_16 : decode cX9_place 16 = .ok (.aload_n 3, 1) := by decide +kernel
theorem dX9_place_17 : decode cX9_place 17 = .ok (.iload_n 2, 1) := by decide +kernel
theorem dX9_place_18 : decode cX9_place 18 = .ok (.invokevirtual 139, 3) := by decide +kernel
theorem dX9_place_21 : decode cX9_place 21 = .ok (.ifCond .ne 10, 3) := by decide +kernel
theorem dX9_place_24 : decode cX9_place 24 = .ok (.aload_n 0, 1) := by decide +kernel
theorem dX9_place_25 : decode cX9_place 25 = .ok (.bipush 6, 2) := by decide +kernel
theorem dX9_place_27 : decode cX9_place 27 = .ok (.invokevirtual 98, 3) := by decide +kernel
theorem dX9_place_30 : decode cX9_place 30 = .ok (.ireturn, 1) := by decide +kernel
theorem dX9_place_31 : decode cX9_place 31 = .ok (.aload_n 0, 1) := by decide +kernel
theorem dX9_place_32 : decode cX9_place 32 = .ok (.aload_n 0, 1) := by decide +kernel
theorem dX9_place_33 : decode cX9_place 33 = .ok (.iload_n 1, 1) := by decide +kernel
theorem dX9_place_34 : decode cX9_place 34 = .ok (.invokevirtual 206, 3) := by decide +kernel
theorem dX9_place_37 : decode cX9_place 37 = .ok (.getfield 224, 3) := by decide +kernel
theorem dX9_place_40 : decode cX9_place 40 = .ok (.getfield 231, 3) := by decide +kernel
theorem dX9_place_43 : decode cX9_place 43 = .ok (.iload_n 2, 1) := by decide +kernel
theorem dX9_place_44 : decode cX9_place 44 = .ok (.iaload, 1) := by decide +kernel
theorem dX9_place_45 : decode cX9_place 45 = .ok (.invokevirtual 122, 3) := by decide +kernel
theorem dX9_place_48 : decode cX9_place 48 = .ok (.ireturn, 1) := by decide +kernel
theorem dX9_less_0 : decode cX9_less 0 = .ok (.aload_n 0, 1) := by decide +kernel
theorem dX9_less_1 : decode cX9_less 1 = .ok (.iload_n 1, 1) := by decide +kernel
theorem dX9_less_2 : decode cX9_less 2 = .ok (.invokevirtual 94, 3) := by decide +kernel
theorem dX9_less_5 : decode cX9_less 5 = .ok (.astore_n 3, 1) := by decide +kernel
theorem dX9_less_6 : decode cX9_less 6 = .ok (.aload_n 0, 1) := by decide +kernel
theorem dX9_less_7 : decode cX9_less 7 = .ok (.iload_n 2, 1) := by decide +kernel
theorem dX9_less_8 : decode cX9_less 8 = .ok (.invokevirtual 94, 3) := by decide +kernel
theorem dX9_less_11 : decode cX9_less 11 = .ok (.astore 4, 2) := by decide +kernel
theorem dX9_less_13 : decode cX9_less 13 = .ok (.aload_n 3, 1) := by decide +kernel
theorem dX9_less_14 : decode cX9_less 14 = .ok (.ifnull 8, 3) := by decide +kernel
theorem dX9_less_17 : decode cX9_less 17 = .ok (.aload 4, 2) := by decide +kernel
theorem dX9_less_19 : decode cX9_less 19 = .ok (.ifnonnull 9, 3) := by decide +kernel
theorem dX9_less_22 : decode cX9_less 22 = .ok (.aload_n 0, 1) := by decide +kernel
theorem dX9_less_23 : decode cX9_less 23 = .ok (.iconst 1, 1) := by decide +kernel
theorem dX9_less_24 : decode cX9_less 24 = .ok (.invokevirtual 98, 3) := by decide +kernel
theorem dX9_less_27 : decode cX9_less 27 = .ok (.ireturn, 1) := by decide +kernel
theorem dX9_less_28 : decode cX9_less 28 = .ok (.aload_n 0, 1) := by decide +kernel
theorem dX9_less_29 : decode cX9_less 29 = .ok (.iload_n 1, 1) := by decide +kernel
theorem dX9_less_30 : decode cX9_less 30 = .ok (.invokevirtual 206, 3) := by decide +kernel
theorem dX9_less_33 : decode cX9_less 33 = .ok (.getfield 224, 3) := by decide +kernel
theorem dX9_less_36 : decode cX9_less 36 = .ok (.aload_n 0, 1) := by decide +kernel
theorem dX9_less_37 : decode cX9_less 37 = .ok (.iload_n 2, 1) := by decide +kernel
theorem dX9_less_38 : decode cX9_less 38 = .ok (.invokevirtual 206, 3) := by decide +kernel
theorem dX9_less_41 : decode cX9_less 41 = .ok (.getfield 224, 3) := by decide +kernel
theorem dX9_less_44 : decode cX9_less 44 = .ok (.invokevirtual 234, 3) := by decide +kernel
theorem dX9_less_47 : decode cX9_less 47 = .ok (.istore 5, 2) := by decide +kernel
theorem dX9_less_49 : decode cX9_less 49 = .ok (.aload_n 0, 1) := by decide +kernel
theorem dX9_less_50 : decode cX9_less 50 = .ok (.iload 5, 2) := by decide +kernel
theorem dX9_less_52 : decode cX9_less 52 = .ok (.ifCond .ge 7, 3) := by decide +kernel
theorem dX9_less_55 : decode cX9_less 55 = .ok (.iconst 0, 1) := by decide +kernel
theorem dX9_less_56 : decode cX9_less 56 = .ok (.goto 13, 3) := by decide +kernel
theorem dX9_less_59 : decode cX9_less 59 = .ok (.iload 5, 2) := by decide +kernel
theorem dX9_less_61 : decode cX9_less 61 = .ok (.ifCond .le 7, 3) := by decide +kernel
theorem dX9_less_64 : decode cX9_less 64 = .ok (.iconst 1, 1) := by decide +kernel
theorem dX9_less_65 : decode cX9_less 65 = .ok (.goto 4, 3) := by decide +kernel
theorem dX9_less_68 : decode cX9_less 68 = .ok (.iconst 2, 1) := by decide +kernel
theorem dX9_less_69 : decode cX9_less 69 = .ok (.invokevirtual 122, 3) := by decide +kernel
theorem dX9_less_72 : decode cX9_less 72 = .ok (.ireturn, 1) := by decide +kernel
theorem dX9_generator_0 : decode cX9_generator 0 = .ok (.aload_n 0, 1) := by decide +kernel
theorem dX9_generator_1 : decode cX9_generator 1 = .ok (.iload_n 1, 1) := by decide +kernel
theorem dX9_generator_2 : decode cX9_generator 2 = .ok (.invokevirtual 94, 3) := by decide +kernel
theorem dX9_generator_5 : decode cX9_generator 5 = .ok (.astore 4, 2) := by decide +kernel
theorem dX9_generator_7 : decode cX9_generator 7 = .ok (.aload 4, 2) := by decide +kernel
theorem dX9_generator_9 : decode cX9_generator 9 = .ok (.ifnull 12, 3) := by decide +kernel
theorem dX9_generator_12 : decode cX9_generator 12 = .ok (.aload 4, 2) := by decide +kernel
theorem dX9_generator_14 : decode cX9_generator 14 = .ok (.iload_n 3, 1) := by decide +kernel
theorem dX9_generator_15 : decode cX9_generator 15 = .ok (.invokevirtual 139, 3) := by decide +kernel
theorem dX9_generator_18 : decode cX9_generator 18 = .ok (.ifCond .ne 9, 3) := by decide +kernel
theorem dX9_generator_21 : decode cX9_generator 21 = .ok (.aload_n 0, 1) := by decide +kernel
theorem dX9_generator_22 : decode cX9_generator 22 = .ok (.iconst 1, 1) := by decide +kernel
theorem dX9_generator_23 : decode cX9_generator 23 = .ok (.invokevirtual 98, 3) := by decide +kernel
theorem dX9_generator_26 : decode cX9_generator 26 = .ok (.ireturn, 1) := by decide +kernel
theorem dX9_generator_27 : decode cX9_generator 27 = .ok (.aload_n 0, 1) := by decide +kernel
theorem dX9_generator_28 : decode cX9_generator 28 = .ok (.iload_n 1, 1) := by decide +kernel
theorem dX9_generator_29 : decode cX9_generator 29 = .ok (.invokevirtual 206, 3) := by decide +kernel
theorem dX9_generator_32 : decode cX9_generator 32 = .ok (.astore 5, 2) := by decide +kernel
theorem dX9_generator_34 : decode cX9_generator 34 = .ok (.iload_n 2, 1) := by decide +kernel
theorem dX9_generator_35 : decode cX9_generator 35 = .ok (.ifCond .lt 12, 3) := by decide +kernel
theorem dX9_generator_38 : decode cX9_generator 38 = .ok (.iload_n 2, 1) := by decide +kernel
theorem dX9_generator_39 : decode cX9_generator 39 = .ok (.aload 5, 2) := by decide +kernel
theorem dX9_generator_41 : decode cX9_generator 41 = .ok (.getfield 218, 3) := by decide +kernel
theorem dX9_generator_44 : decode cX9_generator 44 = .ok (.if_icmp .lt 10, 3) := by decide +kernel
theorem dX9_generator_47 : decode cX9_generator 47 = .ok (.aload_n 0, 1) := by decide +kernel
theorem dX9_generator_48 : decode cX9_generator 48 = .ok (.bipush 6, 2) := by decide +kernel
theorem dX9_generator_50 : decode cX9_generator 50 = .ok (.invokevirtual 98, 3) := by decide +kernel
theorem dX9_generator_53 : decode cX9_generator 53 = .ok (.ireturn, 1) := by decide +kernel
theorem dX9_generator_54 : decode cX9_generator 54 = .ok (.aload_n 0, 1) := by decide +kernel
theorem dX9_generator_55 : decode cX9_generator 55 = .ok (.aload 5, 2) := by decide +kernel
theorem dX9_generator_57 : decode cX9_generator 57 = .ok (.getfield 238, 3) := by decide +kernel
theorem dX9_generator_60 : decode cX9_generator 60 = .ok (.iload_n 2, 1) := by decide +kernel
theorem dX9_generator_61 : decode cX9_generator 61 = .ok (.iaload, 1) := by decide +kernel
theorem dX9_generator_62 : decode cX9_generator 62 = .ok (.iload_n 3, 1) := by decide +kernel
theorem dX9_generator_63 : decode cX9_generator 63 = .ok (.invokestatic 241, 3) := by decide +kernel
theorem dX9_generator_66 : decode cX9_generator 66 = .ok (.invokevirtual 122, 3) := by decide +kernel
theorem dX9_generator_69 : decode cX9_generator 69 = .ok (.ireturn, 1) := by decide +kernel
theorem dX9_symmetries_0 : decode cX9_symmetries 0 = .ok (.aload_n 0, 1) := by decide +kernel
theorem dX9_symmetries_1 : decode cX9_symmetries 1 = .ok (.iload_n 1, 1) := by decide +kernel
theorem dX9_symmetries_2 : decode cX9_symmetries 2 = .ok (.invokevirtual 94, 3) := by decide +kernel
theorem dX9_symmetries_5 : decode cX9_symmetries 5 = .ok (.astore_n 3, 1) := by decide +kernel
theorem dX9_symmetries_6 : decode cX9_symmetries 6 = .ok (.aload_n 3, 1) := by decide +kernel
theorem dX9_symmetries_7 : decode cX9_symmetries 7 = .ok (.ifnull 12, 3) := by decide +kernel
theorem dX9_symmetries_10 : decode cX9_symmetries 10 = .ok (.iload_n 2, 1) := by decide +kernel
theorem dX9_symmetries_11 : decode cX9_symmetries 11 = .ok (.ifCond .lt 8, 3) := by decide +kernel
theorem dX9_symmetries_14 : decode cX9_symmetries 14 = .ok (.iload_n 2, 1) := by decide +kernel
theorem dX9_symmetries_15 : decode cX9_symmetries 15 = .ok (.iconst 2, 1) := by decide +kernel
theorem dX9_symmetries_16 : decode cX9_symmetries 16 = .ok (.if_icmp .le 9, 3) := by decide +kernel
theorem dX9_symmetries_19 : decode cX9_symmetries 19 = .ok (.aload_n 0, 1) := by decide +kernel
theorem dX9_symmetries_20 : decode cX9_symmetries 20 = .ok (.iconst 1, 1) := by decide +kernel
theorem dX9_symmetries_21 : decode cX9_symmetries 21 = .ok (.invokevirtual 98, 3) := by decide +kernel
theorem dX9_symmetries_24 : decode cX9_symmetries 24 = .ok (.ireturn, 1) := by decide +kernel
theorem dX9_symmetries_25 : decode cX9_symmetries 25 = .ok (.aload_n 0, 1) := by decide +kernel
theorem dX9_symmetries_26 : decode cX9_symmetries 26 = .ok (.getfield 61, 3) := by decide +kernel
theorem dX9_symmetries_29 : decode cX9_symmetries 29 = .ok (.aload_n 3, 1) := by decide +kernel
theorem dX9_symmetries_30 : decode cX9_symmetries 30 = .ok (.aload_n 3, 1) := by decide +kernel
theorem dX9_symmetries_31 : decode cX9_symmetries 31 = .ok (.iconst 0, 1) := by decide +kernel
theorem dX9_symmetries_32 : decode cX9_symmetries 32 = .ok (.invokevirtual 245, 3) := by decide +kernel
theorem dX9_symmetries_35 : decode cX9_symmetries 35 = .ok (.iload_n 2, 1) := by decide +kernel
theorem dX9_symmetries_36 : decode cX9_symmetries 36 = .ok (.lookupswitch 52 #[(0, 28), (1, 40)], 28) := by decide +kernel
theorem dX9_symmetries_64 : decode cX9_symmetries 64 = .ok (.aload_n 0, 1) := by decide +kernel
theorem dX9_symmetries_65 : decode cX9_symmetries 65 = .ok (.aload_n 0, 1) := by decide +kernel
theorem dX9_symmetries_66 : decode cX9_symmetries 66 = .ok (.getfield 61, 3) := by decide +kernel
theorem dX9_symmetries_69 : decode cX9_symmetries 69 = .ok (.getfield 249, 3) := by decide +kernel
theorem dX9_symmetries_72 : decode cX9_symmetries 72 = .ok (.invokevirtual 122, 3) := by decide +kernel
theorem dX9_symmetries_75 : decode cX9_symmetries 75 = .ok (.ireturn, 1) := by decide +kernel
theorem dX9_symmetries_76 : decode cX9_symmetries 76 = .ok (.aload_n 0, 1) := by decide +kernel
theorem dX9_symmetries_77 : decode cX9_symmetries 77 = .ok (.aload_n 0, 1) := by decide +kernel
theorem dX9_symmetries_78 : decode cX9_symmetries 78 = .ok (.getfield 61, 3) := by decide +kernel
theorem dX9_symmetries_81 : decode cX9_symmetries 81 = .ok (.invokevirtual 252, 3) := by decide +kernel
theorem dX9_symmetries_84 : decode cX9_symmetries 84 = .ok (.invokevirtual 122, 3) := by decide +kernel
theorem dX9_symmetries_87 : decode cX9_symmetries 87 = .ok (.ireturn, 1) := by decide +kernel
theorem dX9_symmetries_88 : decode cX9_symmetries 88 = .ok (.aload_n 0, 1) := by decide +kernel
theorem dX9_symmetries_89 : decode cX9_symmetries 89 = .ok (.aload_n 0, 1) := by decide +kernel
theorem dX9_symmetries_90 : decode cX9_symmetries 90 = .ok (.getfield 61, 3) := by decide +kernel
theorem dX9_symmetries_93 : decode cX9_symmetries 93 = .ok (.invokevirtual 255, 3) := by decide +kernel
theorem dX9_symmetries_96 : decode cX9_symmetries 96 = .ok (.invokevirtual 122, 3) := by decide +kernel
theorem dX9_symmetries_99 : decode cX9_symmetries 99 = .ok (.ireturn, 1) := by decide +kernel
theorem dX9_orbit_0 : decode cX9_orbit 0 = .ok (.aload_n 0, 1) := by decide +kernel
theorem dX9_orbit_1 : decode cX9_orbit 1 = .ok (.iload_n 1, 1) := by decide +kernel
theorem dX9_orbit_2 : decode cX9_orbit 2 = .ok (.invokevirtual 94, 3) := by decide +kernel
theorem dX9_orbit_5 : decode cX9_orbit 5 = .ok (.astore_n 3, 1) := by decide +kernel
theorem dX9_orbit_6 : decode cX9_orbit 6 = .ok (.aload_n 3, 1) := by decide +kernel
theorem dX9_orbit_7 : decode cX9_orbit 7 = .ok (.ifnull 11, 3) := by decide +kernel
theorem dX9_orbit_10 : decode cX9_orbit 10 = .ok (.aload_n 3, 1) := by decide +kernel
theorem dX9_orbit_11 : decode cX9_orbit 11 = .ok (.iload_n 2, 1) := by decide +kernel
theorem dX9_orbit_12 : decode cX9_orbit 12 = .ok (.invokevirtual 139, 3) := by decide +kernel
theorem dX9_orbit_15 : decode cX9_orbit 15 = .ok (.ifCond .ne 9, 3) := by decide +kernel
theorem dX9_orbit_18 : decode cX9_orbit 18 = .ok (.aload_n 0, 1) := by decide +kernel
theorem dX9_orbit_19 : decode cX9_orbit 19 = .ok (.iconst 1, 1) := by decide +kernel
theorem dX9_orbit_20 : decode cX9_orbit 20 = .ok (.invokevirtual 98, 3) := by decide +kernel
theorem dX9_orbit_23 : decode cX9_orbit 23 = .ok (.ireturn, 1) := by decide +kernel
theorem dX9_orbit_24 : decode cX9_orbit 24 = .ok (.aload_n 0, 1) := by decide +kernel
theorem dX9_orbit_25 : decode cX9_orbit 25 = .ok (.getfield 61, 3) := by decide +kernel
theorem dX9_orbit_28 : decode cX9_orbit 28 = .ok (.aload_n 3, 1) := by decide +kernel
theorem dX9_orbit_29 : decode cX9_orbit 29 = .ok (.aload_n 3, 1) := by decide +kernel
theorem dX9_orbit_30 : decode cX9_orbit 30 = .ok (.iconst 0, 1) := by decide +kernel
theorem dX9_orbit_31 : decode cX9_orbit 31 = .ok (.invokevirtual 245, 3) := by decide +kernel
theorem dX9_orbit_34 : decode cX9_orbit 34 = .ok (.aload_n 0, 1) := by decide +kernel
theorem dX9_orbit_35 : decode cX9_orbit 35 = .ok (.aload_n 0, 1) := by decide +kernel
theorem dX9_orbit_36 : decode cX9_orbit 36 = .ok (.getfield 61, 3) := by decide +kernel
theorem dX9_orbit_39 : decode cX9_orbit 39 = .ok (.getfield 258, 3) := by decide +kernel
theorem dX9_orbit_42 : decode cX9_orbit 42 = .ok (.iload_n 2, 1) := by decide +kernel
theorem dX9_orbit_43 : decode cX9_orbit 43 = .ok (.iaload, 1) := by decide +kernel
theorem dX9_orbit_44 : decode cX9_orbit 44 = .ok (.invokevirtual 122, 3) := by decide +kernel
theorem dX9_orbit_47 : decode cX9_orbit 47 = .ok (.ireturn, 1) := by decide +kernel
theorem dX9_leave_0 : decode cX9_leave 0 = .ok (.aload_n 0, 1) := by decide +kernel
theorem dX9_leave_1 : decode cX9_leave 1 = .ok (.iload_n 1, 1) := by decide +kernel
theorem dX9_leave_2 : decode cX9_leave 2 = .ok (.invokevirtual 94, 3) := by decide +kernel
theorem dX9_leave_5 : decode cX9_leave 5 = .ok (.astore_n 3, 1) := by decide +kernel
theorem dX9_leave_6 : decode cX9_leave 6 = .ok (.aload_n 3, 1) := by decide +kernel
theorem dX9_leave_7 : decode cX9_leave 7 = .ok (.ifnonnull 9, 3) := by decide +kernel
theorem dX9_leave_10 : decode cX9_leave 10 = .ok (.aload_n 0, 1) := by decide +kernel
theorem dX9_leave_11 : decode cX9_leave 11 = .ok (.iconst 1, 1) := by decide +kernel
theorem dX9_leave_12 : decode cX9_leave 12 = .ok (.invokevirtual 98, 3) := by decide +kernel
theorem dX9_leave_15 : decode cX9_leave 15 = .ok (.ireturn, 1) := by decide +kernel
theorem dX9_leave_16 : decode cX9_leave 16 = .ok (.aload_n 3, 1) := by decide +kernel
theorem dX9_leave_17 : decode cX9_leave 17 = .ok (.iload_n 2, 1) := by decide +kernel
theorem dX9_leave_18 : decode cX9_leave 18 = .ok (.invokevirtual 261, 3) := by decide +kernel
theorem dX9_leave_21 : decode cX9_leave 21 = .ok (.ifCond .ne 9, 3) := by decide +kernel
theorem dX9_leave_24 : decode cX9_leave 24 = .ok (.aload_n 0, 1) := by decide +kernel
theorem dX9_leave_25 : decode cX9_leave 25 = .ok (.iconst 2, 1) := by decide +kernel
theorem dX9_leave_26 : decode cX9_leave 26 = .ok (.invokevirtual 98, 3) := by decide +kernel
theorem dX9_leave_29 : decode cX9_leave 29 = .ok (.ireturn, 1) := by decide +kernel
theorem dX9_leave_30 : decode cX9_leave 30 = .ok (.aload_n 0, 1) := by decide +kernel
theorem dX9_leave_31 : decode cX9_leave 31 = .ok (.getfield 61, 3) := by decide +kernel
theorem dX9_leave_34 : decode cX9_leave 34 = .ok (.aload_n 3, 1) := by decide +kernel
theorem dX9_leave_35 : decode cX9_leave 35 = .ok (.aload_n 3, 1) := by decide +kernel
theorem dX9_leave_36 : decode cX9_leave 36 = .ok (.iload_n 2, 1) := by decide +kernel
theorem dX9_leave_37 : decode cX9_leave 37 = .ok (.invokevirtual 245, 3) := by decide +kernel
theorem dX9_leave_40 : decode cX9_leave 40 = .ok (.aload_n 0, 1) := by decide +kernel
theorem dX9_leave_41 : decode cX9_leave 41 = .ok (.aload_n 0, 1) := by decide +kernel
theorem dX9_leave_42 : decode cX9_leave 42 = .ok (.getfield 61, 3) := by decide +kernel
theorem dX9_leave_45 : decode cX9_leave 45 = .ok (.getfield 249, 3) := by decide +kernel
theorem dX9_leave_48 : decode cX9_leave 48 = .ok (.invokevirtual 122, 3) := by decide +kernel
theorem dX9_leave_51 : decode cX9_leave 51 = .ok (.ireturn, 1) := by decide +kernel
theorem dX9_maps_0 : decode cX9_maps 0 = .ok (.aload_n 0, 1) := by decide +kernel
theorem dX9_maps_1 : decode cX9_maps 1 = .ok (.iload_n 1, 1) := by decide +kernel
theorem dX9_maps_2 : decode cX9_maps 2 = .ok (.invokevirtual 94, 3) := by decide +kernel
theorem dX9_maps_5 : decode cX9_maps 5 = .ok (.astore_n 3, 1) := by decide +kernel
theorem dX9_maps_6 : decode cX9_maps 6 = .ok (.aload_n 0, 1) := by decide +kernel
theorem dX9_maps_7 : decode cX9_maps 7 = .ok (.iload_n 2, 1) := by decide +kernel
theorem dX9_maps_8 : decode cX9_maps 8 = .ok (.invokevirtual 94, 3) := by decide +kernel
theorem dX9_maps_11 : decode cX9_maps 11 = .ok (.astore 4, 2) := by decide +kernel
theorem dX9_maps_13 : decode cX9_maps 13 = .ok (.aload_n 3, 1) := by decide +kernel
theorem dX9_maps_14 : decode cX9_maps 14 = .ok (.ifnull 8, 3) := by decide +kernel
theorem dX9_maps_17 : decode cX9_maps 17 = .ok (.aload 4, 2) := by decide +kernel
theorem dX9_maps_19 : decode cX9_maps 19 = .ok (.ifnonnull 9, 3) := by decide +kernel
theorem dX9_maps_22 : decode cX9_maps 22 = .ok (.aload_n 0, 1) := by decide +kernel
theorem dX9_maps_23 : decode cX9_maps 23 = .ok (.iconst 1, 1) := by decide +kernel
theorem dX9_maps_24 : decode cX9_maps 24 = .ok (.invokevirtual 98, 3) := by decide +kernel
theorem dX9_maps_27 : decode cX9_maps 27 = .ok (.ireturn, 1) := by decide +kernel
theorem dX9_maps_28 : decode cX9_maps 28 = .ok (.aload_n 0, 1) := by decide +kernel
theorem dX9_maps_29 : decode cX9_maps 29 = .ok (.getfield 61, 3) := by decide +kernel
theorem dX9_maps_32 : decode cX9_maps 32 = .ok (.aload_n 3, 1) := by decide +kernel
theorem dX9_maps_33 : decode cX9_maps 33 = .ok (.aload 4, 2) := by decide +kernel
theorem dX9_maps_35 : decode cX9_maps 35 = .ok (.iconst 0, 1) := by decide +kernel
theorem dX9_maps_36 : decode cX9_maps 36 = .ok (.invokevirtual 245, 3) := by decide +kernel
theorem dX9_maps_39 : decode cX9_maps 39 = .ok (.aload_n 0, 1) := by decide +kernel
theorem dX9_maps_40 : decode cX9_maps 40 = .ok (.aload_n 0, 1) := by decide +kernel
theorem dX9_maps_41 : decode cX9_maps 41 = .ok (.getfield 61, 3) := by decide +kernel
theorem dX9_maps_44 : decode cX9_maps 44 = .ok (.getfield 249, 3) := by decide +kernel
theorem dX9_maps_47 : decode cX9_maps 47 = .ok (.invokevirtual 122, 3) := by decide +kernel
theorem dX9_maps_50 : decode cX9_maps 50 = .ok (.ireturn, 1) := by decide +kernel
theorem dX9_map_0 : decode cX9_map 0 = .ok (.aload_n 0, 1) := by decide +kernel
theorem dX9_map_1 : decode cX9_map 1 = .ok (.iload_n 1, 1) := by decide +kernel
theorem dX9_map_2 : decode cX9_map 2 = .ok (.invokevirtual 94, 3) := by decide +kernel
theorem dX9_map_5 : decode cX9_map 5 = .ok (.astore 4, 2) := by decide +kernel
theorem dX9_map_7 : decode cX9_map 7 = .ok (.aload_n 0, 1) := by decide +kernel
theorem dX9_map_8 : decode cX9_map 8 = .ok (.iload_n 2, 1) := by decide +kernel
theorem dX9_map_9 : decode cX9_map 9 = .ok (.invokevirtual 94, 3) := by decide +kernel
theorem dX9_map_12 : decode cX9_map 12 = .ok (.astore 5, 2) := by decide +kernel
theorem dX9_map_14 : decode cX9_map 14 = .ok (.aload 4, 2) := by decide +kernel
theorem dX9_map_16 : decode cX9_map 16 = .ok (.ifnull 17, 3) := by decide +kernel
theorem dX9_map_19 : decode cX9_map 19 = .ok (.aload 5, 2) := by decide +kernel
theorem dX9_map_21 : decode cX9_map 21 = .ok (.ifnull 12, 3) := by decide +kernel
theorem dX9_map_24 : decode cX9_map 24 = .ok (.aload 4, 2) := by decide +kernel
theorem dX9_map_26 : decode cX9_map 26 = .ok (.iload_n 3, 1) := by decide +kernel
theorem dX9_map_27 : decode cX9_map 27 = .ok (.invokevirtual 139, 3) := by decide +kernel
theorem dX9_map_30 : decode cX9_map 30 = .ok (.ifCond .ne 9, 3) := by decide +kernel
theorem dX9_map_33 : decode cX9_map 33 = .ok (.aload_n 0, 1) := by decide +kernel
theorem dX9_map_34 : decode cX9_map 34 = .ok (.iconst 1, 1) := by decide +kernel
theorem dX9_map_35 : decode cX9_map 35 = .ok (.invokevirtual 98, 3) := by decide +kernel
theorem dX9_map_38 : decode cX9_map 38 = .ok (.ireturn, 1) := by decide +kernel
theorem dX9_map_39 : decode cX9_map 39 = .ok (.aload_n 0, 1) := by decide +kernel
theorem dX9_map_40 : decode cX9_map 40 = .ok (.getfield 61, 3) := by decide +kernel
theorem dX9_map_43 : decode cX9_map 43 = .ok (.aload 4, 2) := by decide +kernel
theorem dX9_map_45 : decode cX9_map 45 = .ok (.aload 5, 2) := by decide +kernel
theorem dX9_map_47 : decode cX9_map 47 = .ok (.iconst 0, 1) := by decide +kernel
theorem dX9_map_48 : decode cX9_map 48 = .ok (.invokevirtual 245, 3) := by decide +kernel
theorem dX9_map_51 : decode cX9_map 51 = .ok (.aload_n 0, 1) := by decide +kernel
theorem dX9_map_52 : decode cX9_map 52 = .ok (.getfield 61, 3) := by decide +kernel
theorem dX9_map_55 : decode cX9_map 55 = .ok (.getfield 249, 3) := by decide +kernel
theorem dX9_map_58 : decode cX9_map 58 = .ok (.ifCond .ne 10, 3) := by decide +kernel
theorem dX9_map_61 : decode cX9_map 61 = .ok (.aload_n 0, 1) := by decide +kernel
theorem dX9_map_62 : decode cX9_map 62 = .ok (.bipush 6, 2) := by decide +kernel
theorem dX9_map_64 : decode cX9_map 64 = .ok (.invokevirtual 98, 3) := by decide +kernel
theorem dX9_map_67 : decode cX9_map 67 = .ok (.ireturn, 1) := by decide +kernel
theorem dX9_map_68 : decode cX9_map 68 = .ok (.aload_n 0, 1) := by decide +kernel
theorem dX9_map_69 : decode cX9_map 69 = .ok (.aload_n 0, 1) := by decide +kernel
theorem dX9_map_70 : decode cX9_map 70 = .ok (.getfield 61, 3) := by decide +kernel
theorem dX9_map_73 : decode cX9_map 73 = .ok (.getfield 264, 3) := by decide +kernel
theorem dX9_map_76 : decode cX9_map 76 = .ok (.iload_n 3, 1) := by decide +kernel
theorem dX9_map_77 : decode cX9_map 77 = .ok (.iaload, 1) := by decide +kernel
theorem dX9_map_78 : decode cX9_map 78 = .ok (.invokevirtual 122, 3) := by decide +kernel
theorem dX9_map_81 : decode cX9_map 81 = .ok (.ireturn, 1) := by decide +kernel
theorem dX9_changes_0 : decode cX9_changes 0 = .ok (.aload_n 0, 1) := by decide +kernel
theorem dX9_changes_1 : decode cX9_changes 1 = .ok (.iload_n 1, 1) := by decide +kernel
theorem dX9_changes_2 : decode cX9_changes 2 = .ok (.invokevirtual 94, 3) := by decide +kernel
theorem dX9_changes_5 : decode cX9_changes 5 = .ok (.astore_n 3, 1) := by decide +kernel
theorem dX9_changes_6 : decode cX9_changes 6 = .ok (.aload_n 0, 1) := by decide +kernel
theorem dX9_changes_7 : decode cX9_changes 7 = .ok (.iload_n 2, 1) := by decide +kernel
theorem dX9_changes_8 : decode cX9_changes 8 = .ok (.invokevirtual 94, 3) := by decide +kernel
theorem dX9_changes_11 : decode cX9_changes 11 = .ok (.astore 4, 2) := by decide +kernel
theorem dX9_changes_13 : decode cX9_changes 13 = .ok (.aload_n 3, 1) := by decide +kernel
theorem dX9_changes_14 : decode cX9_changes 14 = .ok (.ifnull 8, 3) := by decide +kernel
theorem dX9_changes_17 : decode cX9_changes 17 = .ok (.aload 4, 2) := by decide +kernel
theorem dX9_changes_19 : decode cX9_changes 19 = .ok (.ifnonnull 9, 3) := by decide +kernel
theorem dX9_changes_22 : decode cX9_changes 22 = .ok (.aload_n 0, 1) := by decide +kernel
theorem dX9_changes_23 : decode cX9_changes 23 = .ok (.iconst 1, 1) := by decide +kernel
theorem dX9_changes_24 : decode cX9_changes 24 = .ok (.invokevirtual 98, 3) := by decide +kernel
theorem dX9_changes_27 : decode cX9_changes 27 = .ok (.ireturn, 1) := by decide +kernel
theorem dX9_changes_28 : decode cX9_changes 28 = .ok (.aload_n 3, 1) := by decide +kernel
theorem dX9_changes_29 : decode cX9_changes 29 = .ok (.getfield 119, 3) := by decide +kernel
theorem dX9_changes_32 : decode cX9_changes 32 = .ok (.aload 4, 2) := by decide +kernel
theorem dX9_changes_34 : decode cX9_changes 34 = .ok (.getfield 119, 3) := by decide +kernel
theorem dX9_changes_37 : decode cX9_changes 37 = .ok (.if_icmp .eq 9, 3) := by decide +kernel
theorem dX9_changes_40 : decode cX9_changes 40 = .ok (.aload_n 0, 1) := by decide +kernel
theorem dX9_changes_41 : decode cX9_changes 41 = .ok (.iconst 5, 1) := by decide +kernel
theorem dX9_changes_42 : decode cX9_changes 42 = .ok (.invokevirtual 98, 3) := by decide +kernel
theorem dX9_changes_45 : decode cX9_changes 45 = .ok (.ireturn, 1) := by decide +kernel
theorem dX9_changes_46 : decode cX9_changes 46 = .ok (.aload_n 0, 1) := by decide +kernel
theorem dX9_changes_47 : decode cX9_changes 47 = .ok (.aload_n 0, 1) := by decide +kernel
theorem dX9_changes_48 : decode cX9_changes 48 = .ok (.getfield 61, 3) := by decide +kernel
theorem dX9_changes_51 : decode cX9_changes 51 = .ok (.aload_n 3, 1) := by decide +kernel
theorem dX9_changes_52 : decode cX9_changes 52 = .ok (.aload 4, 2) := by decide +kernel
theorem dX9_changes_54 : decode cX9_changes 54 = .ok (.invokevirtual 267, 3) := by decide +kernel
theorem dX9_changes_57 : decode cX9_changes 57 = .ok (.invokevirtual 122, 3) := by decide +kernel
theorem dX9_changes_60 : decode cX9_changes 60 = .ok (.ireturn, 1) := by decide +kernel
theorem dX9_told_0 : decode cX9_told 0 = .ok (.aload_n 0, 1) := by decide +kernel
theorem dX9_told_1 : decode cX9_told 1 = .ok (.iload_n 1, 1) := by decide +kernel
theorem dX9_told_2 : decode cX9_told 2 = .ok (.invokevirtual 94, 3) := by decide +kernel
theorem dX9_told_5 : decode cX9_told 5 = .ok (.astore_n 3, 1) := by decide +kernel
theorem dX9_told_6 : decode cX9_told 6 = .ok (.aload_n 0, 1) := by decide +kernel
theorem dX9_told_7 : decode cX9_told 7 = .ok (.iload_n 2, 1) := by decide +kernel
theorem dX9_told_8 : decode cX9_told 8 = .ok (.invokevirtual 94, 3) := by decide +kernel
theorem dX9_told_11 : decode cX9_told 11 = .ok (.astore 4, 2) := by decide +kernel
theorem dX9_told_13 : decode cX9_told 13 = .ok (.aload_n 3, 1) := by decide +kernel
theorem dX9_told_14 : decode cX9_told 14 = .ok (.ifnull 8, 3) := by decide +kernel
theorem dX9_told_17 : decode cX9_told 17 = .ok (.aload 4, 2) := by decide +kernel
theorem dX9_told_19 : decode cX9_told 19 = .ok (.ifnonnull 9, 3) := by decide +kernel
theorem dX9_told_22 : decode cX9_told 22 = .ok (.aload_n 0, 1) := by decide +kernel
theorem dX9_told_23 : decode cX9_told 23 = .ok (.iconst 1, 1) := by decide +kernel
theorem dX9_told_24 : decode cX9_told 24 = .ok (.invokevirtual 98, 3) := by decide +kernel
theorem dX9_told_27 : decode cX9_told 27 = .ok (.ireturn, 1) := by decide +kernel
theorem dX9_told_28 : decode cX9_told 28 = .ok (.aload_n 3, 1) := by decide +kernel
theorem dX9_told_29 : decode cX9_told 29 = .ok (.getfield 119, 3) := by decide +kernel
theorem dX9_told_32 : decode cX9_told 32 = .ok (.aload 4, 2) := by decide +kernel
theorem dX9_told_34 : decode cX9_told 34 = .ok (.getfield 119, 3) := by decide +kernel
theorem dX9_told_37 : decode cX9_told 37 = .ok (.if_icmp .eq 9, 3) := by decide +kernel
theorem dX9_told_40 : decode cX9_told 40 = .ok (.aload_n 0, 1) := by decide +kernel
theorem dX9_told_41 : decode cX9_told 41 = .ok (.iconst 5, 1) := by decide +kernel
theorem dX9_told_42 : decode cX9_told 42 = .ok (.invokevirtual 98, 3) := by decide +kernel
theorem dX9_told_45 : decode cX9_told 45 = .ok (.ireturn, 1) := by decide +kernel
theorem dX9_told_46 : decode cX9_told 46 = .ok (.aload_n 0, 1) := by decide +kernel
theorem dX9_told_47 : decode cX9_told 47 = .ok (.aload_n 0, 1) := by decide +kernel
theorem dX9_told_48 : decode cX9_told 48 = .ok (.aload_n 3, 1) := by decide +kernel
theorem dX9_told_49 : decode cX9_told 49 = .ok (.aload 4, 2) := by decide +kernel
theorem dX9_told_51 : decode cX9_told 51 = .ok (.invokevirtual 271, 3) := by decide +kernel
theorem dX9_told_54 : decode cX9_told 54 = .ok (.invokevirtual 122, 3) := by decide +kernel
theorem dX9_told_57 : decode cX9_told 57 = .ok (.ireturn, 1) := by decide +kernel
theorem dX9_cards_0 : decode cX9_cards 0 = .ok (.aload_n 0, 1) := by decide +kernel
theorem dX9_cards_1 : decode cX9_cards 1 = .ok (.iload_n 1, 1) := by decide +kernel
theorem dX9_cards_2 : decode cX9_cards 2 = .ok (.invokevirtual 94, 3) := by decide +kernel
theorem dX9_cards_5 : decode cX9_cards 5 = .ok (.astore_n 3, 1) := by decide +kernel
theorem dX9_cards_6 : decode cX9_cards 6 = .ok (.aload_n 3, 1) := by decide +kernel
theorem dX9_cards_7 : decode cX9_cards 7 = .ok (.ifnull 12, 3) := by decide +kernel
theorem dX9_cards_10 : decode cX9_cards 10 = .ok (.iload_n 2, 1) := by decide +kernel
theorem dX9_cards_11 : decode cX9_cards 11 = .ok (.ifCond .lt 8, 3) := by decide +kernel
theorem dX9_cards_14 : decode cX9_cards 14 = .ok (.iload_n 2, 1) := by decide +kernel
theorem dX9_cards_15 : decode cX9_cards 15 = .ok (.iconst 1, 1) := by decide +kernel
theorem dX9_cards_16 : decode cX9_cards 16 = .ok (.if_icmp .le 9, 3) := by decide +kernel
theorem dX9_cards_19 : decode cX9_cards 19 = .ok (.aload_n 0, 1) := by decide +kernel
theorem dX9_cards_20 : decode cX9_cards 20 = .ok (.iconst 1, 1) := by decide +kernel
theorem dX9_cards_21 : decode cX9_cards 21 = .ok (.invokevirtual 98, 3) := by decide +kernel
theorem dX9_cards_24 : decode cX9_cards 24 = .ok (.ireturn, 1) := by decide +kernel
theorem dX9_cards_25 : decode cX9_cards 25 = .ok (.aload_n 3, 1) := by decide +kernel
theorem dX9_cards_26 : decode cX9_cards 26 = .ok (.getfield 119, 3) := by decide +kernel
theorem dX9_cards_29 : decode cX9_cards 29 = .ok (.iconst 1, 1) := by decide +kernel
theorem dX9_cards_30 : decode cX9_cards 30 = .ok (.if_icmp .ne 9, 3) := by decide +kernel
theorem dX9_cards_33 : decode cX9_cards 33 = .ok (.aload_n 0, 1) := by decide +kernel
theorem dX9_cards_34 : decode cX9_cards 34 = .ok (.iconst 5, 1) := by decide +kernel
theorem dX9_cards_35 : decode cX9_cards 35 = .ok (.invokevirtual 98, 3) := by decide +kernel
theorem dX9_cards_38 : decode cX9_cards 38 = .ok (.ireturn, 1) := by decide +kernel
theorem dX9_cards_39 : decode cX9_cards 39 = .ok (.aload_n 0, 1) := by decide +kernel
theorem dX9_cards_40 : decode cX9_cards 40 = .ok (.aload_n 3, 1) := by decide +kernel
theorem dX9_cards_41 : decode cX9_cards 41 = .ok (.invokevirtual 274, 3) := by decide +kernel
theorem dX9_cards_44 : decode cX9_cards 44 = .ok (.aload_n 0, 1) := by decide +kernel
theorem dX9_cards_45 : decode cX9_cards 45 = .ok (.iload_n 2, 1) := by decide +kernel
theorem dX9_cards_46 : decode cX9_cards 46 = .ok (.ifCond .ne 14, 3) := by decide +kernel
theorem dX9_cards_49 : decode cX9_cards 49 = .ok (.aload_n 0, 1) := by decide +kernel
theorem dX9_cards_50 : decode cX9_cards 50 = .ok (.aload_n 3, 1) := by decide +kernel
theorem dX9_cards_51 : decode cX9_cards 51 = .ok (.getfield 119, 3) := by decide +kernel
theorem dX9_cards_54 : decode cX9_cards 54 = .ok (.invokevirtual 277, 3) := by decide +kernel
theorem dX9_cards_57 : decode cX9_cards 57 = .ok (.goto 12, 3) := by decide +kernel
theorem dX9_cards_60 : decode cX9_cards 60 = .ok (.aload_n 0, 1) := by decide +kernel
theorem dX9_cards_61 : decode cX9_cards 61 = .ok (.iconst 0, 1) := by decide +kernel
theorem dX9_cards_62 : decode cX9_cards 62 = .ok (.aload_n 3, 1) := by decide +kernel
theorem dX9_cards_63 : decode cX9_cards 63 = .ok (.getfield 119, 3) := by decide +kernel
theorem dX9_cards_66 : decode cX9_cards 66 = .ok (.invokevirtual 280, 3) := by decide +kernel
theorem dX9_cards_69 : decode cX9_cards 69 = .ok (.invokevirtual 122, 3) := by decide +kernel
theorem dX9_cards_72 : decode cX9_cards 72 = .ok (.ireturn, 1) := by decide +kernel
theorem dX9_turned_0 : decode cX9_turned 0 = .ok (.aload_n 0, 1) := by decide +kernel
theorem dX9_turned_1 : decode cX9_turned 1 = .ok (.iload_n 1, 1) := by decide +kernel
theorem dX9_turned_2 : decode cX9_turned 2 = .ok (.invokevirtual 94, 3) := by decide +kernel
theorem dX9_turned_5 : decode cX9_turned 5 = .ok (.astore_n 2, 1) := by decide +kernel
theorem dX9_turned_6 : decode cX9_turned 6 = .ok (.aload_n 2, 1) := by decide +kernel
theorem dX9_turned_7 : decode cX9_turned 7 = .ok (.ifnonnull 9, 3) := by decide +kernel
theorem dX9_turned_10 : decode cX9_turned 10 = .ok (.aload_n 0, 1) := by decide +kernel
theorem dX9_turned_11 : decode cX9_turned 11 = .ok (.iconst 1, 1) := by decide +kernel
theorem dX9_turned_12 : decode cX9_turned 12 = .ok (.invokevirtual 98, 3) := by decide +kernel
theorem dX9_turned_15 : decode cX9_turned 15 = .ok (.ireturn, 1) := by decide +kernel
theorem dX9_turned_16 : decode cX9_turned 16 = .ok (.aload_n 0, 1) := by decide +kernel
theorem dX9_turned_17 : decode cX9_turned 17 = .ok (.getfield 66, 3) := by decide +kernel
theorem dX9_turned_20 : decode cX9_turned 20 = .ok (.aload_n 2, 1) := by decide +kernel
theorem dX9_turned_21 : decode cX9_turned 21 = .ok (.invokevirtual 115, 3) := by decide +kernel
theorem dX9_turned_24 : decode cX9_turned 24 = .ok (.aload_n 0, 1) := by decide +kernel
theorem dX9_turned_25 : decode cX9_turned 25 = .ok (.getfield 66, 3) := by decide +kernel
theorem dX9_turned_28 : decode cX9_turned 28 = .ok (.invokevirtual 283, 3) := by decide +kernel
theorem dX9_turned_31 : decode cX9_turned 31 = .ok (.aload_n 0, 1) := by decide +kernel
theorem dX9_turned_32 : decode cX9_turned 32 = .ok (.getfield 61, 3) := by decide +kernel
theorem dX9_turned_35 : decode cX9_turned 35 = .ok (.aload_n 2, 1) := by decide +kernel
theorem dX9_turned_36 : decode cX9_turned 36 = .ok (.aload_n 0, 1) := by decide +kernel
theorem dX9_turned_37 : decode cX9_turned 37 = .ok (.getfield 66, 3) := by decide +kernel
theorem dX9_turned_40 : decode cX9_turned 40 = .ok (.iconst 0, 1) := by decide +kernel
theorem dX9_turned_41 : decode cX9_turned 41 = .ok (.invokevirtual 245, 3) := by decide +kernel
theorem dX9_turned_44 : decode cX9_turned 44 = .ok (.aload_n 0, 1) := by decide +kernel
theorem dX9_turned_45 : decode cX9_turned 45 = .ok (.aload_n 0, 1) := by decide +kernel
theorem dX9_turned_46 : decode cX9_turned 46 = .ok (.getfield 61, 3) := by decide +kernel
theorem dX9_turned_49 : decode cX9_turned 49 = .ok (.getfield 249, 3) := by decide +kernel
theorem dX9_turned_52 : decode cX9_turned 52 = .ok (.ifCond .le 7, 3) := by decide +kernel
theorem dX9_turned_55 : decode cX9_turned 55 = .ok (.iconst 1, 1) := by decide +kernel
theorem dX9_turned_56 : decode cX9_turned 56 = .ok (.goto 4, 3) := by decide +kernel
theorem dX9_turned_59 : decode cX9_turned 59 = .ok (.iconst 0, 1) := by decide +kernel
theorem dX9_turned_60 : decode cX9_turned 60 = .ok (.invokevirtual 122, 3) := by decide +kernel
theorem dX9_turned_63 : decode cX9_turned 63 = .ok (.ireturn, 1) := by decide +kernel
theorem dX9_base_0 : decode cX9_base 0 = .ok (.aload_n 0, 1) := by decide +kernel
theorem dX9_base_1 : decode cX9_base 1 = .ok (.iload_n 1, 1) := by decide +kernel
theorem dX9_base_2 : decode cX9_base 2 = .ok (.invokevirtual 94, 3) := by decide +kernel
theorem dX9_base_5 : decode cX9_base 5 = .ok (.astore_n 3, 1) := by decide +kernel
theorem dX9_base_6 : decode cX9_base 6 = .ok (.aload_n 3, 1) := by decide +kernel
theorem dX9_base_7 : decode cX9_base 7 = .ok (.ifnonnull 9, 3) := by decide +kernel
theorem dX9_base_10 : decode cX9_base 10 = .ok (.aload_n 0, 1) := by decide +kernel
theorem dX9_base_11 : decode cX9_base 11 = .ok (.iconst 1, 1) := by decide +kernel
theorem dX9_base_12 : decode cX9_base 12 = .ok (.invokevirtual 98, 3) := by decide +kernel
theorem dX9_base_15 : decode cX9_base 15 = .ok (.ireturn, 1) := by decide +kernel
theorem dX9_base_16 : decode cX9_base 16 = .ok (.aload_n 3, 1) := by decide +kernel
theorem dX9_base_17 : decode cX9_base 17 = .ok (.iload_n 2, 1) := by decide +kernel
theorem dX9_base_18 : decode cX9_base 18 = .ok (.invokevirtual 261, 3) := by decide +kernel
theorem dX9_base_21 : decode cX9_base 21 = .ok (.ifCond .ne 9, 3) := by decide +kernel
theorem dX9_base_24 : decode cX9_base 24 = .ok (.aload_n 0, 1) := by decide +kernel
theorem dX9_base_25 : decode cX9_base 25 = .ok (.iconst 2, 1) := by decide +kernel
theorem dX9_base_26 : decode cX9_base 26 = .ok (.invokevirtual 98, 3) := by decide +kernel
theorem dX9_base_29 : decode cX9_base 29 = .ok (.ireturn, 1) := by decide +kernel
theorem dX9_base_30 : decode cX9_base 30 = .ok (.aload_n 0, 1) := by decide +kernel
theorem dX9_base_31 : decode cX9_base 31 = .ok (.getfield 55, 3) := by decide +kernel
theorem dX9_base_34 : decode cX9_base 34 = .ok (.aload_n 3, 1) := by decide +kernel
theorem dX9_base_35 : decode cX9_base 35 = .ok (.invokevirtual 168, 3) := by decide +kernel
theorem dX9_base_38 : decode cX9_base 38 = .ok (.aload_n 0, 1) := by decide +kernel
theorem dX9_base_39 : decode cX9_base 39 = .ok (.aload_n 0, 1) := by decide +kernel
theorem dX9_base_40 : decode cX9_base 40 = .ok (.aload_n 3, 1) := by decide +kernel
theorem dX9_base_41 : decode cX9_base 41 = .ok (.iload_n 2, 1) := by decide +kernel
theorem dX9_base_42 : decode cX9_base 42 = .ok (.invokevirtual 286, 3) := by decide +kernel
theorem dX9_base_45 : decode cX9_base 45 = .ok (.invokevirtual 122, 3) := by decide +kernel
theorem dX9_base_48 : decode cX9_base 48 = .ok (.ireturn, 1) := by decide +kernel
theorem dX9_fewest_0 : decode cX9_fewest 0 = .ok (.aload_n 0, 1) := by decide +kernel
theorem dX9_fewest_1 : decode cX9_fewest 1 = .ok (.iload_n 1, 1) := by decide +kernel
theorem dX9_fewest_2 : decode cX9_fewest 2 = .ok (.invokevirtual 94, 3) := by decide +kernel
theorem dX9_fewest_5 : decode cX9_fewest 5 = .ok (.astore_n 2, 1) := by decide +kernel
theorem dX9_fewest_6 : decode cX9_fewest 6 = .ok (.aload_n 2, 1) := by decide +kernel
theorem dX9_fewest_7 : decode cX9_fewest 7 = .ok (.ifnonnull 9, 3) := by decide +kernel
theorem dX9_fewest_10 : decode cX9_fewest 10 = .ok (.aload_n 0, 1) := by decide +kernel
theorem dX9_fewest_11 : decode cX9_fewest 11 = .ok (.iconst 1, 1) := by decide +kernel
theorem dX9_fewest_12 : decode cX9_fewest 12 = .ok (.invokevirtual 98, 3) := by decide +kernel
theorem dX9_fewest_15 : decode cX9_fewest 15 = .ok (.ireturn, 1) := by decide +kernel
theorem dX9_fewest_16 : decode cX9_fewest 16 = .ok (.aload_n 0, 1) := by decide +kernel
theorem dX9_fewest_17 : decode cX9_fewest 17 = .ok (.aload_n 0, 1) := by decide +kernel
theorem dX9_fewest_18 : decode cX9_fewest 18 = .ok (.aload_n 2, 1) := by decide +kernel
theorem dX9_fewest_19 : decode cX9_fewest 19 = .ok (.invokevirtual 290, 3) := by decide +kernel
theorem dX9_fewest_22 : decode cX9_fewest 22 = .ok (.invokevirtual 122, 3) := by decide +kernel
theorem dX9_fewest_25 : decode cX9_fewest 25 = .ok (.ireturn, 1) := by decide +kernel
theorem dX9_link_0 : decode cX9_link 0 = .ok (.aload_n 0, 1) := by decide +kernel
theorem dX9_link_1 : decode cX9_link 1 = .ok (.iload_n 1, 1) := by decide +kernel
theorem dX9_link_2 : decode cX9_link 2 = .ok (.invokevirtual 94, 3) := by decide +kernel
theorem dX9_link_5 : decode cX9_link 5 = .ok (.astore 5, 2) := by decide +kernel
theorem dX9_link_7 : decode cX9_link 7 = .ok (.aload 5, 2) := by decide +kernel
theorem dX9_link_9 : decode cX9_link 9 = .ok (.ifnull 21, 3) := by decide +kernel
theorem dX9_link_12 : decode cX9_link 12 = .ok (.aload 5, 2) := by decide +kernel
theorem dX9_link_14 : decode cX9_link 14 = .ok (.iload_n 2, 1) := by decide +kernel
theorem dX9_link_15 : decode cX9_link 15 = .ok (.invokevirtual 139, 3) := by decide +kernel
theorem dX9_link_18 : decode cX9_link 18 = .ok (.ifCond .eq 12, 3) := by decide +kernel
theorem dX9_link_21 : decode cX9_link 21 = .ok (.aload 5, 2) := by decide +kernel
theorem dX9_link_23 : decode cX9_link 23 = .ok (.iload_n 3, 1) := by decide +kernel
theorem dX9_link_24 : decode cX9_link 24 = .ok (.invokevirtual 139, 3) := by decide +kernel
theorem dX9_link_27 : decode cX9_link 27 = .ok (.ifCond .ne 9, 3) := by decide +kernel
theorem dX9_link_30 : decode cX9_link 30 = .ok (.aload_n 0, 1) := by decide +kernel
theorem dX9_link_31 : decode cX9_link 31 = .ok (.iconst 1, 1) := by decide +kernel
theorem dX9_link_32 : decode cX9_link 32 = .ok (.invokevirtual 98, 3) := by decide +kernel
theorem dX9_link_35 : decode cX9_link 35 = .ok (.ireturn, 1) := by decide +kernel
theorem dX9_link_36 : decode cX9_link 36 = .ok (.iload_n 2, 1) := by decide +kernel
theorem dX9_link_37 : decode cX9_link 37 = .ok (.iload_n 3, 1) := by decide +kernel
theorem dX9_link_38 : decode cX9_link 38 = .ok (.if_icmp .ne 9, 3) := by decide +kernel
theorem dX9_link_41 : decode cX9_link 41 = .ok (.aload_n 0, 1) := by decide +kernel
theorem dX9_link_42 : decode cX9_link 42 = .ok (.iconst 5, 1) := by decide +kernel
theorem dX9_link_43 : decode cX9_link 43 = .ok (.invokevirtual 98, 3) := by decide +kernel
theorem dX9_link_46 : decode cX9_link 46 = .ok (.ireturn, 1) := by decide +kernel
theorem dX9_link_47 : decode cX9_link 47 = .ok (.iload 4, 2) := by decide +kernel
theorem dX9_link_49 : decode cX9_link 49 = .ok (.ifCond .lt 9, 3) := by decide +kernel
theorem dX9_link_52 : decode cX9_link 52 = .ok (.iload 4, 2) := by decide +kernel
theorem dX9_link_54 : decode cX9_link 54 = .ok (.iconst 4, 1) := by decide +kernel
theorem dX9_link_55 : decode cX9_link 55 = .ok (.if_icmp .lt 9, 3) := by decide +kernel
theorem dX9_link_58 : decode cX9_link 58 = .ok (.aload_n 0, 1) := by decide +kernel
theorem dX9_link_59 : decode cX9_link 59 = .ok (.iconst 2, 1) := by decide +kernel
theorem dX9_link_60 : decode cX9_link 60 = .ok (.invokevirtual 98, 3) := by decide +kernel
theorem dX9_link_63 : decode cX9_link 63 = .ok (.ireturn, 1) := by decide +kernel
theorem dX9_link_64 : decode cX9_link 64 = .ok (.aload_n 0, 1) := by decide +kernel
theorem dX9_link_65 : decode cX9_link 65 = .ok (.getfield 37, 3) := by decide +kernel
theorem dX9_link_68 : decode cX9_link 68 = .ok (.iload_n 1, 1) := by decide +kernel
theorem dX9_link_69 : decode cX9_link 69 = .ok (.aload 5, 2) := by decide +kernel
theorem dX9_link_71 : decode cX9_link 71 = .ok (.invokevirtual 108, 3) := by decide +kernel
theorem dX9_link_74 : decode cX9_link 74 = .ok (.aload 5, 2) := by decide +kernel
theorem dX9_link_76 : decode cX9_link 76 = .ok (.getfield 147, 3) := by decide +kernel
theorem dX9_link_79 : decode cX9_link 79 = .ok (.iload_n 2, 1) := by decide +kernel
theorem dX9_link_80 : decode cX9_link 80 = .ok (.aaload, 1) := by decide +kernel
theorem dX9_link_81 : decode cX9_link 81 = .ok (.iload_n 3, 1) := by decide +kernel
theorem dX9_link_82 : decode cX9_link 82 = .ok (.iaload, 1) := by decide +kernel
theorem dX9_link_83 : decode cX9_link 83 = .ok (.istore 6, 2) := by decide +kernel
theorem dX9_link_85 : decode cX9_link 85 = .ok (.aload 5, 2) := by decide +kernel
theorem dX9_link_87 : decode cX9_link 87 = .ok (.iload_n 2, 1) := by decide +kernel
theorem dX9_link_88 : decode cX9_link 88 = .ok (.iload_n 3, 1) := by decide +kernel
theorem dX9_link_89 : decode cX9_link 89 = .ok (.iload 4, 2) := by decide +kernel
theorem dX9_link_91 : decode cX9_link 91 = .ok (.invokevirtual 294, 3) := by decide +kernel
theorem dX9_link_94 : decode cX9_link 94 = .ok (.aload_n 0, 1) := by decide +kernel
theorem dX9_link_95 : decode cX9_link 95 = .ok (.iload 6, 2) := by decide +kernel
theorem dX9_link_97 : decode cX9_link 97 = .ok (.invokevirtual 122, 3) := by decide +kernel
theorem dX9_link_100 : decode cX9_link 100 = .ok (.ireturn, 1) := by decide +kernel
theorem dX9_paint_0 : decode cX9_paint 0 = .ok (.aload_n 0, 1) := by decide +kernel
theorem dX9_paint_1 : decode cX9_paint 1 = .ok (.iload_n 1, 1) := by decide +kernel
theorem dX9_paint_2 : decode cX9_paint 2 = .ok (.invokevirtual 94, 3) := by decide +kernel
theorem dX9_paint_5 : decode cX9_paint 5 = .ok (.astore 4, 2) := by decide +kernel
theorem dX9_paint_7 : decode cX9_paint 7 = .ok (.aload 4, 2) := by decide +kernel
theorem dX9_paint_9 : decode cX9_paint 9 = .ok (.ifnull 12, 3) := by decide +kernel
theorem dX9_paint_12 : decode cX9_paint 12 = .ok (.aload 4, 2) := by decide +kernel
theorem dX9_paint_14 : decode cX9_paint 14 = .ok (.iload_n 2, 1) := by decide +kernel
theorem dX9_paint_15 : decode cX9_paint 15 = .ok (.invokevirtual 139, 3) := by decide +kernel
theorem dX9_paint_18 : decode cX9_paint 18 = .ok (.ifCond .ne 9, 3) := by decide +kernel
theorem dX9_paint_21 : decode cX9_paint 21 = .ok (.aload_n 0, 1) := by decide +kernel
theorem dX9_paint_22 : decode cX9_paint 22 = .ok (.iconst 1, 1) := by decide +kernel
theorem dX9_paint_23 : decode cX9_paint 23 = .ok (.invokevirtual 98, 3) := by decide +kernel
theorem dX9_paint_26 : decode cX9_paint 26 = .ok (.ireturn, 1) := by decide +kernel
theorem dX9_paint_27 : decode cX9_paint 27 = .ok (.iload_n 3, 1) := by decide +kernel
theorem dX9_paint_28 : decode cX9_paint 28 = .ok (.ifCond .lt 9, 3) := by decide +kernel
theorem dX9_paint_31 : decode cX9_paint 31 = .ok (.iload_n 3, 1) := by decide +kernel
theorem dX9_paint_32 : decode cX9_paint 32 = .ok (.bipush 10, 2) := by decide +kernel
theorem dX9_paint_34 : decode cX9_paint 34 = .ok (.if_icmp .lt 9, 3) := by decide +kernel
theorem dX9_paint_37 : decode cX9_paint 37 = .ok (.aload_n 0, 1) := by decide +kernel
theorem dX9_paint_38 : decode cX9_paint 38 = .ok (.iconst 2, 1) := by decide +kernel
theorem dX9_paint_39 : decode cX9_paint 39 = .ok (.invokevirtual 98, 3) := by decide +kernel
theorem dX9_paint_42 : decode cX9_paint 42 = .ok (.ireturn, 1) := by decide +kernel
theorem dX9_paint_43 : decode cX9_paint 43 = .ok (.aload_n 0, 1) := by decide +kernel
theorem dX9_paint_44 : decode cX9_paint 44 = .ok (.getfield 37, 3) := by decide +kernel
theorem dX9_paint_47 : decode cX9_paint 47 = .ok (.iload_n 1, 1) := by decide +kernel
theorem dX9_paint_48 : decode cX9_paint 48 = .ok (.aload 4, 2) := by decide +kernel
theorem dX9_paint_50 : decode cX9_paint 50 = .ok (.invokevirtual 108, 3) := by decide +kernel
theorem dX9_paint_53 : decode cX9_paint 53 = .ok (.aload 4, 2) := by decide +kernel
theorem dX9_paint_55 : decode cX9_paint 55 = .ok (.getfield 143, 3) := by decide +kernel
theorem dX9_paint_58 : decode cX9_paint 58 = .ok (.iload_n 2, 1) := by decide +kernel
theorem dX9_paint_59 : decode cX9_paint 59 = .ok (.iaload, 1) := by decide +kernel
theorem dX9_paint_60 : decode cX9_paint 60 = .ok (.istore 5, 2) := by decide +kernel
theorem dX9_paint_62 : decode cX9_paint 62 = .ok (.aload 4, 2) := by decide +kernel
theorem dX9_paint_64 : decode cX9_paint 64 = .ok (.getfield 143, 3) := by decide +kernel
theorem dX9_paint_67 : decode cX9_paint 67 = .ok (.iload_n 2, 1) := by decide +kernel
theorem dX9_paint_68 : decode cX9_paint 68 = .ok (.iload_n 3, 1) := by decide +kernel
theorem dX9_paint_69 : decode cX9_paint 69 = .ok (.iastore, 1) := by decide +kernel
theorem dX9_paint_70 : decode cX9_paint 70 = .ok (.aload_n 0, 1) := by decide +kernel
theorem dX9_paint_71 : decode cX9_paint 71 = .ok (.iload 5, 2) := by decide +kernel
theorem dX9_paint_73 : decode cX9_paint 73 = .ok (.invokevirtual 122, 3) := by decide +kernel
theorem dX9_paint_76 : decode cX9_paint 76 = .ok (.ireturn, 1) := by decide +kernel
theorem dX9_swap_0 : decode cX9_swap 0 = .ok (.aload_n 0, 1) := by decide +kernel
theorem dX9_swap_1 : decode cX9_swap 1 = .ok (.iload_n 1, 1) := by decide +kernel
theorem dX9_swap_2 : decode cX9_swap 2 = .ok (.invokevirtual 94, 3) := by decide +kernel
theorem dX9_swap_5 : decode cX9_swap 5 = .ok (.astore 4, 2) := by decide +kernel
theorem dX9_swap_7 : decode cX9_swap 7 = .ok (.aload 4, 2) := by decide +kernel
theorem dX9_swap_9 : decode cX9_swap 9 = .ok (.ifnull 21, 3) := by decide +kernel
theorem dX9_swap_12 : decode cX9_swap 12 = .ok (.aload 4, 2) := by decide +kernel
theorem dX9_swap_14 : decode cX9_swap 14 = .ok (.iload_n 2, 1) := by decide +kernel
theorem dX9_swap_15 : decode cX9_swap 15 = .ok (.invokevirtual 139, 3) := by decide +kernel
theorem dX9_swap_18 : decode cX9_swap 18 = .ok (.ifCond .eq 12, 3) := by decide +kernel
theorem dX9_swap_21 : decode cX9_swap 21 = .ok (.aload 4, 2) := by decide +kernel
theorem dX9_swap_23 : decode cX9_swap 23 = .ok (.iload_n 3, 1) := by decide +kernel
theorem dX9_swap_24 : decode cX9_swap 24 = .ok (.invokevirtual 139, 3) := by decide +kernel
theorem dX9_swap_27 : decode cX9_swap 27 = .ok (.ifCond .ne 9, 3) := by decide +kernel
theorem dX9_swap_30 : decode cX9_swap 30 = .ok (.aload_n 0, 1) := by decide +kernel
theorem dX9_swap_31 : decode cX9_swap 31 = .ok (.iconst 1, 1) := by decide +kernel
theorem dX9_swap_32 : decode cX9_swap 32 = .ok (.invokevirtual 98, 3) := by decide +kernel
theorem dX9_swap_35 : decode cX9_swap 35 = .ok (.ireturn, 1) := by decide +kernel
theorem dX9_swap_36 : decode cX9_swap 36 = .ok (.iload_n 2, 1) := by decide +kernel
theorem dX9_swap_37 : decode cX9_swap 37 = .ok (.iload_n 3, 1) := by decide +kernel
theorem dX9_swap_38 : decode cX9_swap 38 = .ok (.if_icmp .ne 9, 3) := by decide +kernel
theorem dX9_swap_41 : decode cX9_swap 41 = .ok (.aload_n 0, 1) := by decide +kernel
theorem dX9_swap_42 : decode cX9_swap 42 = .ok (.iconst 5, 1) := by decide +kernel
theorem dX9_swap_43 : decode cX9_swap 43 = .ok (.invokevirtual 98, 3) := by decide +kernel
theorem dX9_swap_46 : decode cX9_swap 46 = .ok (.ireturn, 1) := by decide +kernel
theorem dX9_swap_47 : decode cX9_swap 47 = .ok (.aload_n 0, 1) := by decide +kernel
theorem dX9_swap_48 : decode cX9_swap 48 = .ok (.getfield 37, 3) := by decide +kernel
theorem dX9_swap_51 : decode cX9_swap 51 = .ok (.iload_n 1, 1) := by decide +kernel
theorem dX9_swap_52 : decode cX9_swap 52 = .ok (.aload 4, 2) := by decide +kernel
theorem dX9_swap_54 : decode cX9_swap 54 = .ok (.invokevirtual 108, 3) := by decide +kernel
theorem dX9_swap_57 : decode cX9_swap 57 = .ok (.aload 4, 2) := by decide +kernel
theorem dX9_swap_59 : decode cX9_swap 59 = .ok (.iload_n 2, 1) := by decide +kernel
theorem dX9_swap_60 : decode cX9_swap 60 = .ok (.iload_n 3, 1) := by decide +kernel
theorem dX9_swap_61 : decode cX9_swap 61 = .ok (.invokevirtual 298, 3) := by decide +kernel
theorem dX9_swap_64 : decode cX9_swap 64 = .ok (.aload_n 0, 1) := by decide +kernel
theorem dX9_swap_65 : decode cX9_swap 65 = .ok (.aload 4, 2) := by decide +kernel
theorem dX9_swap_67 : decode cX9_swap 67 = .ok (.getfield 151, 3) := by decide +kernel
theorem dX9_swap_70 : decode cX9_swap 70 = .ok (.iconst 0, 1) := by decide +kernel
theorem dX9_swap_71 : decode cX9_swap 71 = .ok (.aaload, 1) := by decide +kernel
theorem dX9_swap_72 : decode cX9_swap 72 = .ok (.iload_n 2, 1) := by decide +kernel
theorem dX9_swap_73 : decode cX9_swap 73 = .ok (.iaload, 1) := by decide +kernel
theorem dX9_swap_74 : decode cX9_swap 74 = .ok (.aload 4, 2) := by decide +kernel
theorem dX9_swap_76 : decode cX9_swap 76 = .ok (.getfield 151, 3) := by decide +kernel
theorem dX9_swap_79 : decode cX9_swap 79 = .ok (.iconst 0, 1) := by decide +kernel
theorem dX9_swap_80 : decode cX9_swap 80 = .ok (.aaload, 1) := by decide +kernel
theorem dX9_swap_81 : decode cX9_swap 81 = .ok (.iload_n 3, 1) := by decide +kernel
theorem dX9_swap_82 : decode cX9_swap 82 = .ok (.iaload, 1) := by decide +kernel
theorem dX9_swap_83 : decode cX9_swap 83 = .ok (.iand, 1) := by decide +kernel
theorem dX9_swap_84 : decode cX9_swap 84 = .ok (.invokestatic 154, 3) := by decide +kernel
theorem dX9_swap_87 : decode cX9_swap 87 = .ok (.invokevirtual 122, 3) := by decide +kernel
theorem dX9_swap_90 : decode cX9_swap 90 = .ok (.ireturn, 1) := by decide +kernel
theorem dX9_shuffle_0 : decode cX9_shuffle 0 = .ok (.aload_n 0, 1) := by decide +kernel
theorem dX9_shuffle_1 : decode cX9_shuffle 1 = .ok (.iload_n 1, 1) := by decide +kernel
theorem dX9_shuffle_2 : decode cX9_shuffle 2 = .ok (.invokevirtual 94, 3) := by decide +kernel
theorem dX9_shuffle_5 : decode cX9_shuffle 5 = .ok (.astore_n 3, 1) := by decide +kernel
theorem dX9_shuffle_6 : decode cX9_shuffle 6 = .ok (.aload_n 3, 1) := by decide +kernel
theorem dX9_shuffle_7 : decode cX9_shuffle 7 = .ok (.ifnonnull 9, 3) := by decide +kernel
theorem dX9_shuffle_10 : decode cX9_shuffle 10 = .ok (.aload_n 0, 1) := by decide +kernel
theorem dX9_shuffle_11 : decode cX9_shuffle 11 = .ok (.iconst 1, 1) := by decide +kernel
theorem dX9_shuffle_12 : decode cX9_shuffle 12 = .ok (.invokevirtual 98, 3) := by decide +kernel
theorem dX9_shuffle_15 : decode cX9_shuffle 15 = .ok (.ireturn, 1) := by decide +kernel
theorem dX9_shuffle_16 : decode cX9_shuffle 16 = .ok (.iload_n 2, 1) := by decide +kernel
theorem dX9_shuffle_17 : decode cX9_shuffle 17 = .ok (.iconst 1, 1) := by decide +kernel
theorem dX9_shuffle_18 : decode cX9_shuffle 18 = .ok (.if_icmp .lt 10, 3) := by decide +kernel
theorem dX9_shuffle_21 : decode cX9_shuffle 21 = .ok (.iload_n 2, 1) := by decide +kernel
theorem dX9_shuffle_22 : decode cX9_shuffle 22 = .ok (.ldc_w 302, 3) := by decide +kernel
theorem dX9_shuffle_25 : decode cX9_shuffle 25 = .ok (.if_icmp .lt 9, 3) := by decide +kernel
theorem dX9_shuffle_28 : decode cX9_shuffle 28 = .ok (.aload_n 0, 1) := by decide +kernel
theorem dX9_shuffle_29 : decode cX9_shuffle 29 = .ok (.iconst 2, 1) := by decide +kernel
theorem dX9_shuffle_30 : decode cX9_shuffle 30 = .ok (.invokevirtual 98, 3) := by decide +kernel
theorem dX9_shuffle_33 : decode cX9_shuffle 33 = .ok (.ireturn, 1) := by decide +kernel
theorem dX9_shuffle_34 : decode cX9_shuffle 34 = .ok (.aload_n 0, 1) := by decide +kernel
theorem dX9_shuffle_35 : decode cX9_shuffle 35 = .ok (.getfield 37, 3) := by decide +kernel
theorem dX9_shuffle_38 : decode cX9_shuffle 38 = .ok (.iload_n 1, 1) := by decide +kernel
theorem dX9_shuffle_39 : decode cX9_shuffle 39 = .ok (.aload_n 3, 1) := by decide +kernel
theorem dX9_shuffle_40 : decode cX9_shuffle 40 = .ok (.invokevirtual 108, 3) := by decide +kernel
theorem dX9_shuffle_43 : decode cX9_shuffle 43 = .ok (.aload_n 0, 1) := by decide +kernel
theorem dX9_shuffle_44 : decode cX9_shuffle 44 = .ok (.aload_n 3, 1) := by decide +kernel
theorem dX9_shuffle_45 : decode cX9_shuffle 45 = .ok (.iload_n 2, 1) := by decide +kernel
theorem dX9_shuffle_46 : decode cX9_shuffle 46 = .ok (.invokevirtual 303, 3) := by decide +kernel
theorem dX9_shuffle_49 : decode cX9_shuffle 49 = .ok (.invokevirtual 122, 3) := by decide +kernel
theorem dX9_shuffle_52 : decode cX9_shuffle 52 = .ok (.ireturn, 1) := by decide +kernel
theorem dX9_copy_0 : decode cX9_copy 0 = .ok (.aload_n 0, 1) := by decide +kernel
theorem dX9_copy_1 : decode cX9_copy 1 = .ok (.iload_n 1, 1) := by decide +kernel
theorem dX9_copy_2 : decode cX9_copy 2 = .ok (.invokevirtual 94, 3) := by decide +kernel
theorem dX9_copy_5 : decode cX9_copy 5 = .ok (.astore_n 3, 1) := by decide +kernel
theorem dX9_copy_6 : decode cX9_copy 6 = .ok (.aload_n 0, 1) := by decide +kernel
theorem dX9_copy_7 : decode cX9_copy 7 = .ok (.iload_n 2, 1) := by decide +kernel
theorem dX9_copy_8 : decode cX9_copy 8 = .ok (.invokevirtual 94, 3) := by decide +kernel
theorem dX9_copy_11 : decode cX9_copy 11 = .ok (.astore 4, 2) := by decide +kernel
theorem dX9_copy_13 : decode cX9_copy 13 = .ok (.aload_n 3, 1) := by decide +kernel
theorem dX9_copy_14 : decode cX9_copy 14 = .ok (.ifnull 8, 3) := by decide +kernel
theorem dX9_copy_17 : decode cX9_copy 17 = .ok (.aload 4, 2) := by decide +kernel
theorem dX9_copy_19 : decode cX9_copy 19 = .ok (.ifnonnull 9, 3) := by decide +kernel
theorem dX9_copy_22 : decode cX9_copy 22 = .ok (.aload_n 0, 1) := by decide +kernel
theorem dX9_copy_23 : decode cX9_copy 23 = .ok (.iconst 1, 1) := by decide +kernel
theorem dX9_copy_24 : decode cX9_copy 24 = .ok (.invokevirtual 98, 3) := by decide +kernel
theorem dX9_copy_27 : decode cX9_copy 27 = .ok (.ireturn, 1) := by decide +kernel
theorem dX9_copy_28 : decode cX9_copy 28 = .ok (.iload_n 1, 1) := by decide +kernel
theorem dX9_copy_29 : decode cX9_copy 29 = .ok (.iload_n 2, 1) := by decide +kernel
theorem dX9_copy_30 : decode cX9_copy 30 = .ok (.if_icmp .ne 9, 3) := by decide +kernel
theorem dX9_copy_33 : decode cX9_copy 33 = .ok (.aload_n 0, 1) := by decide +kernel
theorem dX9_copy_34 : decode cX9_copy 34 = .ok (.iconst 5, 1) := by decide +kernel
theorem dX9_copy_35 : decode cX9_copy 35 = .ok (.invokevirtual 98, 3) := by decide +kernel
theorem dX9_copy_38 : decode cX9_copy 38 = .ok (.ireturn, 1) := by decide +kernel
theorem dX9_copy_39 : decode cX9_copy 39 = .ok (.aload_n 0, 1) := by decide +kernel
theorem dX9_copy_40 : decode cX9_copy 40 = .ok (.getfield 37, 3) := by decide +kernel
theorem dX9_copy_43 : decode cX9_copy 43 = .ok (.iload_n 2, 1) := by decide +kernel
theorem dX9_copy_44 : decode cX9_copy 44 = .ok (.aload 4, 2) := by decide +kernel
theorem dX9_copy_46 : decode cX9_copy 46 = .ok (.invokevirtual 108, 3) := by decide +kernel
theorem dX9_copy_49 : decode cX9_copy 49 = .ok (.aload 4, 2) := by decide +kernel
theorem dX9_copy_51 : decode cX9_copy 51 = .ok (.aload_n 3, 1) := by decide +kernel
theorem dX9_copy_52 : decode cX9_copy 52 = .ok (.invokevirtual 115, 3) := by decide +kernel
theorem dX9_copy_55 : decode cX9_copy 55 = .ok (.aload_n 0, 1) := by decide +kernel
theorem dX9_copy_56 : decode cX9_copy 56 = .ok (.aload 4, 2) := by decide +kernel
theorem dX9_copy_58 : decode cX9_copy 58 = .ok (.getfield 119, 3) := by decide +kernel
theorem dX9_copy_61 : decode cX9_copy 61 = .ok (.invokevirtual 122, 3) := by decide +kernel
theorem dX9_copy_64 : decode cX9_copy 64 = .ok (.ireturn, 1) := by decide +kernel
theorem dX9_turn_0 : decode cX9_turn 0 = .ok (.aload_n 0, 1) := by decide +kernel
theorem dX9_turn_1 : decode cX9_turn 1 = .ok (.iload_n 1, 1) := by decide +kernel
theorem dX9_turn_2 : decode cX9_turn 2 = .ok (.invokevirtual 94, 3) := by decide +kernel
theorem dX9_turn_5 : decode cX9_turn 5 = .ok (.astore_n 2, 1) := by decide +kernel
theorem dX9_turn_6 : decode cX9_turn 6 = .ok (.aload_n 2, 1) := by decide +kernel
theorem dX9_turn_7 : decode cX9_turn 7 = .ok (.ifnonnull 9, 3) := by decide +kernel
theorem dX9_turn_10 : decode cX9_turn 10 = .ok (.aload_n 0, 1) := by decide +kernel
theorem dX9_turn_11 : decode cX9_turn 11 = .ok (.iconst 1, 1) := by decide +kernel
theorem dX9_turn_12 : decode cX9_turn 12 = .ok (.invokevirtual 98, 3) := by decide +kernel
theorem dX9_turn_15 : decode cX9_turn 15 = .ok (.ireturn, 1) := by decide +kernel
theorem dX9_turn_16 : decode cX9_turn 16 = .ok (.aload_n 0, 1) := by decide +kernel
theorem dX9_turn_17 : decode cX9_turn 17 = .ok (.getfield 37, 3) := by decide +kernel
theorem dX9_turn_20 : decode cX9_turn 20 = .ok (.iload_n 1, 1) := by decide +kernel
theorem dX9_turn_21 : decode cX9_turn 21 = .ok (.aload_n 2, 1) := by decide +kernel
theorem dX9_turn_22 : decode cX9_turn 22 = .ok (.invokevirtual 108, 3) := by decide +kernel
theorem dX9_turn_25 : decode cX9_turn 25 = .ok (.aload_n 2, 1) := by decide +kernel
theorem dX9_turn_26 : decode cX9_turn 26 = .ok (.invokevirtual 283, 3) := by decide +kernel
theorem dX9_turn_29 : decode cX9_turn 29 = .ok (.aload_n 0, 1) := by decide +kernel
theorem dX9_turn_30 : decode cX9_turn 30 = .ok (.aload_n 2, 1) := by decide +kernel
theorem dX9_turn_31 : decode cX9_turn 31 = .ok (.invokevirtual 128, 3) := by decide +kernel
theorem dX9_turn_34 : decode cX9_turn 34 = .ok (.invokevirtual 122, 3) := by decide +kernel
theorem dX9_turn_37 : decode cX9_turn 37 = .ok (.ireturn, 1) := by decide +kernel
theorem dX9_drop_0 : decode cX9_drop 0 = .ok (.aload_n 0, 1) := by decide +kernel
theorem dX9_drop_1 : decode cX9_drop 1 = .ok (.iload_n 1, 1) := by decide +kernel
theorem dX9_drop_2 : decode cX9_drop 2 = .ok (.invokevirtual 94, 3) := by decide +kernel
theorem dX9_drop_5 : decode cX9_drop 5 = .ok (.astore_n 3, 1) := by decide +kernel
theorem dX9_drop_6 : decode cX9_drop 6 = .ok (.aload_n 3, 1) := by decide +kernel
theorem dX9_drop_7 : decode cX9_drop 7 = .ok (.ifnull 11, 3) := by decide +kernel
theorem dX9_drop_10 : decode cX9_drop 10 = .ok (.aload_n 3, 1) := by decide +kernel
theorem dX9_drop_11 : decode cX9_drop 11 = .ok (.iload_n 2, 1) := by decide +kernel
theorem dX9_drop_12 : decode cX9_drop 12 = .ok (.invokevirtual 139, 3) := by decide +kernel
theorem dX9_drop_15 : decode cX9_drop 15 = .ok (.ifCond .ne 9, 3) := by decide +kernel
theorem dX9_drop_18 : decode cX9_drop 18 = .ok (.aload_n 0, 1) := by decide +kernel
theorem dX9_drop_19 : decode cX9_drop 19 = .ok (.iconst 1, 1) := by decide +kernel
theorem dX9_drop_20 : decode cX9_drop 20 = .ok (.invokevirtual 98, 3) := by decide +kernel
theorem dX9_drop_23 : decode cX9_drop 23 = .ok (.ireturn, 1) := by decide +kernel
theorem dX9_drop_24 : decode cX9_drop 24 = .ok (.aload_n 3, 1) := by decide +kernel
theorem dX9_drop_25 : decode cX9_drop 25 = .ok (.getfield 119, 3) := by decide +kernel
theorem dX9_drop_28 : decode cX9_drop 28 = .ok (.iconst 1, 1) := by decide +kernel
theorem dX9_drop_29 : decode cX9_drop 29 = .ok (.if_icmp .ne 9, 3) := by decide +kernel
theorem dX9_drop_32 : decode cX9_drop 32 = .ok (.aload_n 0, 1) := by decide +kernel
theorem dX9_drop_33 : decode cX9_drop 33 = .ok (.iconst 5, 1) := by decide +kernel
theorem dX9_drop_34 : decode cX9_drop 34 = .ok (.invokevirtual 98, 3) := by decide +kernel
theorem dX9_drop_37 : decode cX9_drop 37 = .ok (.ireturn, 1) := by decide +kernel
theorem dX9_drop_38 : decode cX9_drop 38 = .ok (.aload_n 0, 1) := by decide +kernel
theorem dX9_drop_39 : decode cX9_drop 39 = .ok (.getfield 37, 3) := by decide +kernel
theorem dX9_drop_42 : decode cX9_drop 42 = .ok (.iload_n 1, 1) := by decide +kernel
theorem dX9_drop_43 : decode cX9_drop 43 = .ok (.aload_n 3, 1) := by decide +kernel
theorem dX9_drop_44 : decode cX9_drop 44 = .ok (.invokevirtual 108, 3) := by decide +kernel
theorem dX9_drop_47 : decode cX9_drop 47 = .ok (.aload_n 3, 1) := by decide +kernel
theorem dX9_drop_48 : decode cX9_drop 48 = .ok (.iload_n 2, 1) := by decide +kernel
theorem dX9_drop_49 : decode cX9_drop 49 = .ok (.invokevirtual 306, 3) := by decide +kernel
theorem dX9_drop_52 : decode cX9_drop 52 = .ok (.aload_n 0, 1) := by decide +kernel
theorem dX9_drop_53 : decode cX9_drop 53 = .ok (.aload_n 3, 1) := by decide +kernel
theorem dX9_drop_54 : decode cX9_drop 54 = .ok (.getfield 119, 3) := by decide +kernel
theorem dX9_drop_57 : decode cX9_drop 57 = .ok (.invokevirtual 122, 3) := by decide +kernel
theorem dX9_drop_60 : decode cX9_drop 60 = .ok (.ireturn, 1) := by decide +kernel
theorem dX9_grow_0 : decode cX9_grow 0 = .ok (.aload_n 0, 1) := by decide +kernel
theorem dX9_grow_1 : decode cX9_grow 1 = .ok (.iload_n 1, 1) := by decide +kernel
theorem dX9_grow_2 : decode cX9_grow 2 = .ok (.invokevirtual 94, 3) := by decide +kernel
theorem dX9_grow_5 : decode cX9_grow 5 = .ok (.astore 4, 2) := by decide +kernel
theorem dX9_grow_7 : decode cX9_grow 7 = .ok (.aload 4, 2) := by decide +kernel
theorem dX9_grow_9 : decode cX9_grow 9 = .ok (.ifnonnull 9, 3) := by decide +kernel
theorem dX9_grow_12 : decode cX9_grow 12 = .ok (.aload_n 0, 1) := by decide +kernel
theorem dX9_grow_13 : decode cX9_grow 13 = .ok (.iconst 1, 1) := by decide +kernel
theorem dX9_grow_14 : decode cX9_grow 14 = .ok (.invokevirtual 98, 3) := by decide +kernel
theorem dX9_grow_17 : decode cX9_grow 17 = .ok (.ireturn, 1) := by decide +kernel
theorem dX9_grow_18 : decode cX9_grow 18 = .ok (.aload 4, 2) := by decide +kernel
theorem dX9_grow_20 : decode cX9_grow 20 = .ok (.iload_n 2, 1) := by decide +kernel
theorem dX9_grow_21 : decode cX9_grow 21 = .ok (.invokevirtual 261, 3) := by decide +kernel
theorem dX9_grow_24 : decode cX9_grow 24 = .ok (.ifCond .eq 13, 3) := by decide +kernel
theorem dX9_grow_27 : decode cX9_grow 27 = .ok (.iload_n 3, 1) := by decide +kernel
theorem dX9_grow_28 : decode cX9_grow 28 = .ok (.ifCond .lt 9, 3) := by decide +kernel
theorem dX9_grow_31 : decode cX9_grow 31 = .ok (.iload_n 3, 1) := by decide +kernel
theorem dX9_grow_32 : decode cX9_grow 32 = .ok (.bipush 10, 2) := by decide +kernel
theorem dX9_grow_34 : decode cX9_grow 34 = .ok (.if_icmp .lt 9, 3) := by decide +kernel
theorem dX9_grow_37 : decode cX9_grow 37 = .ok (.aload_n 0, 1) := by decide +kernel
theorem dX9_grow_38 : decode cX9_grow 38 = .ok (.iconst 2, 1) := by decide +kernel
theorem dX9_grow_39 : decode cX9_grow 39 = .ok (.invokevirtual 98, 3) := by decide +kernel
theorem dX9_grow_42 : decode cX9_grow 42 = .ok (.ireturn, 1) := by decide +kernel
theorem dX9_grow_43 : decode cX9_grow 43 = .ok (.aload 4, 2) := by decide +kernel
theorem dX9_grow_45 : decode cX9_grow 45 = .ok (.getfield 119, 3) := by decide +kernel
theorem dX9_grow_48 : decode cX9_grow 48 = .ok (.bipush 7, 2) := by decide +kernel
theorem dX9_grow_50 : decode cX9_grow 50 = .ok (.if_icmp .lt 9, 3) := by decide +kernel
theorem dX9_grow_53 : decode cX9_grow 53 = .ok (.aload_n 0, 1) := by decide +kernel
theorem dX9_grow_54 : decode cX9_grow 54 = .ok (.iconst 5, 1) := by decide +kernel
theorem dX9_grow_55 : decode cX9_grow 55 = .ok (.invokevirtual 98, 3) := by decide +kernel
theorem dX9_grow_58 : decode cX9_grow 58 = .ok (.ireturn, 1) := by decide +kernel
theorem dX9_grow_59 : decode cX9_grow 59 = .ok (.aload_n 0, 1) := by decide +kernel
theorem dX9_grow_60 : decode cX9_grow 60 = .ok (.getfield 37, 3) := by decide +kernel
theorem dX9_grow_63 : decode cX9_grow 63 = .ok (.iload_n 1, 1) := by decide +kernel
theorem dX9_grow_64 : decode cX9_grow 64 = .ok (.aload 4, 2) := by decide +kernel
theorem dX9_grow_66 : decode cX9_grow 66 = .ok (.invokevirtual 108, 3) := by decide +kernel
theorem dX9_grow_69 : decode cX9_grow 69 = .ok (.aload 4, 2) := by decide +kernel
theorem dX9_grow_71 : decode cX9_grow 71 = .ok (.iload_n 2, 1) := by decide +kernel
theorem dX9_grow_72 : decode cX9_grow 72 = .ok (.iload_n 3, 1) := by decide +kernel
theorem dX9_grow_73 : decode cX9_grow 73 = .ok (.invokevirtual 309, 3) := by decide +kernel
theorem dX9_grow_76 : decode cX9_grow 76 = .ok (.aload_n 0, 1) := by decide +kernel
theorem dX9_grow_77 : decode cX9_grow 77 = .ok (.aload 4, 2) := by decide +kernel
theorem dX9_grow_79 : decode cX9_grow 79 = .ok (.getfield 119, 3) := by decide +kernel
theorem dX9_grow_82 : decode cX9_grow 82 = .ok (.invokevirtual 122, 3) := by decide +kernel
theorem dX9_grow_85 : decode cX9_grow 85 = .ok (.ireturn, 1) := by decide +kernel
theorem dX9_undo_0 : decode cX9_undo 0 = .ok (.aload_n 0, 1) := by decide +kernel
theorem dX9_undo_1 : decode cX9_undo 1 = .ok (.getfield 37, 3) := by decide +kernel
theorem dX9_undo_4 : decode cX9_undo 4 = .ok (.getfield 312, 3) := by decide +kernel
theorem dX9_undo_7 : decode cX9_undo 7 = .ok (.ifCond .ne 9, 3) := by decide +kernel
theorem dX9_undo_10 : decode cX9_undo 10 = .ok (.aload_n 0, 1) := by decide +kernel
theorem dX9_undo_11 : decode cX9_undo 11 = .ok (.iconst 5, 1) := by decide +kernel
theorem dX9_undo_12 : decode cX9_undo 12 = .ok (.invokevirtual 98, 3) := by decide +kernel
theorem dX9_undo_15 : decode cX9_undo 15 = .ok (.ireturn, 1) := by decide +kernel
theorem dX9_undo_16 : decode cX9_undo 16 = .ok (.aload_n 0, 1) := by decide +kernel
theorem dX9_undo_17 : decode cX9_undo 17 = .ok (.getfield 37, 3) := by decide +kernel
theorem dX9_undo_20 : decode cX9_undo 20 = .ok (.aload_n 0, 1) := by decide +kernel
theorem dX9_undo_21 : decode cX9_undo 21 = .ok (.getfield 11, 3) := by decide +kernel
theorem dX9_undo_24 : decode cX9_undo 24 = .ok (.invokevirtual 313, 3) := by decide +kernel
theorem dX9_undo_27 : decode cX9_undo 27 = .ok (.aload_n 0, 1) := by decide +kernel
theorem dX9_undo_28 : decode cX9_undo 28 = .ok (.aload_n 0, 1) := by decide +kernel
theorem dX9_undo_29 : decode cX9_undo 29 = .ok (.getfield 37, 3) := by decide +kernel
theorem dX9_undo_32 : decode cX9_undo 32 = .ok (.getfield 312, 3) := by decide +kernel
theorem dX9_undo_35 : decode cX9_undo 35 = .ok (.invokevirtual 122, 3) := by decide +kernel
theorem dX9_undo_38 : decode cX9_undo 38 = .ok (.ireturn, 1) := by decide +kernel
theorem dX9_image_0 : decode cX9_image 0 = .ok (.iload_n 1, 1) := by decide +kernel
theorem dX9_image_1 : decode cX9_image 1 = .ok (.ifCond .lt 8, 3) := by decide +kernel
theorem dX9_image_4 : decode cX9_image 4 = .ok (.iload_n 1, 1) := by decide +kernel
theorem dX9_image_5 : decode cX9_image 5 = .ok (.iconst 2, 1) := by decide +kernel
theorem dX9_image_6 : decode cX9_image 6 = .ok (.if_icmp .lt 10, 3) := by decide +kernel
theorem dX9_image_9 : decode cX9_image 9 = .ok (.aload_n 0, 1) := by decide +kernel
theorem dX9_image_10 : decode cX9_image 10 = .ok (.iconst 1, 1) := by decide +kernel
theorem dX9_image_11 : decode cX9_image 11 = .ok (.putfield 81, 3) := by decide +kernel
theorem dX9_image_14 : decode cX9_image 14 = .ok (.iconst 0, 1) := by decide +kernel
theorem dX9_image_15 : decode cX9_image 15 = .ok (.ireturn, 1) := by decide +kernel
theorem dX9_image_16 : decode cX9_image 16 = .ok (.iconst 0, 1) := by decide +kernel
theorem dX9_image_17 : decode cX9_image 17 = .ok (.istore_n 2, 1) := by decide +kernel
theorem dX9_image_18 : decode cX9_image 18 = .ok (.iload_n 2, 1) := by decide +kernel
theorem dX9_image_19 : decode cX9_image 19 = .ok (.iconst 3, 1) := by decide +kernel
theorem dX9_image_20 : decode cX9_image 20 = .ok (.if_icmp .ge 28, 3) := by decide +kernel
theorem dX9_image_23 : decode cX9_image 23 = .ok (.aload_n 0, 1) := by decide +kernel
theorem dX9_image_24 : decode cX9_image 24 = .ok (.getfield 41, 3) := by decide +kernel
theorem dX9_image_27 : decode cX9_image 27 = .ok (.iload_n 1, 1) := by decide +kernel
theorem dX9_image_28 : decode cX9_image 28 = .ok (.iconst 3, 1) := by decide +kernel
theorem dX9_image_29 : decode cX9_image 29 = .ok (.imul, 1) := by decide +kernel
theorem dX9_image_30 : decode cX9_image 30 = .ok (.iload_n 2, 1) := by decide +kernel
theorem dX9_image_31 : decode cX9_image 31 = .ok (.iadd, 1) := by decide +kernel
theorem dX9_image_32 : decode cX9_image 32 = .ok (.aaload, 1) := by decide +kernel
theorem dX9_image_33 : decode cX9_image 33 = .ok (.aload_n 0, 1) := by decide +kernel
theorem dX9_image_34 : decode cX9_image 34 = .ok (.getfield 11, 3) := by decide +kernel
theorem dX9_image_37 : decode cX9_image 37 = .ok (.iload_n 2, 1) := by decide +kernel
theorem dX9_image_38 : decode cX9_image 38 = .ok (.aaload, 1) := by decide +kernel
theorem dX9_image_39 : decode cX9_image 39 = .ok (.invokevirtual 115, 3) := by decide +kernel
theorem dX9_image_42 : decode cX9_image 42 = .ok (.iinc 2 1, 3) := by decide +kernel
theorem dX9_image_45 : decode cX9_image 45 = .ok (.goto (-27), 3) := by decide +kernel
theorem dX9_image_48 : decode cX9_image 48 = .ok (.aload_n 0, 1) := by decide +kernel
theorem dX9_image_49 : decode cX9_image 49 = .ok (.getfield 44, 3) := by decide +kernel
theorem dX9_image_52 : decode cX9_image 52 = .ok (.iload_n 1, 1) := by decide +kernel
theorem dX9_image_53 : decode cX9_image 53 = .ok (.iconst 1, 1) := by decide +kernel
theorem dX9_image_54 : decode cX9_image 54 = .ok (.bastore, 1) := by decide +kernel
theorem dX9_image_55 : decode cX9_image 55 = .ok (.aload_n 0, 1) := by decide +kernel
theorem dX9_image_56 : decode cX9_image 56 = .ok (.iconst 0, 1) := by decide +kernel
theorem dX9_image_57 : decode cX9_image 57 = .ok (.putfield 81, 3) := by decide +kernel
theorem dX9_image_60 : decode cX9_image 60 = .ok (.iconst 1, 1) := by decide +kernel
theorem dX9_image_61 : decode cX9_image 61 = .ok (.ireturn, 1) := by decide +kernel
theorem dX9_again_0 : decode cX9_again 0 = .ok (.iload_n 1, 1) := by decide +kernel
theorem dX9_again_1 : decode cX9_again 1 = .ok (.ifCond .lt 17, 3) := by decide +kernel
theorem dX9_again_4 : decode cX9_again 4 = .ok (.iload_n 1, 1) := by decide +kernel
theorem dX9_again_5 : decode cX9_again 5 = .ok (.iconst 2, 1) := by decide +kernel
theorem dX9_again_6 : decode cX9_again 6 = .ok (.if_icmp .ge 12, 3) := by decide +kernel
theorem dX9_again_9 : decode cX9_again 9 = .ok (.aload_n 0, 1) := by decide +kernel
theorem dX9_again_10 : decode cX9_again 10 = .ok (.getfield 44, 3) := by decide +kernel
theorem dX9_again_13 : decode cX9_again 13 = .ok (.iload_n 1, 1) := by decide +kernel
theorem dX9_again_14 : decode cX9_again 14 = .ok (.baload, 1) := by decide +kernel
theorem dX9_again_15 : decode cX9_again 15 = .ok (.ifCond .ne 10, 3) := by decide +kernel
theorem dX9_again_18 : decode cX9_again 18 = .ok (.aload_n 0, 1) := by decide +kernel
theorem dX9_again_19 : decode cX9_again 19 = .ok (.iconst 1, 1) := by decide +kernel
theorem dX9_again_20 : decode cX9_again 20 = .ok (.putfield 81, 3) := by decide +kernel
theorem dX9_again_23 : decode cX9_again 23 = .ok (.iconst 0, 1) := by decide +kernel
theorem dX9_again_24 : decode cX9_again 24 = .ok (.ireturn, 1) := by decide +kernel
theorem dX9_again_25 : decode cX9_again 25 = .ok (.iconst 0, 1) := by decide +kernel
theorem dX9_again_26 : decode cX9_again 26 = .ok (.istore_n 2, 1) := by decide +kernel
theorem dX9_again_27 : decode cX9_again 27 = .ok (.iload_n 2, 1) := by decide +kernel
theorem dX9_again_28 : decode cX9_again 28 = .ok (.iconst 3, 1) := by decide +kernel
theorem dX9_again_29 : decode cX9_again 29 = .ok (.if_icmp .ge 28, 3) := by decide +kernel
theorem dX9_again_32 : decode cX9_again 32 = .ok (.aload_n 0, 1) := by decide +kernel
theorem dX9_again_33 : decode cX9_again 33 = .ok (.getfield 11, 3) := by decide +kernel
theorem dX9_again_36 : decode cX9_again 36 = .ok (.iload_n 2, 1) := by decide +kernel
theorem dX9_again_37 : decode cX9_again 37 = .ok (.aaload, 1) := by decide +kernel
theorem dX9_again_38 : decode cX9_again 38 = .ok (.aload_n 0, 1) := by decide +kernel
theorem dX9_again_39 : decode cX9_again 39 = .ok (.getfield 41, 3) := by decide +kernel
theorem dX9_again_42 : decode cX9_again 42 = .ok (.iload_n 1, 1) := by decide +kernel
theorem dX9_again_43 : decode cX9_again 43 = .ok (.iconst 3, 1) := by decide +kernel
theorem dX9_again_44 : decode cX9_again 44 = .ok (.imul, 1) := by decide +kernel
theorem dX9_again_45 : decode cX9_again 45 = .ok (.iload_n 2, 1) := by decide +kernel
theorem dX9_again_46 : decode cX9_again 46 = .ok (.iadd, 1) := by decide +kernel
theorem dX9_again_47 : decode cX9_again 47 = .ok (.aaload, 1) := by decide +kernel
theorem dX9_again_48 : decode cX9_again 48 = .ok (.invokevirtual 115, 3) := by decide +kernel
theorem dX9_again_51 : decode cX9_again 51 = .ok (.iinc 2 1, 3) := by decide +kernel
theorem dX9_again_54 : decode cX9_again 54 = .ok (.goto (-27), 3) := by decide +kernel
theorem dX9_again_57 : decode cX9_again 57 = .ok (.aload_n 0, 1) := by decide +kernel
theorem dX9_again_58 : decode cX9_again 58 = .ok (.getfield 37, 3) := by decide +kernel
theorem dX9_again_61 : decode cX9_again 61 = .ok (.iconst 0, 1) := by decide +kernel
theorem dX9_again_62 : decode cX9_again 62 = .ok (.putfield 312, 3) := by decide +kernel
theorem dX9_again_65 : decode cX9_again 65 = .ok (.aload_n 0, 1) := by decide +kernel
theorem dX9_again_66 : decode cX9_again 66 = .ok (.iconst 0, 1) := by decide +kernel
theorem dX9_again_67 : decode cX9_again 67 = .ok (.putfield 81, 3) := by decide +kernel
theorem dX9_again_70 : decode cX9_again 70 = .ok (.iconst 1, 1) := by decide +kernel
theorem dX9_again_71 : decode cX9_again 71 = .ok (.ireturn, 1) := by decide +kernel
theorem dX9_row_0 : decode cX9_row 0 = .ok (.aload_n 0, 1) := by decide +kernel
theorem dX9_row_1 : decode cX9_row 1 = .ok (.iload_n 1, 1) := by decide +kernel
theorem dX9_row_2 : decode cX9_row 2 = .ok (.invokevirtual 94, 3) := by decide +kernel
theorem dX9_row_5 : decode cX9_row 5 = .ok (.astore_n 3, 1) := by decide +kernel
theorem dX9_row_6 : decode cX9_row 6 = .ok (.aload_n 3, 1) := by decide +kernel
theorem dX9_row_7 : decode cX9_row 7 = .ok (.ifnull 11, 3) := by decide +kernel
theorem dX9_row_10 : decode cX9_row 10 = .ok (.aload_n 3, 1) := by decide +kernel
theorem dX9_row_11 : decode cX9_row 11 = .ok (.iload_n 2, 1) := by decide +kernel
theorem dX9_row_12 : decode cX9_row 12 = .ok (.invokevirtual 139, 3) := by decide +kernel
theorem dX9_row_15 : decode cX9_row 15 = .ok (.ifCond .ne 11, 3) := by decide +kernel
theorem dX9_row_18 : decode cX9_row 18 = .ok (.new 317, 3) := by decide +kernel
theorem dX9_row_21 : decode cX9_row 21 = .ok (.dup, 1) := by decide +kernel
theorem dX9_row_22 : decode cX9_row 22 = .ok (.invokespecial 319, 3) := by decide +kernel
theorem dX9_row_25 : decode cX9_row 25 = .ok (.athrow, 1) := by decide +kernel
theorem dX9_row_26 : decode cX9_row 26 = .ok (.aload_n 3, 1) := by decide +kernel
theorem dX9_row_27 : decode cX9_row 27 = .ok (.getfield 151, 3) := by decide +kernel
theorem dX9_row_30 : decode cX9_row 30 = .ok (.iconst 0, 1) := by decide +kernel
theorem dX9_row_31 : decode cX9_row 31 = .ok (.aaload, 1) := by decide +kernel
theorem dX9_row_32 : decode cX9_row 32 = .ok (.iload_n 2, 1) := by decide +kernel
theorem dX9_row_33 : decode cX9_row 33 = .ok (.iaload, 1) := by decide +kernel
theorem dX9_row_34 : decode cX9_row 34 = .ok (.ireturn, 1) := by decide +kernel
theorem dX9_size_0 : decode cX9_size 0 = .ok (.aload_n 0, 1) := by decide +kernel
theorem dX9_size_1 : decode cX9_size 1 = .ok (.getfield 30, 3) := by decide +kernel
theorem dX9_size_4 : decode cX9_size 4 = .ok (.getfield 87, 3) := by decide +kernel
theorem dX9_size_7 : decode cX9_size 7 = .ok (.ireturn, 1) := by decide +kernel
theorem dX9_trouble_0 : decode cX9_trouble 0 = .ok (.aload_n 0, 1) := by decide +kernel
theorem dX9_trouble_1 : decode cX9_trouble 1 = .ok (.getfield 81, 3) := by decide +kernel
theorem dX9_trouble_4 : decode cX9_trouble 4 = .ok (.ireturn, 1) := by decide +kernel
theorem dX9_refused_0 : decode cX9_refused 0 = .ok (.aload_n 0, 1) := by decide +kernel
theorem dX9_refused_1 : decode cX9_refused 1 = .ok (.iload_n 1, 1) := by decide +kernel
theorem dX9_refused_2 : decode cX9_refused 2 = .ok (.putfield 81, 3) := by decide +kernel
theorem dX9_refused_5 : decode cX9_refused 5 = .ok (.iconst (-1), 1) := by decide +kernel
theorem dX9_refused_6 : decode cX9_refused 6 = .ok (.ireturn, 1) := by decide +kernel
theorem dX9_answered_0 : decode cX9_answered 0 = .ok (.aload_n 0, 1) := by decide +kernel
theorem dX9_answered_1 : decode cX9_answered 1 = .ok (.iconst 0, 1) := by decide +kernel
theorem dX9_answered_2 : decode cX9_answered 2 = .ok (.putfield 81, 3) := by decide +kernel
theorem dX9_answered_5 : decode cX9_answered 5 = .ok (.iload_n 1, 1) := by decide +kernel
theorem dX9_answered_6 : decode cX9_answered 6 = .ok (.ireturn, 1) := by decide +kernel
theorem dX9_at_0 : decode cX9_at 0 = .ok (.iload_n 1, 1) := by decide +kernel
theorem dX9_at_1 : decode cX9_at 1 = .ok (.ifCond .lt 17, 3) := by decide +kernel
theorem dX9_at_4 : decode cX9_at 4 = .ok (.iload_n 1, 1) := by decide +kernel
theorem dX9_at_5 : decode cX9_at 5 = .ok (.iconst 3, 1) := by decide +kernel
theorem dX9_at_6 : decode cX9_at 6 = .ok (.if_icmp .ge 12, 3) := by decide +kernel
theorem dX9_at_9 : decode cX9_at 9 = .ok (.aload_n 0, 1) := by decide +kernel
theorem dX9_at_10 : decode cX9_at 10 = .ok (.getfield 11, 3) := by decide +kernel
theorem dX9_at_13 : decode cX9_at 13 = .ok (.iload_n 1, 1) := by decide +kernel
theorem dX9_at_14 : decode cX9_at 14 = .ok (.aaload, 1) := by decide +kernel
theorem dX9_at_15 : decode cX9_at 15 = .ok (.goto 4, 3) := by decide +kernel
theorem dX9_at_18 : decode cX9_at 18 = .ok (.aconst_null, 1) := by decide +kernel
theorem dX9_at_19 : decode cX9_at 19 = .ok (.areturn, 1) := by decide +kernel
theorem dX9_searchOf_0 : decode cX9_searchOf 0 = .ok (.aload_n 0, 1) := by decide +kernel
theorem dX9_searchOf_1 : decode cX9_searchOf 1 = .ok (.getfield 23, 3) := by decide +kernel
theorem dX9_searchOf_4 : decode cX9_searchOf 4 = .ok (.iload_n 1, 1) := by decide +kernel
theorem dX9_searchOf_5 : decode cX9_searchOf 5 = .ok (.aaload, 1) := by decide +kernel
theorem dX9_searchOf_6 : decode cX9_searchOf 6 = .ok (.astore_n 2, 1) := by decide +kernel
theorem dX9_searchOf_7 : decode cX9_searchOf 7 = .ok (.aload_n 2, 1) := by decide +kernel
theorem dX9_searchOf_8 : decode cX9_searchOf 8 = .ok (.aload_n 0, 1) := by decide +kernel
theorem dX9_searchOf_9 : decode cX9_searchOf 9 = .ok (.getfield 11, 3) := by decide +kernel
theorem dX9_searchOf_12 : decode cX9_searchOf 12 = .ok (.iload_n 1, 1) := by decide +kernel
theorem dX9_searchOf_13 : decode cX9_searchOf 13 = .ok (.aaload, 1) := by decide +kernel
theorem dX9_searchOf_14 : decode cX9_searchOf 14 = .ok (.invokevirtual 320, 3) := by decide +kernel
theorem dX9_searchOf_17 : decode cX9_searchOf 17 = .ok (.aload_n 2, 1) := by decide +kernel
theorem dX9_searchOf_18 : decode cX9_searchOf 18 = .ok (.areturn, 1) := by decide +kernel
theorem dX9_toldApart_0 : decode cX9_toldApart 0 = .ok (.aload_n 0, 1) := by decide +kernel
theorem dX9_toldApart_1 : decode cX9_toldApart 1 = .ok (.getfield 51, 3) := by decide +kernel
theorem dX9_toldApart_4 : decode cX9_toldApart 4 = .ok (.aload_n 1, 1) := by decide +kernel
theorem dX9_toldApart_5 : decode cX9_toldApart 5 = .ok (.invokevirtual 132, 3) := by decide +kernel
theorem dX9_toldApart_8 : decode cX9_toldApart 8 = .ok (.aload_n 0, 1) := by decide +kernel
theorem dX9_toldApart_9 : decode cX9_toldApart 9 = .ok (.getfield 55, 3) := by decide +kernel
theorem dX9_toldApart_12 : decode cX9_toldApart 12 = .ok (.aload_n 2, 1) := by decide +kernel
theorem dX9_toldApart_13 : decode cX9_toldApart 13 = .ok (.invokevirtual 132, 3) := by decide +kernel
theorem dX9_toldApart_16 : decode cX9_toldApart 16 = .ok (.aload_n 0, 1) := by decide +kernel
theorem dX9_toldApart_17 : decode cX9_toldApart 17 = .ok (.getfield 51, 3) := by decide +kernel
theorem dX9_toldApart_20 : decode cX9_toldApart 20 = .ok (.aload_n 0, 1) := by decide +kernel
theorem dX9_toldApart_21 : decode cX9_toldApart 21 = .ok (.getfield 55, 3) := by decide +kernel
theorem dX9_toldApart_24 : decode cX9_toldApart 24 = .ok (.invokevirtual 321, 3) := by decide +kernel
theorem dX9_toldApart_27 : decode cX9_toldApart 27 = .ok (.ifCond .ne 5, 3) := by decide +kernel
theorem dX9_toldApart_30 : decode cX9_toldApart 30 = .ok (.iconst 0, 1) := by decide +kernel
theorem dX9_toldApart_31 : decode cX9_toldApart 31 = .ok (.ireturn, 1) := by decide +kernel
theorem dX9_toldApart_32 : decode cX9_toldApart 32 = .ok (.iconst 1, 1) := by decide +kernel
theorem dX9_toldApart_33 : decode cX9_toldApart 33 = .ok (.istore_n 3, 1) := by decide +kernel
theorem dX9_toldApart_34 : decode cX9_toldApart 34 = .ok (.iload_n 3, 1) := by decide +kernel
theorem dX9_toldApart_35 : decode cX9_toldApart 35 = .ok (.bipush 7, 2) := by decide +kernel
theorem dX9_toldApart_37 : decode cX9_toldApart 37 = .ok (.if_icmp .gt 52, 3) := by decide +kernel
theorem dX9_toldApart_40 : decode cX9_toldApart 40 = .ok (.aload_n 0, 1) := by decide +kernel
theorem dX9_toldApart_41 : decode cX9_toldApart 41 = .ok (.getfield 51, 3) := by decide +kernel
theorem dX9_toldApart_44 : decode cX9_toldApart 44 = .ok (.aload_n 1, 1) := by decide +kernel
theorem dX9_toldApart_45 : decode cX9_toldApart 45 = .ok (.invokevirtual 325, 3) := by decide +kernel
theorem dX9_toldApart_48 : decode cX9_toldApart 48 = .ok (.istore 4, 2) := by decide +kernel
theorem dX9_toldApart_50 : decode cX9_toldApart 50 = .ok (.aload_n 0, 1) := by decide +kernel
theorem dX9_toldApart_51 : decode cX9_toldApart 51 = .ok (.getfield 55, 3) := by decide +kernel
theorem dX9_toldApart_54 : decode cX9_toldApart 54 = .ok (.aload_n 2, 1) := by decide +kernel
theorem dX9_toldApart_55 : decode cX9_toldApart 55 = .ok (.invokevirtual 325, 3) := by decide +kernel
theorem dX9_toldApart_58 : decode cX9_toldApart 58 = .ok (.pop, 1) := by decide +kernel
theorem dX9_toldApart_59 : decode cX9_toldApart 59 = .ok (.aload_n 0, 1) := by decide +kernel
theorem dX9_toldApart_60 : decode cX9_toldApart 60 = .ok (.getfield 51, 3) := by decide +kernel
theorem dX9_toldApart_63 : decode cX9_toldApart 63 = .ok (.aload_n 0, 1) := by decide +kernel
theorem dX9_toldApart_64 : decode cX9_toldApart 64 = .ok (.getfield 55, 3) := by decide +kernel
theorem dX9_toldApart_67 : decode cX9_toldApart 67 = .ok (.invokevirtual 321, 3) := by decide +kernel
theorem dX9_toldApart_70 : decode cX9_toldApart 70 = .ok (.ifCond .ne 5, 3) := by decide +kernel
theorem dX9_toldApart_73 : decode cX9_toldApart 73 = .ok (.iload_n 3, 1) := by decide +kernel
theorem dX9_toldApart_74 : decode cX9_toldApart 74 = .ok (.ireturn, 1) := by decide +kernel
theorem dX9_toldApart_75 : decode cX9_toldApart 75 = .ok (.iload 4, 2) := by decide +kernel
theorem dX9_toldApart_77 : decode cX9_toldApart 77 = .ok (.ifCond .ne 6, 3) := by decide +kernel
theorem dX9_toldApart_80 : decode cX9_toldApart 80 = .ok (.bipush (-2), 2) := by decide +kernel
theorem dX9_toldApart_82 : decode cX9_toldApart 82 = .ok (.ireturn, 1) := by decide +kernel
theorem dX9_toldApart_83 : decode cX9_toldApart 83 = .ok (.iinc 3 1, 3) := by decide +kernel
theorem dX9_toldApart_86 : decode cX9_toldApart 86 = .ok (.goto (-52), 3) := by decide +kernel
theorem dX9_toldApart_89 : decode cX9_toldApart 89 = .ok (.bipush (-2), 2) := by decide +kernel
theorem dX9_toldApart_91 : decode cX9_toldApart 91 = .ok (.ireturn, 1) := by decide +kernel
theorem dX9_nameCards_0 : decode cX9_nameCards 0 = .ok (.iconst 0, 1) := by decide +kernel
theorem dX9_nameCards_1 : decode cX9_nameCards 1 = .ok (.istore_n 2, 1) := by decide +kernel
theorem dX9_nameCards_2 : decode cX9_nameCards 2 = .ok (.iload_n 2, 1) := by decide +kernel
theorem dX9_nameCards_3 : decode cX9_nameCards 3 = .ok (.aload_n 1, 1) := by decide +kernel
theorem dX9_nameCards_4 : decode cX9_nameCards 4 = .ok (.getfield 119, 3) := by decide +kernel
theorem dX9_nameCards_7 : decode cX9_nameCards 7 = .ok (.if_icmp .ge 52, 3) := by decide +kernel
theorem dX9_nameCards_10 : decode cX9_nameCards 10 = .ok (.aload_n 0, 1) := by decide +kernel
theorem dX9_nameCards_11 : decode cX9_nameCards 11 = .ok (.getfield 66, 3) := by decide +kernel
theorem dX9_nameCards_14 : decode cX9_nameCards 14 = .ok (.aload_n 1, 1) := by decide +kernel
theorem dX9_nameCards_15 : decode cX9_nameCards 15 = .ok (.invokevirtual 115, 3) := by decide +kernel
theorem dX9_nameCards_18 : decode cX9_nameCards 18 = .ok (.aload_n 0, 1) := by decide +kernel
theorem dX9_nameCards_19 : decode cX9_nameCards 19 = .ok (.getfield 66, 3) := by decide +kernel
theorem dX9_nameCards_22 : decode cX9_nameCards 22 = .ok (.iload_n 2, 1) := by decide +kernel
theorem dX9_nameCards_23 : decode cX9_nameCards 23 = .ok (.invokevirtual 306, 3) := by decide +kernel
theorem dX9_nameCards_26 : decode cX9_nameCards 26 = .ok (.aload_n 0, 1) := by decide +kernel
theorem dX9_nameCards_27 : decode cX9_nameCards 27 = .ok (.getfield 71, 3) := by decide +kernel
theorem dX9_nameCards_30 : decode cX9_nameCards 30 = .ok (.aload_n 0, 1) := by decide +kernel
theorem dX9_nameCards_31 : decode cX9_nameCards 31 = .ok (.getfield 66, 3) := by decide +kernel
theorem dX9_nameCards_34 : decode cX9_nameCards 34 = .ok (.invokevirtual 320, 3) := by decide +kernel
theorem dX9_nameCards_37 : decode cX9_nameCards 37 = .ok (.aload_n 0, 1) := by decide +kernel
theorem dX9_nameCards_38 : decode cX9_nameCards 38 = .ok (.getfield 77, 3) := by decide +kernel
theorem dX9_nameCards_41 : decode cX9_nameCards 41 = .ok (.iload_n 2, 1) := by decide +kernel
theorem dX9_nameCards_42 : decode cX9_nameCards 42 = .ok (.aaload, 1) := by decide +kernel
theorem dX9_nameCards_43 : decode cX9_nameCards 43 = .ok (.aload_n 0, 1) := by decide +kernel
theorem dX9_nameCards_44 : decode cX9_nameCards 44 = .ok (.getfield 71, 3) := by decide +kernel
theorem dX9_nameCards_47 : decode cX9_nameCards 47 = .ok (.getfield 224, 3) := by decide +kernel
theorem dX9_nameCards_50 : decode cX9_nameCards 50 = .ok (.invokevirtual 329, 3) := by decide +kernel
theorem dX9_nameCards_53 : decode cX9_nameCards 53 = .ok (.iinc 2 1, 3) := by decide +kernel
theorem dX9_nameCards_56 : decode cX9_nameCards 56 = .ok (.goto (-54), 3) := by decide +kernel
theorem dX9_nameCards_59 : decode cX9_nameCards 59 = .ok (.return_, 1) := by decide +kernel
theorem dX9_unlikeCards_0 : decode cX9_unlikeCards 0 = .ok (.iconst 0, 1) := by decide +kernel
theorem dX9_unlikeCards_1 : decode cX9_unlikeCards 1 = .ok (.istore_n 2, 1) := by decide +kernel
theorem dX9_unlikeCards_2 : decode cX9_unlikeCards 2 = .ok (.iconst 0, 1) := by decide +kernel
theorem dX9_unlikeCards_3 : decode cX9_unlikeCards 3 = .ok (.istore_n 3, 1) := by decide +kernel
theorem dX9_unlikeCards_4 : decode cX9_unlikeCards 4 = .ok (.iload_n 3, 1) := by decide +kernel
theorem dX9_unlikeCards_5 : decode cX9_unlikeCards 5 = .ok (.iload_n 1, 1) := by decide +kernel
theorem dX9_unlikeCards_6 : decode cX9_unlikeCards 6 = .ok (.if_icmp .ge 21, 3) := by decide +kernel
theorem dX9_unlikeCards_9 : decode cX9_unlikeCards 9 = .ok (.aload_n 0, 1) := by decide +kernel
theorem dX9_unlikeCards_10 : decode cX9_unlikeCards 10 = .ok (.iload_n 3, 1) := by decide +kernel
theorem dX9_unlikeCards_11 : decode cX9_unlikeCards 11 = .ok (.iload_n 3, 1) := by decide +kernel
theorem dX9_unlikeCards_12 : decode cX9_unlikeCards 12 = .ok (.invokevirtual 280, 3) := by decide +kernel
theorem dX9_unlikeCards_15 : decode cX9_unlikeCards 15 = .ok (.ifCond .ne 6, 3) := by decide +kernel
theorem dX9_unlikeCards_18 : decode cX9_unlikeCards 18 = .ok (.iinc 2 1, 3) := by decide +kernel
theorem dX9_unlikeCards_21 : decode cX9_unlikeCards 21 = .ok (.iinc 3 1, 3) := by decide +kernel
theorem dX9_unlikeCards_24 : decode cX9_unlikeCards 24 = .ok (.goto (-20), 3) := by decide +kernel
theorem dX9_unlikeCards_27 : decode cX9_unlikeCards 27 = .ok (.iload_n 2, 1) := by decide +kernel
theorem dX9_unlikeCards_28 : decode cX9_unlikeCards 28 = .ok (.ireturn, 1) := by decide +kernel
theorem dX9_cardsLike_0 : decode cX9_cardsLike 0 = .ok (.iconst 0, 1) := by decide +kernel
theorem dX9_cardsLike_1 : decode cX9_cardsLike 1 = .ok (.istore_n 3, 1) := by decide +kernel
theorem dX9_cardsLike_2 : decode cX9_cardsLike 2 = .ok (.iconst 0, 1) := by decide +kernel
theorem dX9_cardsLike_3 : decode cX9_cardsLike 3 = .ok (.istore 4, 2) := by decide +kernel
theorem dX9_cardsLike_5 : decode cX9_cardsLike 5 = .ok (.iload 4, 2) := by decide +kernel
theorem dX9_cardsLike_7 : decode cX9_cardsLike 7 = .ok (.iload_n 2, 1) := by decide +kernel
theorem dX9_cardsLike_8 : decode cX9_cardsLike 8 = .ok (.if_icmp .ge 31, 3) := by decide +kernel
theorem dX9_cardsLike_11 : decode cX9_cardsLike 11 = .ok (.aload_n 0, 1) := by decide +kernel
theorem dX9_cardsLike_12 : decode cX9_cardsLike 12 = .ok (.getfield 77, 3) := by decide +kernel
theorem dX9_cardsLike_15 : decode cX9_cardsLike 15 = .ok (.iload 4, 2) := by decide +kernel
theorem dX9_cardsLike_17 : decode cX9_cardsLike 17 = .ok (.aaload, 1) := by decide +kernel
theorem dX9_cardsLike_18 : decode cX9_cardsLike 18 = .ok (.aload_n 0, 1) := by decide +kernel
theorem dX9_cardsLike_19 : decode cX9_cardsLike 19 = .ok (.getfield 77, 3) := by decide +kernel
theorem dX9_cardsLike_22 : decode cX9_cardsLike 22 = .ok (.iload_n 1, 1) := by decide +kernel
theorem dX9_cardsLike_23 : decode cX9_cardsLike 23 = .ok (.aaload, 1) := by decide +kernel
theorem dX9_cardsLike_24 : decode cX9_cardsLike 24 = .ok (.invokevirtual 234, 3) := by decide +kernel
theorem dX9_cardsLike_27 : decode cX9_cardsLike 27 = .ok (.ifCond .ne 6, 3) := by decide +kernel
theorem dX9_cardsLike_30 : decode cX9_cardsLike 30 = .ok (.iinc 3 1, 3) := by decide +kernel
theorem dX9_cardsLike_33 : decode cX9_cardsLike 33 = .ok (.iinc 4 1, 3) := by decide +kernel
theorem dX9_cardsLike_36 : decode cX9_cardsLike 36 = .ok (.goto (-31), 3) := by decide +kernel
theorem dX9_cardsLike_39 : decode cX9_cardsLike 39 = .ok (.iload_n 3, 1) := by decide +kernel
theorem dX9_cardsLike_40 : decode cX9_cardsLike 40 = .ok (.ireturn, 1) := by decide +kernel
theorem dX9_cellsWith_0 : decode cX9_cellsWith 0 = .ok (.aload_n 0, 1) := by decide +kernel
theorem dX9_cellsWith_1 : decode cX9_cellsWith 1 = .ok (.getfield 51, 3) := by decide +kernel
theorem dX9_cellsWith_4 : decode cX9_cellsWith 4 = .ok (.aload_n 0, 1) := by decide +kernel
theorem dX9_cellsWith_5 : decode cX9_cellsWith 5 = .ok (.getfield 55, 3) := by decide +kernel
theorem dX9_cellsWith_8 : decode cX9_cellsWith 8 = .ok (.invokevirtual 332, 3) := by decide +kernel
theorem dX9_cellsWith_11 : decode cX9_cellsWith 11 = .ok (.iconst 0, 1) := by decide +kernel
theorem dX9_cellsWith_12 : decode cX9_cellsWith 12 = .ok (.istore_n 3, 1) := by decide +kernel
theorem dX9_cellsWith_13 : decode cX9_cellsWith 13 = .ok (.iload_n 3, 1) := by decide +kernel
theorem dX9_cellsWith_14 : decode cX9_cellsWith 14 = .ok (.aload_n 1, 1) := by decide +kernel
theorem dX9_cellsWith_15 : decode cX9_cellsWith 15 = .ok (.getfield 119, 3) := by decide +kernel
theorem dX9_cellsWith_18 : decode cX9_cellsWith 18 = .ok (.if_icmp .ge 25, 3) := by decide +kernel
theorem dX9_cellsWith_21 : decode cX9_cellsWith 21 = .ok (.iload_n 2, 1) := by decide +kernel
theorem dX9_cellsWith_22 : decode cX9_cellsWith 22 = .ok (.iload_n 3, 1) := by decide +kernel
theorem dX9_cellsWith_23 : decode cX9_cellsWith 23 = .ok (.invokestatic 174, 3) := by decide +kernel
theorem dX9_cellsWith_26 : decode cX9_cellsWith 26 = .ok (.ifCond .eq 11, 3) := by decide +kernel
theorem dX9_cellsWith_29 : decode cX9_cellsWith 29 = .ok (.aload_n 0, 1) := by decide +kernel
theorem dX9_cellsWith_30 : decode cX9_cellsWith 30 = .ok (.getfield 51, 3) := by decide +kernel
theorem dX9_cellsWith_33 : decode cX9_cellsWith 33 = .ok (.iload_n 3, 1) := by decide +kernel
theorem dX9_cellsWith_34 : decode cX9_cellsWith 34 = .ok (.invokevirtual 178, 3) := by decide +kernel
theorem dX9_cellsWith_37 : decode cX9_cellsWith 37 = .ok (.iinc 3 1, 3) := by decide +kernel
theorem dX9_cellsWith_40 : decode cX9_cellsWith 40 = .ok (.goto (-27), 3) := by decide +kernel
theorem dX9_cellsWith_43 : decode cX9_cellsWith 43 = .ok (.aload_n 0, 1) := by decide +kernel
theorem dX9_cellsWith_44 : decode cX9_cellsWith 44 = .ok (.getfield 51, 3) := by decide +kernel
theorem dX9_cellsWith_47 : decode cX9_cellsWith 47 = .ok (.aload_n 1, 1) := by decide +kernel
theorem dX9_cellsWith_48 : decode cX9_cellsWith 48 = .ok (.invokevirtual 159, 3) := by decide +kernel
theorem dX9_cellsWith_51 : decode cX9_cellsWith 51 = .ok (.aload_n 0, 1) := by decide +kernel
theorem dX9_cellsWith_52 : decode cX9_cellsWith 52 = .ok (.getfield 51, 3) := by decide +kernel
theorem dX9_cellsWith_55 : decode cX9_cellsWith 55 = .ok (.getfield 135, 3) := by decide +kernel
theorem dX9_cellsWith_58 : decode cX9_cellsWith 58 = .ok (.ireturn, 1) := by decide +kernel
theorem dX9_fewestApart_0 : decode cX9_fewestApart 0 = .ok (.aload_n 0, 1) := by decide +kernel
theorem dX9_fewestApart_1 : decode cX9_fewestApart 1 = .ok (.getfield 55, 3) := by decide +kernel
theorem dX9_fewestApart_4 : decode cX9_fewestApart 4 = .ok (.aload_n 1, 1) := by decide +kernel
theorem dX9_fewestApart_5 : decode cX9_fewestApart 5 = .ok (.invokevirtual 168, 3) := by decide +kernel
theorem dX9_fewestApart_8 : decode cX9_fewestApart 8 = .ok (.iconst 1, 1) := by decide +kernel
theorem dX9_fewestApart_9 : decode cX9_fewestApart 9 = .ok (.aload_n 1, 1) := by decide +kernel
theorem dX9_fewestApart_10 : decode cX9_fewestApart 10 = .ok (.getfield 119, 3) := by decide +kernel
theorem dX9_fewestApart_13 : decode cX9_fewestApart 13 = .ok (.ishl, 1) := by decide +kernel
theorem dX9_fewestApart_14 : decode cX9_fewestApart 14 = .ok (.iconst 1, 1) := by decide +kernel
theorem dX9_fewestApart_15 : decode cX9_fewestApart 15 = .ok (.isub, 1) := by decide +kernel
theorem dX9_fewestApart_16 : decode cX9_fewestApart 16 = .ok (.istore_n 2, 1) := by decide +kernel
theorem dX9_fewestApart_17 : decode cX9_fewestApart 17 = .ok (.iload_n 2, 1) := by decide +kernel
theorem dX9_fewestApart_18 : decode cX9_fewestApart 18 = .ok (.istore_n 3, 1) := by decide +kernel
theorem dX9_fewestApart_19 : decode cX9_fewestApart 19 = .ok (.iconst 0, 1) := by decide +kernel
theorem dX9_fewestApart_20 : decode cX9_fewestApart 20 = .ok (.istore 4, 2) := by decide +kernel
theorem dX9_fewestApart_22 : decode cX9_fewestApart 22 = .ok (.iload 4, 2) := by decide +kernel
theorem dX9_fewestApart_24 : decode cX9_fewestApart 24 = .ok (.iload_n 2, 1) := by decide +kernel
theorem dX9_fewestApart_25 : decode cX9_fewestApart 25 = .ok (.if_icmp .ge 38, 3) := by decide +kernel
theorem dX9_fewestApart_28 : decode cX9_fewestApart 28 = .ok (.iload 4, 2) := by decide +kernel
theorem dX9_fewestApart_30 : decode cX9_fewestApart 30 = .ok (.invokestatic 154, 3) := by decide +kernel
theorem dX9_fewestApart_33 : decode cX9_fewestApart 33 = .ok (.iload_n 3, 1) := by decide +kernel
theorem dX9_fewestApart_34 : decode cX9_fewestApart 34 = .ok (.invokestatic 154, 3) := by decide +kernel
theorem dX9_fewestApart_37 : decode cX9_fewestApart 37 = .ok (.if_icmp .ge 20, 3) := by decide +kernel
theorem dX9_fewestApart_40 : decode cX9_fewestApart 40 = .ok (.aload_n 0, 1) := by decide +kernel
theorem dX9_fewestApart_41 : decode cX9_fewestApart 41 = .ok (.aload_n 1, 1) := by decide +kernel
theorem dX9_fewestApart_42 : decode cX9_fewestApart 42 = .ok (.iload 4, 2) := by decide +kernel
theorem dX9_fewestApart_44 : decode cX9_fewestApart 44 = .ok (.invokevirtual 286, 3) := by decide +kernel
theorem dX9_fewestApart_47 : decode cX9_fewestApart 47 = .ok (.aload_n 1, 1) := by decide +kernel
theorem dX9_fewestApart_48 : decode cX9_fewestApart 48 = .ok (.getfield 119, 3) := by decide +kernel
theorem dX9_fewestApart_51 : decode cX9_fewestApart 51 = .ok (.if_icmp .ne 6, 3) := by decide +kernel
theorem dX9_fewestApart_54 : decode cX9_fewestApart 54 = .ok (.iload 4, 2) := by decide +kernel
theorem dX9_fewestApart_56 : decode cX9_fewestApart 56 = .ok (.istore_n 3, 1) := by decide +kernel
theorem dX9_fewestApart_57 : decode cX9_fewestApart 57 = .ok (.iinc 4 1, 3) := by decide +kernel
theorem dX9_fewestApart_60 : decode cX9_fewestApart 60 = .ok (.goto (-38), 3) := by decide +kernel
theorem dX9_fewestApart_63 : decode cX9_fewestApart 63 = .ok (.iload_n 3, 1) := by decide +kernel
theorem dX9_fewestApart_64 : decode cX9_fewestApart 64 = .ok (.ireturn, 1) := by decide +kernel
theorem dX9_in_0 : decode cX9_in 0 = .ok (.iload_n 0, 1) := by decide +kernel
theorem dX9_in_1 : decode cX9_in 1 = .ok (.iload_n 1, 1) := by decide +kernel
theorem dX9_in_2 : decode cX9_in 2 = .ok (.ishr, 1) := by decide +kernel
theorem dX9_in_3 : decode cX9_in 3 = .ok (.iconst 1, 1) := by decide +kernel
theorem dX9_in_4 : decode cX9_in 4 = .ok (.iand, 1) := by decide +kernel
theorem dX9_in_5 : decode cX9_in 5 = .ok (.ifCond .eq 7, 3) := by decide +kernel
theorem dX9_in_8 : decode cX9_in 8 = .ok (.iconst 1, 1) := by decide +kernel
theorem dX9_in_9 : decode cX9_in 9 = .ok (.goto 4, 3) := by decide +kernel
theorem dX9_in_12 : decode cX9_in 12 = .ok (.iconst 0, 1) := by decide +kernel
theorem dX9_in_13 : decode cX9_in 13 = .ok (.ireturn, 1) := by decide +kernel
theorem dX9_sentTo_0 : decode cX9_sentTo 0 = .ok (.iload_n 0, 1) := by decide +kernel
theorem dX9_sentTo_1 : decode cX9_sentTo 1 = .ok (.iconst 3, 1) := by decide +kernel
theorem dX9_sentTo_2 : decode cX9_sentTo 2 = .ok (.iload_n 1, 1) := by decide +kernel
theorem dX9_sentTo_3 : decode cX9_sentTo 3 = .ok (.imul, 1) := by decide +kernel
theorem dX9_sentTo_4 : decode cX9_sentTo 4 = .ok (.ishr, 1) := by decide +kernel
theorem dX9_sentTo_5 : decode cX9_sentTo 5 = .ok (.bipush 7, 2) := by decide +kernel
theorem dX9_sentTo_7 : decode cX9_sentTo 7 = .ok (.iand, 1) := by decide +kernel
theorem dX9_sentTo_8 : decode cX9_sentTo 8 = .ok (.ireturn, 1) := by decide +kernel
theorem dX10_init_0 : decode cX10_init 0 = .ok (.aload_n 0, 1) := by decide +kernel
theorem dX10_init_1 : decode cX10_init 1 = .ok (.invokespecial 1, 3) := by decide +kernel
theorem dX10_init_4 : decode cX10_init 4 = .ok (.aload_n 0, 1) := by decide +kernel
theorem dX10_init_5 : decode cX10_init 5 = .ok (.iconst (-1), 1) := by decide +kernel
theorem dX10_init_6 : decode cX10_init 6 = .ok (.putfield 9, 3) := by decide +kernel
theorem dX10_init_9 : decode cX10_init 9 = .ok (.aload_n 0, 1) := by decide +kernel
theorem dX10_init_10 : decode cX10_init 10 = .ok (.sipush 171, 3) := by decide +kernel
theorem dX10_init_13 : decode cX10_init 13 = .ok (.newarray .int, 2) := by decide +kernel
theorem dX10_init_15 : decode cX10_init 15 = .ok (.putfield 13, 3) := by decide +kernel
theorem dX10_init_18 : decode cX10_init 18 = .ok (.aload_n 0, 1) := by decide +kernel
theorem dX10_init_19 : decode cX10_init 19 = .ok (.sipush 1368, 3) := by decide +kernel
theorem dX10_init_22 : decode cX10_init 22 = .ok (.newarray .int, 2) := by decide +kernel
theorem dX10_init_24 : decode cX10_init 24 = .ok (.putfield 17, 3) := by decide +kernel
theorem dX10_init_27 : decode cX10_init 27 = .ok (.aload_n 0, 1) := by decide +kernel
theorem dX10_init_28 : decode cX10_init 28 = .ok (.sipush 342, 3) := by decide +kernel
theorem dX10_init_31 : decode cX10_init 31 = .ok (.newarray .int, 2) := by decide +kernel
theorem dX10_init_33 : decode cX10_init 33 = .ok (.putfield 20, 3) := by decide +kernel
theorem dX10_init_36 : decode cX10_init 36 = .ok (.aload_n 0, 1) := by decide +kernel
theorem dX10_init_37 : decode cX10_init 37 = .ok (.iconst 2, 1) := by decide +kernel
theorem dX10_init_38 : decode cX10_init 38 = .ok (.newarray .boolean, 2) := by decide +kernel
theorem dX10_init_40 : decode cX10_init 40 = .ok (.putfield 23, 3) := by decide +kernel
theorem dX10_init_43 : decode cX10_init 43 = .ok (.aload_n 0, 1) := by decide +kernel
theorem dX10_init_44 : decode cX10_init 44 = .ok (.sipush 400, 3) := by decide +kernel
theorem dX10_init_47 : decode cX10_init 47 = .ok (.newarray .int, 2) := by decide +kernel
theorem dX10_init_49 : decode cX10_init 49 = .ok (.putfield 27, 3) := by decide +kernel
theorem dX10_init_52 : decode cX10_init 52 = .ok (.aload_n 0, 1) := by decide +kernel
theorem dX10_init_53 : decode cX10_init 53 = .ok (.bipush 57, 2) := by decide +kernel
theorem dX10_init_55 : decode cX10_init 55 = .ok (.newarray .int, 2) := by decide +kernel
theorem dX10_init_57 : decode cX10_init 57 = .ok (.putfield 30, 3) := by decide +kernel
theorem dX10_init_60 : decode cX10_init 60 = .ok (.aload_n 0, 1) := by decide +kernel
theorem dX10_init_61 : decode cX10_init 61 = .ok (.bipush 7, 2) := by decide +kernel
theorem dX10_init_63 : decode cX10_init 63 = .ok (.newarray .int, 2) := by decide +kernel
theorem dX10_init_65 : decode cX10_init 65 = .ok (.putfield 33, 3) := by decide +kernel
theorem dX10_init_68 : decode cX10_init 68 = .ok (.aload_n 0, 1) := by decide +kernel
theorem dX10_init_69 : decode cX10_init 69 = .ok (.bipush 49, 2) := by decide +kernel
theorem dX10_init_71 : decode cX10_init 71 = .ok (.newarray .int, 2) := by decide +kernel
theorem dX10_init_73 : decode cX10_init 73 = .ok (.putfield 36, 3) := by decide +kernel
theorem dX10_init_76 : decode cX10_init 76 = .ok (.aload_n 0, 1) := by decide +kernel
theorem dX10_init_77 : decode cX10_init 77 = .ok (.bipush 7, 2) := by decide +kernel
theorem dX10_init_79 : decode cX10_init 79 = .ok (.newarray .int, 2) := by decide +kernel
theorem dX10_init_81 : decode cX10_init 81 = .ok (.putfield 39, 3) := by decide +kernel
theorem dX10_init_84 : decode cX10_init 84 = .ok (.aload_n 0, 1) := by decide +kernel
theorem dX10_init_85 : decode cX10_init 85 = .ok (.sipush 154, 3) := by decide +kernel
theorem dX10_init_88 : decode cX10_init 88 = .ok (.newarray .int, 2) := by decide +kernel
theorem dX10_init_90 : decode cX10_init 90 = .ok (.putfield 42, 3) := by decide +kernel
theorem dX10_init_93 : decode cX10_init 93 = .ok (.aload_n 0, 1) := by decide +kernel
theorem dX10_init_94 : decode cX10_init 94 = .ok (.bipush 7, 2) := by decide +kernel
theorem dX10_init_96 : decode cX10_init 96 = .ok (.newarray .int, 2) := by decide +kernel
theorem dX10_init_98 : decode cX10_init 98 = .ok (.putfield 45, 3) := by decide +kernel
theorem dX10_init_101 : decode cX10_init 101 = .ok (.aload_n 0, 1) := by decide +kernel
theorem dX10_init_102 : decode cX10_init 102 = .ok (.bipush 56, 2) := by decide +kernel
theorem dX10_init_104 : decode cX10_init 104 = .ok (.newarray .int, 2) := by decide +kernel
theorem dX10_init_106 : decode cX10_init 106 = .ok (.putfield 48, 3) := by decide +kernel
theorem dX10_init_109 : decode cX10_init 109 = .ok (.aload_n 0, 1) := by decide +kernel
theorem dX10_init_110 : decode cX10_init 110 = .ok (.bipush 8, 2) := by decide +kernel
theorem dX10_init_112 : decode cX10_init 112 = .ok (.newarray .int, 2) := by decide +kernel
theorem dX10_init_114 : decode cX10_init 114 = .ok (.putfield 51, 3) := by decide +kernel
theorem dX10_init_117 : decode cX10_init 117 = .ok (.aload_n 0, 1) := by decide +kernel
theorem dX10_init_118 : decode cX10_init 118 = .ok (.bipush 28, 2) := by decide +kernel
theorem dX10_init_120 : decode cX10_init 120 = .ok (.newarray .int, 2) := by decide +kernel
theorem dX10_init_122 : decode cX10_init 122 = .ok (.putfield 54, 3) := by decide +kernel
theorem dX10_init_125 : decode cX10_init 125 = .ok (.aload_n 0, 1) := by decide +kernel
theorem dX10_init_126 : decode cX10_init 126 = .ok (.bipush 8, 2) := by decide +kernel
theorem dX10_init_128 : decode cX10_init 128 = .ok (.newarray .int, 2) := by decide +kernel
theorem dX10_init_130 : decode cX10_init 130 = .ok (.putfield 57, 3) := by decide +kernel
theorem dX10_init_133 : decode cX10_init 133 = .ok (.aload_n 0, 1) := by decide +kernel
theorem dX10_init_134 : decode cX10_init 134 = .ok (.bipush 28, 2) := by decide +kernel
theorem dX10_init_136 : decode cX10_init 136 = .ok (.newarray .int, 2) := by decide +kernel
theorem dX10_init_138 : decode cX10_init 138 = .ok (.putfield 60, 3) := by decide +kernel
theorem dX10_init_141 : decode cX10_init 141 = .ok (.aload_n 0, 1) := by decide +kernel
theorem dX10_init_142 : decode cX10_init 142 = .ok (.bipush 7, 2) := by decide +kernel
theorem dX10_init_144 : decode cX10_init 144 = .ok (.newarray .int, 2) := by decide +kernel
theorem dX10_init_146 : decode cX10_init 146 = .ok (.putfield 63, 3) := by decide +kernel
theorem dX10_init_149 : decode cX10_init 149 = .ok (.aload_n 0, 1) := by decide +kernel
theorem dX10_init_150 : decode cX10_init 150 = .ok (.sipush 196, 3) := by decide +kernel
theorem dX10_init_153 : decode cX10_init 153 = .ok (.newarray .int, 2) := by decide +kernel
theorem dX10_init_155 : decode cX10_init 155 = .ok (.putfield 66, 3) := by decide +kernel
theorem dX10_init_158 : decode cX10_init 158 = .ok (.aload_n 0, 1) := by decide +kernel
theorem dX10_init_159 : decode cX10_init 159 = .ok (.bipush 8, 2) := by decide +kernel
theorem dX10_init_161 : decode cX10_init 161 = .ok (.newarray .int, 2) := by decide +kernel
theorem dX10_init_163 : decode cX10_init 163 = .ok (.putfield 69, 3) := by decide +kernel
theorem dX10_init_166 : decode cX10_init 166 = .ok (.aload_n 0, 1) := by decide +kernel
theorem dX10_init_167 : decode cX10_init 167 = .ok (.bipush 8, 2) := by decide +kernel
theorem dX10_init_169 : decode cX10_init 169 = .ok (.newarray .int, 2) := by decide +kernel
theorem dX10_init_171 : decode cX10_init 171 = .ok (.putfield 72, 3) := by decide +kernel
theorem dX10_init_174 : decode cX10_init 174 = .ok (.aload_n 0, 1) := by decide +kernel
theorem dX10_init_175 : decode cX10_init 175 = .ok (.bipush 28, 2) := by decide +kernel
theorem dX10_init_177 : decode cX10_init 177 = .ok (.newarray .int, 2) := by decide +kernel
theorem dX10_init_179 : decode cX10_init 179 = .ok (.putfield 75, 3) := by decide +kernel
theorem dX10_init_182 : decode cX10_init 182 = .ok (.aload_n 0, 1) := by decide +kernel
theorem dX10_init_183 : decode cX10_init 183 = .ok (.bipush 7, 2) := by decide +kernel
theorem dX10_init_185 : decode cX10_init 185 = .ok (.newarray .int, 2) := by decide +kernel
theorem dX10_init_187 : decode cX10_init 187 = .ok (.putfield 78, 3) := by decide +kernel
theorem dX10_init_190 : decode cX10_init 190 = .ok (.aload_n 0, 1) := by decide +kernel
theorem dX10_init_191 : decode cX10_init 191 = .ok (.sipush 5040, 3) := by decide +kernel
theorem dX10_init_194 : decode cX10_init 194 = .ok (.newarray .int, 2) := by decide +kernel
theorem dX10_init_196 : decode cX10_init 196 = .ok (.putfield 81, 3) := by decide +kernel
theorem dX10_init_199 : decode cX10_init 199 = .ok (.aload_n 0, 1) := by decide +kernel
theorem dX10_init_200 : decode cX10_init 200 = .ok (.bipush 7, 2) := by decide +kernel
theorem dX10_init_202 : decode cX10_init 202 = .ok (.newarray .int, 2) := by decide +kernel
theorem dX10_init_204 : decode cX10_init 204 = .ok (.putfield 84, 3) := by decide +kernel
theorem dX10_init_207 : decode cX10_init 207 = .ok (.aload_n 0, 1) := by decide +kernel
theorem dX10_init_208 : decode cX10_init 208 = .ok (.bipush 49, 2) := by decide +kernel
theorem dX10_init_210 : decode cX10_init 210 = .ok (.newarray .int, 2) := by decide +kernel
theorem dX10_init_212 : decode cX10_init 212 = .ok (.putfield 87, 3) := by decide +kernel
theorem dX10_init_215 : decode cX10_init 215 = .ok (.aload_n 0, 1) := by decide +kernel
theorem dX10_init_216 : decode cX10_init 216 = .ok (.bipush 7, 2) := by decide +kernel
theorem dX10_init_218 : decode cX10_init 218 = .ok (.newarray .int, 2) := by decide +kernel
theorem dX10_init_220 : decode cX10_init 220 = .ok (.putfield 90, 3) := by decide +kernel
theorem dX10_init_223 : decode cX10_init 223 = .ok (.aload_n 0, 1) := by decide +kernel
theorem dX10_init_224 : decode cX10_init 224 = .ok (.bipush 7, 2) := by decide +kernel
theorem dX10_init_226 : decode cX10_init 226 = .ok (.newarray .int, 2) := by decide +kernel
theorem dX10_init_228 : decode cX10_init 228 = .ok (.putfield 93, 3) := by decide +kernel
theorem dX10_init_231 : decode cX10_init 231 = .ok (.aload_n 0, 1) := by decide +kernel
theorem dX10_init_232 : decode cX10_init 232 = .ok (.bipush 7, 2) := by decide +kernel
theorem dX10_init_234 : decode cX10_init 234 = .ok (.newarray .int, 2) := by decide +kernel
theorem dX10_init_236 : decode cX10_init 236 = .ok (.putfield 96, 3) := by decide +kernel
theorem dX10_init_239 : decode cX10_init 239 = .ok (.aload_n 0, 1) := by decide +kernel
theorem dX10_init_240 : decode cX10_init 240 = .ok (.bipush 7, 2) := by decide +kernel
theorem dX10_init_242 : decode cX10_init 242 = .ok (.newarray .int, 2) := by decide +kernel
theorem dX10_init_244 : decode cX10_init 244 = .ok (.putfield 99, 3) := by decide +kernel
theorem dX10_init_247 : decode cX10_init 247 = .ok (.aload_n 0, 1) := by decide +kernel
theorem dX10_init_248 : decode cX10_init 248 = .ok (.sipush 154, 3) := by decide +kernel
theorem dX10_init_251 : decode cX10_init 251 = .ok (.newarray .int, 2) := by decide +kernel
theorem dX10_init_253 : decode cX10_init 253 = .ok (.putfield 102, 3) := by decide +kernel
theorem dX10_init_256 : decode cX10_init 256 = .ok (.iconst 0, 1) := by decide +kernel
theorem dX10_init_257 : decode cX10_init 257 = .ok (.istore_n 1, 1) := by decide +kernel
theorem dX10_init_258 : decode cX10_init 258 = .ok (.iload_n 1, 1) := by decide +kernel
theorem dX10_init_259 : decode cX10_init 259 = .ok (.iconst 3, 1) := by decide +kernel
theorem dX10_init_260 : decode cX10_init 260 = .ok (.if_icmp .ge 19, 3) := by decide +kernel
theorem dX10_init_263 : decode cX10_init 263 = .ok (.aload_n 0, 1) := by decide +kernel
theorem dX10_init_264 : decode cX10_init 264 = .ok (.getfield 13, 3) := by decide +kernel
theorem dX10_init_267 : decode cX10_init 267 = .ok (.bipush 57, 2) := by decide +kernel
theorem dX10_init_269 : decode cX10_init 269 = .ok (.iload_n 1, 1) := by decide +kernel
theorem dX10_init_270 : decode cX10_init 270 = .ok (.imul, 1) := by decide +kernel
theorem dX10_init_271 : decode cX10_init 271 = .ok (.iconst 1, 1) := by decide +kernel
theorem dX10_init_272 : decode cX10_init 272 = .ok (.iastore, 1) := by decide +kernel
theorem dX10_init_273 : decode cX10_init 273 = .ok (.iinc 1 1, 3) := by decide +kernel
theorem dX10_init_276 : decode cX10_init 276 = .ok (.goto (-18), 3) := by decide +kernel
theorem dX10_init_279 : decode cX10_init 279 = .ok (.return_, 1) := by decide +kernel
theorem dX10_thrown_0 : decode cX10_thrown 0 = .ok (.aload_n 0, 1) := by decide +kernel
theorem dX10_thrown_1 : decode cX10_thrown 1 = .ok (.getfield 105, 3) := by decide +kernel
theorem dX10_thrown_4 : decode cX10_thrown 4 = .ok (.ireturn, 1) := by decide +kernel
theorem dX10_in_0 : decode cX10_in 0 = .ok (.iload_n 0, 1) := by decide +kernel
theorem dX10_in_1 : decode cX10_in 1 = .ok (.iload_n 1, 1) := by decide +kernel
theorem dX10_in_2 : decode cX10_in 2 = .ok (.if_icmp .lt 12, 3) := by decide +kernel
theorem dX10_in_5 : decode cX10_in 5 = .ok (.iload_n 0, 1) := by decide +kernel
theorem dX10_in_6 : decode cX10_in 6 = .ok (.iload_n 2, 1) := by decide +kernel
theorem dX10_in_7 : decode cX10_in 7 = .ok (.if_icmp .gt 7, 3) := by decide +kernel
theorem dX10_in_10 : decode cX10_in 10 = .ok (.iconst 1, 1) := by decide +kernel
theorem dX10_in_11 : decode cX10_in 11 = .ok (.goto 4, 3) := by decide +kernel
theorem dX10_in_14 : decode cX10_in 14 = .ok (.iconst 0, 1) := by decide +kernel
theorem dX10_in_15 : decode cX10_in 15 = .ok (.ireturn, 1) := by decide +kernel
theorem dX10_has_0 : decode cX10_has 0 = .ok (.iload_n 0, 1) := by decide +kernel
theorem dX10_has_1 : decode cX10_has 1 = .ok (.iload_n 1, 1) := by decide +kernel
theorem dX10_has_2 : decode cX10_has 2 = .ok (.ishr, 1) := by decide +kernel
theorem dX10_has_3 : decode cX10_has 3 = .ok (.iconst 1, 1) := by decide +kernel
theorem dX10_has_4 : decode cX10_has 4 = .ok (.iand, 1) := by decide +kernel
theorem dX10_has_5 : decode cX10_has 5 = .ok (.iconst 1, 1) := by decide +kernel
theorem dX10_has_6 : decode cX10_has 6 = .ok (.if_icmp .ne 7, 3) := by decide +kernel
theorem dX10_has_9 : decode cX10_has 9 = .ok (.iconst 1, 1) := by decide +kernel
theorem dX10_has_10 : decode cX10_has 10 = .ok (.goto 4, 3) := by decide +kernel
theorem dX10_has_13 : decode cX10_has 13 = .ok (.iconst 0, 1) := by decide +kernel
theorem dX10_has_14 : decode cX10_has 14 = .ok (.ireturn, 1) := by decide +kernel
theorem dX10_ones_0 : decode cX10_ones 0 = .ok (.iconst 0, 1) := by decide +kernel
theorem dX10_ones_1 : decode cX10_ones 1 = .ok (.istore_n 1, 1) := by decide +kernel
theorem dX10_ones_2 : decode cX10_ones 2 = .ok (.iconst 0, 1) := by decide +kernel
theorem dX10_ones_3 : decode cX10_ones 3 = .ok (.istore_n 2, 1) := by decide +kernel
theorem dX10_ones_4 : decode cX10_ones 4 = .ok (.iload_n 2, 1) := by decide +kernel
theorem dX10_ones_5 : decode cX10_ones 5 = .ok (.bipush 7, 2) := by decide +kernel
theorem dX10_ones_7 : decode cX10_ones 7 = .ok (.if_icmp .ge 17, 3) := by decide +kernel
theorem dX10_ones_10 : decode cX10_ones 10 = .ok (.iload_n 1, 1) := by decide +kernel
theorem dX10_ones_11 : decode cX10_ones 11 = .ok (.iload_n 0, 1) := by decide +kernel
theorem dX10_ones_12 : decode cX10_ones 12 = .ok (.iload_n 2, 1) := by decide +kernel
theorem dX10_ones_13 : decode cX10_ones 13 = .ok (.ishr, 1) := by decide +kernel
theorem dX10_ones_14 : decode cX10_ones 14 = .ok (.iconst 1, 1) := by decide +kernel
theorem dX10_ones_15 : decode cX10_ones 15 = .ok (.iand, 1) := by decide +kernel
theorem dX10_ones_16 : decode cX10_ones 16 = .ok (.iadd, 1) := by decide +kernel
theorem dX10_ones_17 : decode cX10_ones 17 = .ok (.istore_n 1, 1) := by decide +kernel
theorem dX10_ones_18 : decode cX10_ones 18 = .ok (.iinc 2 1, 3) := by decide +kernel
theorem dX10_ones_21 : decode cX10_ones 21 = .ok (.goto (-17), 3) := by decide +kernel
theorem dX10_ones_24 : decode cX10_ones 24 = .ok (.iload_n 1, 1) := by decide +kernel
theorem dX10_ones_25 : decode cX10_ones 25 = .ok (.ireturn, 1) := by decide +kernel
theorem dX10_begins_0 : decode cX10_begins 0 = .ok (.aload_n 0, 1) := by decide +kernel
theorem dX10_begins_1 : decode cX10_begins 1 = .ok (.iconst 0, 1) := by decide +kernel
theorem dX10_begins_2 : decode cX10_begins 2 = .ok (.putfield 105, 3) := by decide +kernel
theorem dX10_begins_5 : decode cX10_begins 5 = .ok (.aload_n 0, 1) := by decide +kernel
theorem dX10_begins_6 : decode cX10_begins 6 = .ok (.iconst 0, 1) := by decide +kernel
theorem dX10_begins_7 : decode cX10_begins 7 = .ok (.putfield 108, 3) := by decide +kernel
theorem dX10_begins_10 : decode cX10_begins 10 = .ok (.aload_n 0, 1) := by decide +kernel
theorem dX10_begins_11 : decode cX10_begins 11 = .ok (.iconst (-1), 1) := by decide +kernel
theorem dX10_begins_12 : decode cX10_begins 12 = .ok (.putfield 9, 3) := by decide +kernel
theorem dX10_begins_15 : decode cX10_begins 15 = .ok (.return_, 1) := by decide +kernel
theorem dX10_refuse_0 : decode cX10_refuse 0 = .ok (.aload_n 0, 1) := by decide +kernel
theorem dX10_refuse_1 : decode cX10_refuse 1 = .ok (.getfield 108, 3) := by decide +kernel
theorem dX10_refuse_4 : decode cX10_refuse 4 = .ok (.ifCond .ne 12, 3) := by decide +kernel
theorem dX10_refuse_7 : decode cX10_refuse 7 = .ok (.iload_n 1, 1) := by decide +kernel
theorem dX10_refuse_8 : decode cX10_refuse 8 = .ok (.ifCond .eq 8, 3) := by decide +kernel
theorem dX10_refuse_11 : decode cX10_refuse 11 = .ok (.aload_n 0, 1) := by decide +kernel
theorem dX10_refuse_12 : decode cX10_refuse 12 = .ok (.iload_n 2, 1) := by decide +kernel
theorem dX10_refuse_13 : decode cX10_refuse 13 = .ok (.putfield 108, 3) := by decide +kernel
theorem dX10_refuse_16 : decode cX10_refuse 16 = .ok (.aload_n 0, 1) := by decide +kernel
theorem dX10_refuse_17 : decode cX10_refuse 17 = .ok (.getfield 108, 3) := by decide +kernel
theorem dX10_refuse_20 : decode cX10_refuse 20 = .ok (.ifCond .eq 7, 3) := by decide +kernel
theorem dX10_refuse_23 : decode cX10_refuse 23 = .ok (.iconst 1, 1) := by decide +kernel
theorem dX10_refuse_24 : decode cX10_refuse 24 = .ok (.goto 4, 3) := by decide +kernel
theorem dX10_refuse_27 : decode cX10_refuse 27 = .ok (.iconst 0, 1) := by decide +kernel
theorem dX10_refuse_28 : decode cX10_refuse 28 = .ok (.ireturn, 1) := by decide +kernel
theorem dX10_feed_0 : decode cX10_feed 0 = .ok (.aload_n 0, 1) := by decide +kernel
theorem dX10_feed_1 : decode cX10_feed 1 = .ok (.iconst 0, 1) := by decide +kernel
theorem dX10_feed_2 : decode cX10_feed 2 = .ok (.putfield 105, 3) := by decide +kernel
theorem dX10_feed_5 : decode cX10_feed 5 = .ok (.aload_n 0, 1) := by decide +kernel
theorem dX10_feed_6 : decode cX10_feed 6 = .ok (.getfield 111, 3) := by decide +kernel
theorem dX10_feed_9 : decode cX10_feed 9 = .ok (.bipush 20, 2) := by decide +kernel
theorem dX10_feed_11 : decode cX10_feed 11 = .ok (.iadd, 1) := by decide +kernel
theorem dX10_feed_12 : decode cX10_feed 12 = .ok (.sipush 400, 3) := by decide +kernel
theorem dX10_feed_15 : decode cX10_feed 15 = .ok (.if_icmp .le 5, 3) := by decide +kernel
theorem dX10_feed_18 : decode cX10_feed 18 = .ok (.iconst (-1), 1) := by decide +kernel
theorem dX10_feed_19 : decode cX10_feed 19 = .ok (.ireturn, 1) := by decide +kernel
theorem dX10_feed_20 : decode cX10_feed 20 = .ok (.iconst 0, 1) := by decide +kernel
theorem dX10_feed_21 : decode cX10_feed 21 = .ok (.istore 6, 2) := by decide +kernel
theorem dX10_feed_23 : decode cX10_feed 23 = .ok (.iload 6, 2) := by decide +kernel
theorem dX10_feed_25 : decode cX10_feed 25 = .ok (.bipush 20, 2) := by decide +kernel
theorem dX10_feed_27 : decode cX10_feed 27 = .ok (.if_icmp .ge 86, 3) := by decide +kernel
theorem dX10_feed_30 : decode cX10_feed 30 = .ok (.iload 6, 2) := by decide +kernel
theorem dX10_feed_32 : decode cX10_feed 32 = .ok (.iconst 4, 1) := by decide +kernel
theorem dX10_feed_33 : decode cX10_feed 33 = .ok (.if_icmp .ge 7, 3) := by decide +kernel
theorem dX10_feed_36 : decode cX10_feed 36 = .ok (.iload_n 1, 1) := by decide +kernel
theorem dX10_feed_37 : decode cX10_feed 37 = .ok (.goto 39, 3) := by decide +kernel
theorem dX10_feed_40 : decode cX10_feed 40 = .ok (.iload 6, 2) := by decide +kernel
theorem dX10_feed_42 : decode cX10_feed 42 = .ok (.bipush 8, 2) := by decide +kernel
theorem dX10_feed_44 : decode cX10_feed 44 = .ok (.if_icmp .ge 7, 3) := by decide +kernel
theorem dX10_feed_47 : decode cX10_feed 47 = .ok (.iload_n 2, 1) := by decide +kernel
theorem dX10_feed_48 : decode cX10_feed 48 = .ok (.goto 28, 3) := by decide +kernel
theorem dX10_feed_51 : decode cX10_feed 51 = .ok (.iload 6, 2) := by decide +kernel
theorem dX10_feed_53 : decode cX10_feed 53 = .ok (.bipush 12, 2) := by decide +kernel
theorem dX10_feed_55 : decode cX10_feed 55 = .ok (.if_icmp .ge 7, 3) := by decide +kernel
theorem dX10_feed_58 : decode cX10_feed 58 = .ok (.iload_n 3, 1) := by decide +kernel
theorem dX10_feed_59 : decode cX10_feed 59 = .ok (.goto 17, 3) := by decide +kernel
theorem dX10_feed_62 : decode cX10_feed 62 = .ok (.iload 6, 2) := by decide +kernel
theorem dX10_feed_64 : decode cX10_feed 64 = .ok (.bipush 16, 2) := by decide +kernel
theorem dX10_feed_66 : decode cX10_feed 66 = .ok (.if_icmp .ge 8, 3) := by decide +kernel
theorem dX10_feed_69 : decode cX10_feed 69 = .ok (.iload 4, 2) := by decide +kernel
theorem dX10_feed_71 : decode cX10_feed 71 = .ok (.goto 5, 3) := by decide +kernel
theorem dX10_feed_74 : decode cX10_feed 74 = .ok (.iload 5, 2) := by decide +kernel
theorem dX10_feed_76 : decode cX10_feed 76 = .ok (.istore 7, 2) := by decide +kernel
theorem dX10_feed_78 : decode cX10_feed 78 = .ok (.aload_n 0, 1) := by decide +kernel
theorem dX10_feed_79 : decode cX10_feed 79 = .ok (.getfield 27, 3) := by decide +kernel
theorem dX10_feed_82 : decode cX10_feed 82 = .ok (.aload_n 0, 1) := by decide +kernel
theorem dX10_feed_83 : decode cX10_feed 83 = .ok (.getfield 111, 3) := by decide +kernel
theorem dX10_feed_86 : decode cX10_feed 86 = .ok (.iload 6, 2) := by decide +kernel
theorem dX10_feed_88 : decode cX10_feed 88 = .ok (.iadd, 1) := by decide +kernel
theorem dX10_feed_89 : decode cX10_feed 89 = .ok (.iload 7, 2) := by decide +kernel
theorem dX10_feed_91 : decode cX10_feed 91 = .ok (.bipush 24, 2) := by decide +kernel
theorem dX10_feed_93 : decode cX10_feed 93 = .ok (.bipush 8, 2) := by decide +kernel
theorem dX10_feed_95 : decode cX10_feed 95 = .ok (.iload 6, 2) := by decide +kernel
theorem dX10_feed_97 : decode cX10_feed 97 = .ok (.iconst 4, 1) := by decide +kernel
theorem dX10_feed_98 : decode cX10_feed 98 = .ok (.irem, 1) := by decide +kernel
theorem dX10_feed_99 : decode cX10_feed 99 = .ok (.imul, 1) := by decide +kernel
theorem dX10_feed_100 : decode cX10_feed 100 = .ok (.isub, 1) := by decide +kernel
theorem dX10_feed_101 : decode cX10_feed 101 = .ok (.ishr, 1) := by decide +kernel
theorem dX10_feed_102 : decode cX10_feed 102 = .ok (.sipush 255, 3) := by decide +kernel
theorem dX10_feed_105 : decode cX10_feed 105 = .ok (.iand, 1) := by decide +kernel
theorem dX10_feed_106 : decode cX10_feed 106 = .ok (.iastore, 1) := by decide +kernel
theorem dX10_feed_107 : decode cX10_feed 107 = .ok (.iinc 6 1, 3) := by decide +kernel
theorem dX10_feed_110 : decode cX10_feed 110 = .ok (.goto (-87), 3) := by decide +kernel
theorem dX10_feed_113 : decode cX10_feed 113 = .ok (.aload_n 0, 1) := by decide +kernel
theorem dX10_feed_114 : decode cX10_feed 114 = .ok (.dup, 1) := by decide +kernel
theorem dX10_feed_115 : decode cX10_feed 115 = .ok (.getfield 111, 3) := by decide +kernel
theorem dX10_feed_118 : decode cX10_feed 118 = .ok (.bipush 20, 2) := by decide +kernel
theorem dX10_feed_120 : decode cX10_feed 120 = .ok (.iadd, 1) := by decide +kernel
theorem dX10_feed_121 : decode cX10_feed 121 = .ok (.putfield 111, 3) := by decide +kernel
theorem dX10_feed_124 : decode cX10_feed 124 = .ok (.aload_n 0, 1) := by decide +kernel
theorem dX10_feed_125 : decode cX10_feed 125 = .ok (.getfield 111, 3) := by decide +kernel
theorem dX10_feed_128 : decode cX10_feed 128 = .ok (.ireturn, 1) := by decide +kernel
theorem dX10_size_0 : decode cX10_size 0 = .ok (.aload_n 0, 1) := by decide +kernel
theorem dX10_size_1 : decode cX10_size 1 = .ok (.iconst 0, 1) := by decide +kernel
theorem dX10_size_2 : decode cX10_size 2 = .ok (.putfield 105, 3) := by decide +kernel
theorem dX10_size_5 : decode cX10_size 5 = .ok (.aload_n 0, 1) := by decide +kernel
theorem dX10_size_6 : decode cX10_size 6 = .ok (.getfield 111, 3) := by decide +kernel
theorem dX10_size_9 : decode cX10_size 9 = .ok (.ireturn, 1) := by decide +kernel
theorem dX10_trouble_0 : decode cX10_trouble 0 = .ok (.aload_n 0, 1) := by decide +kernel
theorem dX10_trouble_1 : decode cX10_trouble 1 = .ok (.iconst 0, 1) := by decide +kernel
theorem dX10_trouble_2 : decode cX10_trouble 2 = .ok (.putfield 105, 3) := by decide +kernel
theorem dX10_trouble_5 : decode cX10_trouble 5 = .ok (.aload_n 0, 1) := by decide +kernel
theorem dX10_trouble_6 : decode cX10_trouble 6 = .ok (.getfield 108, 3) := by decide +kernel
theorem dX10_trouble_9 : decode cX10_trouble 9 = .ok (.ireturn, 1) := by decide +kernel
theorem dX10_fault_0 : decode cX10_fault 0 = .ok (.aload_n 0, 1) := by decide +kernel
theorem dX10_fault_1 : decode cX10_fault 1 = .ok (.iconst 0, 1) := by decide +kernel
theorem dX10_fault_2 : decode cX10_fault 2 = .ok (.putfield 105, 3) := by decide +kernel
theorem dX10_fault_5 : decode cX10_fault 5 = .ok (.aload_n 0, 1) := by decide +kernel
theorem dX10_fault_6 : decode cX10_fault 6 = .ok (.getfield 114, 3) := by decide +kernel
theorem dX10_fault_9 : decode cX10_fault 9 = .ok (.ireturn, 1) := by decide +kernel
theorem dX10_where_0 : decode cX10_where 0 = .ok (.aload_n 0, 1) := by decide +kernel
theorem dX10_where_1 : decode cX10_where 1 = .ok (.iconst 0, 1) := by decide +kernel
theorem dX10_where_2 : decode cX10_where 2 = .ok (.putfield 105, 3) := by decide +kernel
theorem dX10_where_5 : decode cX10_where 5 = .ok (.aload_n 0, 1) := by decide +kernel
theorem dX10_where_6 : decode cX10_where 6 = .ok (.getfield 9, 3) := by decide +kernel
theorem dX10_where_9 : decode cX10_where 9 = .ok (.ireturn, 1) := by decide +kernel
theorem dX10_seen_0 : decode cX10_seen 0 = .ok (.iload_n 1, 1) := by decide +kernel
theorem dX10_seen_1 : decode cX10_seen 1 = .ok (.aload_n 0, 1) := by decide +kernel
theorem dX10_seen_2 : decode cX10_seen 2 = .ok (.getfield 117, 3) := by decide +kernel
theorem dX10_seen_5 : decode cX10_seen 5 = .ok (.if_icmp .ge 12, 3) := by decide +kernel
theorem dX10_seen_8 : decode cX10_seen 8 = .ok (.aload_n 0, 1) := by decide +kernel
theorem dX10_seen_9 : decode cX10_seen 9 = .ok (.getfield 27, 3) := by decide +kernel
theorem dX10_seen_12 : decode cX10_seen 12 = .ok (.iload_n 1, 1) := by decide +kernel
theorem dX10_seen_13 : decode cX10_seen 13 = .ok (.iaload, 1) := by decide +kernel
theorem dX10_seen_14 : decode cX10_seen 14 = .ok (.goto 4, 3) := by decide +kernel
theorem dX10_seen_17 : decode cX10_seen 17 = .ok (.iconst (-1), 1) := by decide +kernel
theorem dX10_seen_18 : decode cX10_seen 18 = .ok (.ireturn, 1) := by decide +kernel
theorem dX10_isLetter_0 : decode cX10_isLetter 0 = .ok (.iload_n 0, 1) := by decide +kernel
theorem dX10_isLetter_1 : decode cX10_isLetter 1 = .ok (.bipush 97, 2) := by decide +kernel
theorem dX10_isLetter_3 : decode cX10_isLetter 3 = .ok (.if_icmp .lt 13, 3) := by decide +kernel
theorem dX10_isLetter_6 : decode cX10_isLetter 6 = .ok (.iload_n 0, 1) := by decide +kernel
theorem dX10_isLetter_7 : decode cX10_isLetter 7 = .ok (.bipush 122, 2) := by decide +kernel
theorem dX10_isLetter_9 : decode cX10_isLetter 9 = .ok (.if_icmp .gt 7, 3) := by decide +kernel
theorem dX10_isLetter_12 : decode cX10_isLetter 12 = .ok (.iconst 1, 1) := by decide +kernel
theorem dX10_isLetter_13 : decode cX10_isLetter 13 = .ok (.goto 4, 3) := by decide +kernel
theorem dX10_isLetter_16 : decode cX10_isLetter 16 = .ok (.iconst 0, 1) := by decide +kernel
theorem dX10_isLetter_17 : decode cX10_isLetter 17 = .ok (.ireturn, 1) := by decide +kernel
theorem dX10_token_0 : decode cX10_token 0 = .ok (.aload_n 0, 1) := by decide +kernel
theorem dX10_token_1 : decode cX10_token 1 = .ok (.aload_n 0, 1) := by decide +kernel
theorem dX10_token_2 : decode cX10_token 2 = .ok (.getfield 120, 3) := by decide +kernel
theorem dX10_token_5 : decode cX10_token 5 = .ok (.invokevirtual 123, 3) := by decide +kernel
theorem dX10_token_8 : decode cX10_token 8 = .ok (.bipush 32, 2) := by decide +kernel
theorem dX10_token_10 : decode cX10_token 10 = .ok (.if_icmp .ne 16, 3) := by decide +kernel
theorem dX10_token_13 : decode cX10_token 13 = .ok (.aload_n 0, 1) := by decide +kernel
theorem dX10_token_14 : decode cX10_token 14 = .ok (.dup, 1) := by decide +kernel
theorem dX10_token_15 : decode cX10_token 15 = .ok (.getfield 120, 3) := by decide +kernel
theorem dX10_token_18 : decode cX10_token 18 = .ok (.iconst 1, 1) := by decide +kernel
theorem dX10_token_19 : decode cX10_token 19 = .ok (.iadd, 1) := by decide +kernel
theorem dX10_token_20 : decode cX10_token 20 = .ok (.putfield 120, 3) := by decide +kernel
theorem dX10_token_23 : decode cX10_token 23 = .ok (.goto (-23), 3) := by decide +kernel
theorem dX10_token_26 : decode cX10_token 26 = .ok (.aload_n 0, 1) := by decide +kernel
theorem dX10_token_27 : decode cX10_token 27 = .ok (.aload_n 0, 1) := by decide +kernel
theorem dX10_token_28 : decode cX10_token 28 = .ok (.getfield 120, 3) := by decide +kernel
theorem dX10_token_31 : decode cX10_token 31 = .ok (.putfield 127, 3) := by decide +kernel
theorem dX10_token_34 : decode cX10_token 34 = .ok (.aload_n 0, 1) := by decide +kernel
theorem dX10_token_35 : decode cX10_token 35 = .ok (.aload_n 0, 1) := by decide +kernel
theorem dX10_token_36 : decode cX10_token 36 = .ok (.getfield 120, 3) := by decide +kernel
theorem dX10_token_39 : decode cX10_token 39 = .ok (.invokevirtual 123, 3) := by decide +kernel
theorem dX10_token_42 : decode cX10_token 42 = .ok (.istore_n 1, 1) := by decide +kernel
theorem dX10_token_43 : decode cX10_token 43 = .ok (.iload_n 1, 1) := by decide +kernel
theorem dX10_token_44 : decode cX10_token 44 = .ok (.iconst (-1), 1) := by decide +kernel
theorem dX10_token_45 : decode cX10_token 45 = .ok (.if_icmp .ne 11, 3) := by decide +kernel
theorem dX10_token_48 : decode cX10_token 48 = .ok (.aload_n 0, 1) := by decide +kernel
theorem dX10_token_49 : decode cX10_token 49 = .ok (.iconst 0, 1) := by decide +kernel
theorem dX10_token_50 : decode cX10_token 50 = .ok (.putfield 130, 3) := by decide +kernel
theorem dX10_token_53 : decode cX10_token 53 = .ok (.goto 159, 3) := by decide +kernel
theorem dX10_token_56 : decode cX10_token 56 = .ok (.iload_n 1, 1) := by decide +kernel
theorem dX10_token_57 : decode cX10_token 57 = .ok (.invokestatic 133, 3) := by decide +kernel
theorem dX10_token_60 : decode cX10_token 60 = .ok (.ifCond .eq 89, 3) := by decide +kernel
theorem dX10_token_63 : decode cX10_token 63 = .ok (.iconst 0, 1) := by decide +kernel
theorem dX10_token_64 : decode cX10_token 64 = .ok (.istore_n 2, 1) := by decide +kernel
theorem dX10_token_65 : decode cX10_token 65 = .ok (.aload_n 0, 1) := by decide +kernel
theorem dX10_token_66 : decode cX10_token 66 = .ok (.iconst 0, 1) := by decide +kernel
theorem dX10_token_67 : decode cX10_token 67 = .ok (.putfield 137, 3) := by decide +kernel
theorem dX10_token_70 : decode cX10_token 70 = .ok (.aload_n 0, 1) := by decide +kernel
theorem dX10_token_71 : decode cX10_token 71 = .ok (.aload_n 0, 1) := by decide +kernel
theorem dX10_token_72 : decode cX10_token 72 = .ok (.getfield 120, 3) := by decide +kernel
theorem dX10_token_75 : decode cX10_token 75 = .ok (.invokevirtual 123, 3) := by decide +kernel
theorem dX10_token_78 : decode cX10_token 78 = .ok (.invokestatic 133, 3) := by decide +kernel
theorem dX10_token_81 : decode cX10_token 81 = .ok (.ifCond .eq 51, 3) := by decide +kernel
theorem dX10_token_84 : decode cX10_token 84 = .ok (.aload_n 0, 1) := by decide +kernel
theorem dX10_token_85 : decode cX10_token 85 = .ok (.iload_n 2, 1) := by decide +kernel
theorem dX10_token_86 : decode cX10_token 86 = .ok (.iconst 5, 1) := by decide +kernel
theorem dX10_token_87 : decode cX10_token 87 = .ok (.if_icmp .ge 25, 3) := by decide +kernel
theorem dX10_token_90 : decode cX10_token 90 = .ok (.bipush 32, 2) := by decide +kernel
theorem dX10_token_92 : decode cX10_token 92 = .ok (.aload_n 0, 1) := by decide +kernel
theorem dX10_token_93 : decode cX10_token 93 = .ok (.getfield 137, 3) := by decide +kernel
theorem dX10_token_96 : decode cX10_token 96 = .ok (.imul, 1) := by decide +kernel
theorem dX10_token_97 : decode cX10_token 97 = .ok (.aload_n 0, 1) := by decide +kernel
theorem dX10_token_98 : decode cX10_token 98 = .ok (.aload_n 0, 1) := by decide +kernel
theorem dX10_token_99 : decode cX10_token 99 = .ok (.getfield 120, 3) := by decide +kernel
theorem dX10_token_102 : decode cX10_token 102 = .ok (.invokevirtual 123, 3) := by decide +kernel
theorem dX10_token_105 : decode cX10_token 105 = .ok (.iadd, 1) := by decide +kernel
theorem dX10_token_106 : decode cX10_token 106 = .ok (.bipush 96, 2) := by decide +kernel
theorem dX10_token_108 : decode cX10_token 108 = .ok (.isub, 1) := by decide +kernel
theorem dX10_token_109 : decode cX10_token 109 = .ok (.goto 4, 3) := by decide +kernel
theorem dX10_token_112 : decode cX10_token 112 = .ok (.iconst 0, 1) := by decide +kernel
theorem dX10_token_113 : decode cX10_token 113 = .ok (.putfield 137, 3) := by decide +kernel
theorem dX10_token_116 : decode cX10_token 116 = .ok (.aload_n 0, 1) := by decide +kernel
theorem dX10_token_117 : decode cX10_token 117 = .ok (.dup, 1) := by decide +kernel
theorem dX10_token_118 : decode cX10_token 118 = .ok (.getfield 120, 3) := by decide +kernel
theorem dX10_token_121 : decode cX10_token 121 = .ok (.iconst 1, 1) := by decide +kernel
theorem dX10_token_122 : decode cX10_token 122 = .ok (.iadd, 1) := by decide +kernel
theorem dX10_token_123 : decode cX10_token 123 = .ok (.putfield 120, 3) := by decide +kernel
theorem dX10_token_126 : decode cX10_token 126 = .ok (.iinc 2 1, 3) := by decide +kernel
theorem dX10_token_129 : decode cX10_token 129 = .ok (.goto (-59), 3) := by decide +kernel
theorem dX10_token_132 : decode cX10_token 132 = .ok (.aload_n 0, 1) := by decide +kernel
theorem dX10_token_133 : decode cX10_token 133 = .ok (.iload_n 2, 1) := by decide +kernel
theorem dX10_token_134 : decode cX10_token 134 = .ok (.iconst 5, 1) := by decide +kernel
theorem dX10_token_135 : decode cX10_token 135 = .ok (.if_icmp .le 7, 3) := by decide +kernel
theorem dX10_token_138 : decode cX10_token 138 = .ok (.iconst 4, 1) := by decide +kernel
theorem dX10_token_139 : decode cX10_token 139 = .ok (.goto 4, 3) := by decide +kernel
theorem dX10_token_142 : decode cX10_token 142 = .ok (.iconst 1, 1) := by decide +kernel
theorem dX10_token_143 : decode cX10_token 143 = .ok (.putfield 130, 3) := by decide +kernel
theorem dX10_token_146 : decode cX10_token 146 = .ok (.goto 66, 3) := by decide +kernel
theorem dX10_token_149 : decode cX10_token 149 = .ok (.iload_n 1, 1) := by decide +kernel
theorem dX10_token_150 : decode cX10_token 150 = .ok (.bipush 48, 2) := by decide +kernel
theorem dX10_token_152 : decode cX10_token 152 = .ok (.if_icmp .lt 35, 3) := by decide +kernel
theorem dX10_token_155 : decode cX10_token 155 = .ok (.iload_n 1, 1) := by decide +kernel
theorem dX10_token_156 : decode cX10_token 156 = .ok (.bipush 57, 2) := by decide +kernel
theorem dX10_token_158 : decode cX10_token 158 = .ok (.if_icmp .gt 29, 3) := by decide +kernel
theorem dX10_token_161 : decode cX10_token 161 = .ok (.aload_n 0, 1) := by decide +kernel
theorem dX10_token_162 : decode cX10_token 162 = .ok (.iload_n 1, 1) := by decide +kernel
theorem dX10_token_163 : decode cX10_token 163 = .ok (.bipush 48, 2) := by decide +kernel
theorem dX10_token_165 : decode cX10_token 165 = .ok (.isub, 1) := by decide +kernel
theorem dX10_token_166 : decode cX10_token 166 = .ok (.putfield 140, 3) := by decide +kernel
theorem dX10_token_169 : decode cX10_token 169 = .ok (.aload_n 0, 1) := by decide +kernel
theorem dX10_token_170 : decode cX10_token 170 = .ok (.iconst 2, 1) := by decide +kernel
theorem dX10_token_171 : decode cX10_token 171 = .ok (.putfield 130, 3) := by decide +kernel
theorem dX10_token_174 : decode cX10_token 174 = .ok (.aload_n 0, 1) := by decide +kernel
theorem dX10_token_175 : decode cX10_token 175 = .ok (.dup, 1) := by decide +kernel
theorem dX10_token_176 : decode cX10_token 176 = .ok (.getfield 120, 3) := by decide +kernel
theorem dX10_token_179 : decode cX10_token 179 = .ok (.iconst 1, 1) := by decide +kernel
theorem dX10_token_180 : decode cX10_token 180 = .ok (.iadd, 1) := by decide +kernel
theorem dX10_token_181 : decode cX10_token 181 = .ok (.putfield 120, 3) := by decide +kernel
theorem dX10_token_184 : decode cX10_token 184 = .ok (.goto 28, 3) := by decide +kernel
theorem dX10_token_187 : decode cX10_token 187 = .ok (.aload_n 0, 1) := by decide +kernel
theorem dX10_token_188 : decode cX10_token 188 = .ok (.iload_n 1, 1) := by decide +kernel
theorem dX10_token_189 : decode cX10_token 189 = .ok (.bipush 59, 2) := by decide +kernel
theorem dX10_token_191 : decode cX10_token 191 = .ok (.if_icmp .ne 7, 3) := by decide +kernel
theorem dX10_token_194 : decode cX10_token 194 = .ok (.iconst 3, 1) := by decide +kernel
theorem dX10_token_195 : decode cX10_token 195 = .ok (.goto 4, 3) := by decide +kernel
theorem dX10_token_198 : decode cX10_token 198 = .ok (.iconst 4, 1) := by decide +kernel
theorem dX10_token_199 : decode cX10_token 199 = .ok (.putfield 130, 3) := by decide +kernel
theorem dX10_token_202 : decode cX10_token 202 = .ok (.aload_n 0, 1) := by decide +kernel
theorem dX10_token_203 : decode cX10_token 203 = .ok (.dup, 1) := by decide +kernel
theorem dX10_token_204 : decode cX10_token 204 = .ok (.getfield 120, 3) := by decide +kernel
theorem dX10_token_207 : decode cX10_token 207 = .ok (.iconst 1, 1) := by decide +kernel
theorem dX10_token_208 : decode cX10_token 208 = .ok (.iadd, 1) := by decide +kernel
theorem dX10_token_209 : decode cX10_token 209 = .ok (.putfield 120, 3) := by decide +kernel
theorem dX10_token_212 : decode cX10_token 212 = .ok (.return_, 1) := by decide +kernel
theorem dX10_fails_0 : decode cX10_fails 0 = .ok (.aload_n 0, 1) := by decide +kernel
theorem dX10_fails_1 : decode cX10_fails 1 = .ok (.getfield 143, 3) := by decide +kernel
theorem dX10_fails_4 : decode cX10_fails 4 = .ok (.ifCond .ne 16, 3) := by decide +kernel
theorem dX10_fails_7 : decode cX10_fails 7 = .ok (.aload_n 0, 1) := by decide +kernel
theorem dX10_fails_8 : decode cX10_fails 8 = .ok (.iload_n 1, 1) := by decide +kernel
theorem dX10_fails_9 : decode cX10_fails 9 = .ok (.putfield 143, 3) := by decide +kernel
theorem dX10_fails_12 : decode cX10_fails 12 = .ok (.aload_n 0, 1) := by decide +kernel
theorem dX10_fails_13 : decode cX10_fails 13 = .ok (.aload_n 0, 1) := by decide +kernel
theorem dX10_fails_14 : decode cX10_fails 14 = .ok (.getfield 127, 3) := by decide +kernel
theorem dX10_fails_17 : decode cX10_fails 17 = .ok (.putfield 146, 3) := by decide +kernel
theorem dX10_fails_20 : decode cX10_fails 20 = .ok (.return_, 1) := by decide +kernel
theorem dX10_goesOn_0 : decode cX10_goesOn 0 = .ok (.aload_n 0, 1) := by decide +kernel
theorem dX10_goesOn_1 : decode cX10_goesOn 1 = .ok (.getfield 143, 3) := by decide +kernel
theorem dX10_goesOn_4 : decode cX10_goesOn 4 = .ok (.ifCond .ne 7, 3) := by decide +kernel
theorem dX10_goesOn_7 : decode cX10_goesOn 7 = .ok (.aload_n 0, 1) := by decide +kernel
theorem dX10_goesOn_8 : decode cX10_goesOn 8 = .ok (.invokevirtual 149, 3) := by decide +kernel
theorem dX10_goesOn_11 : decode cX10_goesOn 11 = .ok (.return_, 1) := by decide +kernel
theorem dX10_spelled_0 : decode cX10_spelled 0 = .ok (.bipush 32, 2) := by decide +kernel
theorem dX10_spelled_2 : decode cX10_spelled 2 = .ok (.iload_n 0, 1) := by decide +kernel
theorem dX10_spelled_3 : decode cX10_spelled 3 = .ok (.imul, 1) := by decide +kernel
theorem dX10_spelled_4 : decode cX10_spelled 4 = .ok (.iload_n 1, 1) := by decide +kernel
theorem dX10_spelled_5 : decode cX10_spelled 5 = .ok (.iadd, 1) := by decide +kernel
theorem dX10_spelled_6 : decode cX10_spelled 6 = .ok (.istore 5, 2) := by decide +kernel
theorem dX10_spelled_8 : decode cX10_spelled 8 = .ok (.bipush 32, 2) := by decide +kernel
theorem dX10_spelled_10 : decode cX10_spelled 10 = .ok (.iload 5, 2) := by decide +kernel
theorem dX10_spelled_12 : decode cX10_spelled 12 = .ok (.imul, 1) := by decide +kernel
theorem dX10_spelled_13 : decode cX10_spelled 13 = .ok (.iload_n 2, 1) := by decide +kernel
theorem dX10_spelled_14 : decode cX10_spelled 14 = .ok (.iadd, 1) := by decide +kernel
theorem dX10_spelled_15 : decode cX10_spelled 15 = .ok (.istore 5, 2) := by decide +kernel
theorem dX10_spelled_17 : decode cX10_spelled 17 = .ok (.bipush 32, 2) := by decide +kernel
theorem dX10_spelled_19 : decode cX10_spelled 19 = .ok (.iload 5, 2) := by decide +kernel
theorem dX10_spelled_21 : decode cX10_spelled 21 = .ok (.imul, 1) := by decide +kernel
theorem dX10_spelled_22 : decode cX10_spelled 22 = .ok (.iload_n 3, 1) := by decide +kernel
theorem dX10_spelled_23 : decode cX10_spelled 23 = .ok (.iadd, 1) := by decide +kernel
theorem dX10_spelled_24 : decode cX10_spelled 24 = .ok (.istore 5, 2) := by decide +kernel
theorem dX10_spelled_26 : decode cX10_spelled 26 = .ok (.iload 4, 2) := by decide +kernel
theorem dX10_spelled_28 : decode cX10_spelled 28 = .ok (.ifCond .ne 8, 3) := by decide +kernel
theorem dX10_spelled_31 : decode cX10_spelled 31 = .ok (.iload 5, 2) := by decide +kernel
theorem dX10_spelled_33 : decode cX10_spelled 33 = .ok (.goto 11, 3) := by decide +kernel
theorem dX10_spelled_36 : decode cX10_spelled 36 = .ok (.bipush 32, 2) := by decide +kernel
theorem dX10_spelled_38 : decode cX10_spelled 38 = .ok (.iload 5, 2) := by decide +kernel
theorem dX10_spelled_40 : decode cX10_spelled 40 = .ok (.imul, 1) := by decide +kernel
theorem dX10_spelled_41 : decode cX10_spelled 41 = .ok (.iload 4, 2) := by decide +kernel
theorem dX10_spelled_43 : decode cX10_spelled 43 = .ok (.iadd, 1) := by decide +kernel
theorem dX10_spelled_44 : decode cX10_spelled 44 = .ok (.ireturn, 1) := by decide +kernel
theorem dX10_isWord_0 : decode cX10_isWord 0 = .ok (.aload_n 0, 1) := by decide +kernel
theorem dX10_isWord_1 : decode cX10_isWord 1 = .ok (.getfield 143, 3) := by decide +kernel
theorem dX10_isWord_4 : decode cX10_isWord 4 = .ok (.ifCond .ne 23, 3) := by decide +kernel
theorem dX10_isWord_7 : decode cX10_isWord 7 = .ok (.aload_n 0, 1) := by decide +kernel
theorem dX10_isWord_8 : decode cX10_isWord 8 = .ok (.getfield 130, 3) := by decide +kernel
theorem dX10_isWord_11 : decode cX10_isWord 11 = .ok (.iconst 1, 1) := by decide +kernel
theorem dX10_isWord_12 : decode cX10_isWord 12 = .ok (.if_icmp .ne 15, 3) := by decide +kernel
theorem dX10_isWord_15 : decode cX10_isWord 15 = .ok (.aload_n 0, 1) := by decide +kernel
theorem dX10_isWord_16 : decode cX10_isWord 16 = .ok (.getfield 137, 3) := by decide +kernel
theorem dX10_isWord_19 : decode cX10_isWord 19 = .ok (.iload_n 1, 1) := by decide +kernel
theorem dX10_isWord_20 : decode cX10_isWord 20 = .ok (.if_icmp .ne 7, 3) := by decide +kernel
theorem dX10_isWord_23 : decode cX10_isWord 23 = .ok (.iconst 1, 1) := by decide +kernel
theorem dX10_isWord_24 : decode cX10_isWord 24 = .ok (.goto 4, 3) := by decide +kernel
theorem dX10_isWord_27 : decode cX10_isWord 27 = .ok (.iconst 0, 1) := by decide +kernel
theorem dX10_isWord_28 : decode cX10_isWord 28 = .ok (.ireturn, 1) := by decide +kernel
theorem dX10_isDigit_0 : decode cX10_isDigit 0 = .ok (.aload_n 0, 1) := by decide +kernel
theorem dX10_isDigit_1 : decode cX10_isDigit 1 = .ok (.getfield 143, 3) := by decide +kernel
theorem dX10_isDigit_4 : decode cX10_isDigit 4 = .ok (.ifCond .ne 15, 3) := by decide +kernel
theorem dX10_isDigit_7 : decode cX10_isDigit 7 = .ok (.aload_n 0, 1) := by decide +kernel
theorem dX10_isDigit_8 : decode cX10_isDigit 8 = .ok (.getfield 130, 3) := by decide +kernel
theorem dX10_isDigit_11 : decode cX10_isDigit 11 = .ok (.iconst 2, 1) := by decide +kernel
theorem dX10_isDigit_12 : decode cX10_isDigit 12 = .ok (.if_icmp .ne 7, 3) := by decide +kernel
theorem dX10_isDigit_15 : decode cX10_isDigit 15 = .ok (.iconst 1, 1) := by decide +kernel
theorem dX10_isDigit_16 : decode cX10_isDigit 16 = .ok (.goto 4, 3) := by decide +kernel
theorem dX10_isDigit_19 : decode cX10_isDigit 19 = .ok (.iconst 0, 1) := by decide +kernel
theorem dX10_isDigit_20 : decode cX10_isDigit 20 = .ok (.ireturn, 1) := by decide +kernel
theorem dX10_hold_0 : decode cX10_hold 0 = .ok (.aload_n 0, 1) := by decide +kernel
theorem dX10_hold_1 : decode cX10_hold 1 = .ok (.getfield 130, 3) := by decide +kernel
theorem dX10_hold_4 : decode cX10_hold 4 = .ok (.iconst 2, 1) := by decide +kernel
theorem dX10_hold_5 : decode cX10_hold 5 = .ok (.if_icmp .eq 11, 3) := by decide +kernel
theorem dX10_hold_8 : decode cX10_hold 8 = .ok (.aload_n 0, 1) := by decide +kernel
theorem dX10_hold_9 : decode cX10_hold 9 = .ok (.iconst 1, 1) := by decide +kernel
theorem dX10_hold_10 : decode cX10_hold 10 = .ok (.invokevirtual 152, 3) := by decide +kernel
theorem dX10_hold_13 : decode cX10_hold 13 = .ok (.goto 20, 3) := by decide +kernel
theorem dX10_hold_16 : decode cX10_hold 16 = .ok (.aload_n 0, 1) := by decide +kernel
theorem dX10_hold_17 : decode cX10_hold 17 = .ok (.getfield 140, 3) := by decide +kernel
theorem dX10_hold_20 : decode cX10_hold 20 = .ok (.iload_n 1, 1) := by decide +kernel
theorem dX10_hold_21 : decode cX10_hold 21 = .ok (.iload_n 2, 1) := by decide +kernel
theorem dX10_hold_22 : decode cX10_hold 22 = .ok (.invokestatic 156, 3) := by decide +kernel
theorem dX10_hold_25 : decode cX10_hold 25 = .ok (.ifCond .ne 8, 3) := by decide +kernel
theorem dX10_hold_28 : decode cX10_hold 28 = .ok (.aload_n 0, 1) := by decide +kernel
theorem dX10_hold_29 : decode cX10_hold 29 = .ok (.iconst 2, 1) := by decide +kernel
theorem dX10_hold_30 : decode cX10_hold 30 = .ok (.invokevirtual 152, 3) := by decide +kernel
theorem dX10_hold_33 : decode cX10_hold 33 = .ok (.aload_n 0, 1) := by decide +kernel
theorem dX10_hold_34 : decode cX10_hold 34 = .ok (.getfield 140, 3) := by decide +kernel
theorem dX10_hold_37 : decode cX10_hold 37 = .ok (.ireturn, 1) := by decide +kernel
theorem dX10_takes_0 : decode cX10_takes 0 = .ok (.aload_n 0, 1) := by decide +kernel
theorem dX10_takes_1 : decode cX10_takes 1 = .ok (.iload_n 1, 1) := by decide +kernel
theorem dX10_takes_2 : decode cX10_takes 2 = .ok (.iload_n 2, 1) := by decide +kernel
theorem dX10_takes_3 : decode cX10_takes 3 = .ok (.invokevirtual 160, 3) := by decide +kernel
theorem dX10_takes_6 : decode cX10_takes 6 = .ok (.istore_n 3, 1) := by decide +kernel
theorem dX10_takes_7 : decode cX10_takes 7 = .ok (.aload_n 0, 1) := by decide +kernel
theorem dX10_takes_8 : decode cX10_takes 8 = .ok (.invokevirtual 164, 3) := by decide +kernel
theorem dX10_takes_11 : decode cX10_takes 11 = .ok (.iload_n 3, 1) := by decide +kernel
theorem dX10_takes_12 : decode cX10_takes 12 = .ok (.ireturn, 1) := by decide +kernel
theorem dX10_readVertex_0 : decode cX10_readVertex 0 = .ok (.aload_n 0, 1) := by decide +kernel
theorem dX10_readVertex_1 : decode cX10_readVertex 1 = .ok (.iconst 0, 1) := by decide +kernel
theorem dX10_readVertex_2 : decode cX10_readVertex 2 = .ok (.aload_n 0, 1) := by decide +kernel
theorem dX10_readVertex_3 : decode cX10_readVertex 3 = .ok (.getfield 30, 3) := by decide +kernel
theorem dX10_readVertex_6 : decode cX10_readVertex 6 = .ok (.iconst 0, 1) := by decide +kernel
theorem dX10_readVertex_7 : decode cX10_readVertex 7 = .ok (.iaload, 1) := by decide +kernel
theorem dX10_readVertex_8 : decode cX10_readVertex 8 = .ok (.iconst 1, 1) := by decide +kernel
theorem dX10_readVertex_9 : decode cX10_readVertex 9 = .ok (.isub, 1) := by decide +kernel
theorem dX10_readVertex_10 : decode cX10_readVertex 10 = .ok (.invokevirtual 160, 3) := by decide +kernel
theorem dX10_readVertex_13 : decode cX10_readVertex 13 = .ok (.ireturn, 1) := by decide +kernel
theorem dX10_linksRead_0 : decode cX10_linksRead 0 = .ok (.aload_n 0, 1) := by decide +kernel
theorem dX10_linksRead_1 : decode cX10_linksRead 1 = .ok (.getfield 30, 3) := by decide +kernel
theorem dX10_linksRead_4 : decode cX10_linksRead 4 = .ok (.bipush 8, 2) := by decide +kernel
theorem dX10_linksRead_6 : decode cX10_linksRead 6 = .ok (.bipush 7, 2) := by decide +kernel
theorem dX10_linksRead_8 : decode cX10_linksRead 8 = .ok (.iload_n 1, 1) := by decide +kernel
theorem dX10_linksRead_9 : decode cX10_linksRead 9 = .ok (.imul, 1) := by decide +kernel
theorem dX10_linksRead_10 : decode cX10_linksRead 10 = .ok (.iadd, 1) := by decide +kernel
theorem dX10_linksRead_11 : decode cX10_linksRead 11 = .ok (.iload_n 2, 1) := by decide +kernel
theorem dX10_linksRead_12 : decode cX10_linksRead 12 = .ok (.iadd, 1) := by decide +kernel
theorem dX10_linksRead_13 : decode cX10_linksRead 13 = .ok (.iload_n 3, 1) := by decide +kernel
theorem dX10_linksRead_14 : decode cX10_linksRead 14 = .ok (.iastore, 1) := by decide +kernel
theorem dX10_linksRead_15 : decode cX10_linksRead 15 = .ok (.aload_n 0, 1) := by decide +kernel
theorem dX10_linksRead_16 : decode cX10_linksRead 16 = .ok (.getfield 30, 3) := by decide +kernel
theorem dX10_linksRead_19 : decode cX10_linksRead 19 = .ok (.bipush 8, 2) := by decide +kernel
theorem dX10_linksRead_21 : decode cX10_linksRead 21 = .ok (.bipush 7, 2) := by decide +kernel
theorem dX10_linksRead_23 : decode cX10_linksRead 23 = .ok (.iload_n 2, 1) := by decide +kernel
theorem dX10_linksRead_24 : decode cX10_linksRead 24 = .ok (.imul, 1) := by decide +kernel
theorem dX10_linksRead_25 : decode cX10_linksRead 25 = .ok (.iadd, 1) := by decide +kernel
theorem dX10_linksRead_26 : decode cX10_linksRead 26 = .ok (.iload_n 1, 1) := by decide +kernel
theorem dX10_linksRead_27 : decode cX10_linksRead 27 = .ok (.iadd, 1) := by decide +kernel
theorem dX10_linksRead_28 : decode cX10_linksRead 28 = .ok (.iload_n 3, 1) := by decide +kernel
theorem dX10_linksRead_29 : decode cX10_linksRead 29 = .ok (.iastore, 1) := by decide +kernel
theorem dX10_linksRead_30 : decode cX10_linksRead 30 = .ok (.return_, 1) := by decide +kernel
theorem dX10_isRead_0 : decode cX10_isRead 0 = .ok (.iload_n 1, 1) := by decide +kernel
theorem dX10_isRead_1 : decode cX10_isRead 1 = .ok (.iload_n 2, 1) := by decide +kernel
theorem dX10_isRead_2 : decode cX10_isRead 2 = .ok (.if_icmp .eq 20, 3) := by decide +kernel
theorem dX10_isRead_5 : decode cX10_isRead 5 = .ok (.aload_n 0, 1) := by decide +kernel
theorem dX10_isRead_6 : decode cX10_isRead 6 = .ok (.getfield 30, 3) := by decide +kernel
theorem dX10_isRead_9 : decode cX10_isRead 9 = .ok (.bipush 8, 2) := by decide +kernel
theorem dX10_isRead_11 : decode cX10_isRead 11 = .ok (.bipush 7, 2) := by decide +kernel
theorem dX10_isRead_13 : decode cX10_isRead 13 = .ok (.iload_n 1, 1) := by decide +kernel
theorem dX10_isRead_14 : decode cX10_isRead 14 = .ok (.imul, 1) := by decide +kernel
theorem dX10_isRead_15 : decode cX10_isRead 15 = .ok (.iadd, 1) := by decide +kernel
theorem dX10_isRead_16 : decode cX10_isRead 16 = .ok (.iload_n 2, 1) := by decide +kernel
theorem dX10_isRead_17 : decode cX10_isRead 17 = .ok (.iadd, 1) := by decide +kernel
theorem dX10_isRead_18 : decode cX10_isRead 18 = .ok (.iaload, 1) := by decide +kernel
theorem dX10_isRead_19 : decode cX10_isRead 19 = .ok (.ifCond .eq 7, 3) := by decide +kernel
theorem dX10_isRead_22 : decode cX10_isRead 22 = .ok (.iconst 1, 1) := by decide +kernel
theorem dX10_isRead_23 : decode cX10_isRead 23 = .ok (.goto 4, 3) := by decide +kernel
theorem dX10_isRead_26 : decode cX10_isRead 26 = .ok (.iconst 0, 1) := by decide +kernel
theorem dX10_isRead_27 : decode cX10_isRead 27 = .ok (.ireturn, 1) := by decide +kernel
theorem dX10_readLinked_0 : decode cX10_readLinked 0 = .ok (.aload_n 0, 1) := by decide +kernel
theorem dX10_readLinked_1 : decode cX10_readLinked 1 = .ok (.invokevirtual 167, 3) := by decide +kernel
theorem dX10_readLinked_4 : decode cX10_readLinked 4 = .ok (.istore_n 2, 1) := by decide +kernel
theorem dX10_readLinked_5 : decode cX10_readLinked 5 = .ok (.aload_n 0, 1) := by decide +kernel
theorem dX10_readLinked_6 : decode cX10_readLinked 6 = .ok (.getfield 143, 3) := by decide +kernel
theorem dX10_readLinked_9 : decode cX10_readLinked 9 = .ok (.ifCond .ne 17, 3) := by decide +kernel
theorem dX10_readLinked_12 : decode cX10_readLinked 12 = .ok (.aload_n 0, 1) := by decide +kernel
theorem dX10_readLinked_13 : decode cX10_readLinked 13 = .ok (.iload_n 1, 1) := by decide +kernel
theorem dX10_readLinked_14 : decode cX10_readLinked 14 = .ok (.iload_n 2, 1) := by decide +kernel
theorem dX10_readLinked_15 : decode cX10_readLinked 15 = .ok (.invokevirtual 171, 3) := by decide +kernel
theorem dX10_readLinked_18 : decode cX10_readLinked 18 = .ok (.ifCond .eq 8, 3) := by decide +kernel
theorem dX10_readLinked_21 : decode cX10_readLinked 21 = .ok (.aload_n 0, 1) := by decide +kernel
theorem dX10_readLinked_22 : decode cX10_readLinked 22 = .ok (.iconst 3, 1) := by decide +kernel
theorem dX10_readLinked_23 : decode cX10_readLinked 23 = .ok (.invokevirtual 152, 3) := by decide +kernel
theorem dX10_readLinked_26 : decode cX10_readLinked 26 = .ok (.aload_n 0, 1) := by decide +kernel
theorem dX10_readLinked_27 : decode cX10_readLinked 27 = .ok (.getfield 143, 3) := by decide +kernel
theorem dX10_readLinked_30 : decode cX10_readLinked 30 = .ok (.ifCond .ne 10, 3) := by decide +kernel
theorem dX10_readLinked_33 : decode cX10_readLinked 33 = .ok (.aload_n 0, 1) := by decide +kernel
theorem dX10_readLinked_34 : decode cX10_readLinked 34 = .ok (.iload_n 1, 1) := by decide +kernel
theorem dX10_readLinked_35 : decode cX10_readLinked 35 = .ok (.iload_n 2, 1) := by decide +kernel
theorem dX10_readLinked_36 : decode cX10_readLinked 36 = .ok (.iconst 1, 1) := by decide +kernel
theorem dX10_readLinked_37 : decode cX10_readLinked 37 = .ok (.invokevirtual 175, 3) := by decide +kernel
theorem dX10_readLinked_40 : decode cX10_readLinked 40 = .ok (.aload_n 0, 1) := by decide +kernel
theorem dX10_readLinked_41 : decode cX10_readLinked 41 = .ok (.invokevirtual 164, 3) := by decide +kernel
theorem dX10_readLinked_44 : decode cX10_readLinked 44 = .ok (.iload_n 2, 1) := by decide +kernel
theorem dX10_readLinked_45 : decode cX10_readLinked 45 = .ok (.ireturn, 1) := by decide +kernel
theorem dX10_paintLine_0 : decode cX10_paintLine 0 = .ok (.aload_n 0, 1) := by decide +kernel
theorem dX10_paintLine_1 : decode cX10_paintLine 1 = .ok (.invokevirtual 167, 3) := by decide +kernel
theorem dX10_paintLine_4 : decode cX10_paintLine 4 = .ok (.istore_n 1, 1) := by decide +kernel
theorem dX10_paintLine_5 : decode cX10_paintLine 5 = .ok (.aload_n 0, 1) := by decide +kernel
theorem dX10_paintLine_6 : decode cX10_paintLine 6 = .ok (.getfield 143, 3) := by decide +kernel
theorem dX10_paintLine_9 : decode cX10_paintLine 9 = .ok (.ifCond .ne 19, 3) := by decide +kernel
theorem dX10_paintLine_12 : decode cX10_paintLine 12 = .ok (.aload_n 0, 1) := by decide +kernel
theorem dX10_paintLine_13 : decode cX10_paintLine 13 = .ok (.getfield 179, 3) := by decide +kernel
theorem dX10_paintLine_16 : decode cX10_paintLine 16 = .ok (.iload_n 1, 1) := by decide +kernel
theorem dX10_paintLine_17 : decode cX10_paintLine 17 = .ok (.invokestatic 182, 3) := by decide +kernel
theorem dX10_paintLine_20 : decode cX10_paintLine 20 = .ok (.ifCond .eq 8, 3) := by decide +kernel
theorem dX10_paintLine_23 : decode cX10_paintLine 23 = .ok (.aload_n 0, 1) := by decide +kernel
theorem dX10_paintLine_24 : decode cX10_paintLine 24 = .ok (.iconst 3, 1) := by decide +kernel
theorem dX10_paintLine_25 : decode cX10_paintLine 25 = .ok (.invokevirtual 152, 3) := by decide +kernel
theorem dX10_paintLine_28 : decode cX10_paintLine 28 = .ok (.aload_n 0, 1) := by decide +kernel
theorem dX10_paintLine_29 : decode cX10_paintLine 29 = .ok (.invokevirtual 164, 3) := by decide +kernel
theorem dX10_paintLine_32 : decode cX10_paintLine 32 = .ok (.aload_n 0, 1) := by decide +kernel
theorem dX10_paintLine_33 : decode cX10_paintLine 33 = .ok (.iconst 0, 1) := by decide +kernel
theorem dX10_paintLine_34 : decode cX10_paintLine 34 = .ok (.bipush 9, 2) := by decide +kernel
theorem dX10_paintLine_36 : decode cX10_paintLine 36 = .ok (.invokevirtual 185, 3) := by decide +kernel
theorem dX10_paintLine_39 : decode cX10_paintLine 39 = .ok (.istore_n 2, 1) := by decide +kernel
theorem dX10_paintLine_40 : decode cX10_paintLine 40 = .ok (.aload_n 0, 1) := by decide +kernel
theorem dX10_paintLine_41 : decode cX10_paintLine 41 = .ok (.getfield 143, 3) := by decide +kernel
theorem dX10_paintLine_44 : decode cX10_paintLine 44 = .ok (.ifCond .ne 24, 3) := by decide +kernel
theorem dX10_paintLine_47 : decode cX10_paintLine 47 = .ok (.aload_n 0, 1) := by decide +kernel
theorem dX10_paintLine_48 : decode cX10_paintLine 48 = .ok (.dup, 1) := by decide +kernel
theorem dX10_paintLine_49 : decode cX10_paintLine 49 = .ok (.getfield 179, 3) := by decide +kernel
theorem dX10_paintLine_52 : decode cX10_paintLine 52 = .ok (.iconst 1, 1) := by decide +kernel
theorem dX10_paintLine_53 : decode cX10_paintLine 53 = .ok (.iload_n 1, 1) := by decide +kernel
theorem dX10_paintLine_54 : decode cX10_paintLine 54 = .ok (.ishl, 1) := by decide +kernel
theorem dX10_paintLine_55 : decode cX10_paintLine 55 = .ok (.ior, 1) := by decide +kernel
theorem dX10_paintLine_56 : decode cX10_paintLine 56 = .ok (.putfield 179, 3) := by decide +kernel
theorem dX10_paintLine_59 : decode cX10_paintLine 59 = .ok (.aload_n 0, 1) := by decide +kernel
theorem dX10_paintLine_60 : decode cX10_paintLine 60 = .ok (.getfield 30, 3) := by decide +kernel
theorem dX10_paintLine_63 : decode cX10_paintLine 63 = .ok (.iconst 1, 1) := by decide +kernel
theorem dX10_paintLine_64 : decode cX10_paintLine 64 = .ok (.iload_n 1, 1) := by decide +kernel
theorem dX10_paintLine_65 : decode cX10_paintLine 65 = .ok (.iadd, 1) := by decide +kernel
theorem dX10_paintLine_66 : decode cX10_paintLine 66 = .ok (.iload_n 2, 1) := by decide +kernel
theorem dX10_paintLine_67 : decode cX10_paintLine 67 = .ok (.iastore, 1) := by decide +kernel
theorem dX10_paintLine_68 : decode cX10_paintLine 68 = .ok (.return_, 1) := by decide +kernel
theorem dX10_linkLine_0 : decode cX10_linkLine 0 = .ok (.aload_n 0, 1) := by decide +kernel
theorem dX10_linkLine_1 : decode cX10_linkLine 1 = .ok (.invokevirtual 167, 3) := by decide +kernel
theorem dX10_linkLine_4 : decode cX10_linkLine 4 = .ok (.istore_n 1, 1) := by decide +kernel
theorem dX10_linkLine_5 : decode cX10_linkLine 5 = .ok (.aload_n 0, 1) := by decide +kernel
theorem dX10_linkLine_6 : decode cX10_linkLine 6 = .ok (.invokevirtual 164, 3) := by decide +kernel
theorem dX10_linkLine_9 : decode cX10_linkLine 9 = .ok (.aload_n 0, 1) := by decide +kernel
theorem dX10_linkLine_10 : decode cX10_linkLine 10 = .ok (.iload_n 1, 1) := by decide +kernel
theorem dX10_linkLine_11 : decode cX10_linkLine 11 = .ok (.invokevirtual 188, 3) := by decide +kernel
theorem dX10_linkLine_14 : decode cX10_linkLine 14 = .ok (.istore_n 2, 1) := by decide +kernel
theorem dX10_linkLine_15 : decode cX10_linkLine 15 = .ok (.aload_n 0, 1) := by decide +kernel
theorem dX10_linkLine_16 : decode cX10_linkLine 16 = .ok (.invokevirtual 191, 3) := by decide +kernel
theorem dX10_linkLine_19 : decode cX10_linkLine 19 = .ok (.ifCond .eq 24, 3) := by decide +kernel
theorem dX10_linkLine_22 : decode cX10_linkLine 22 = .ok (.aload_n 0, 1) := by decide +kernel
theorem dX10_linkLine_23 : decode cX10_linkLine 23 = .ok (.iconst 1, 1) := by decide +kernel
theorem dX10_linkLine_24 : decode cX10_linkLine 24 = .ok (.iconst 3, 1) := by decide +kernel
theorem dX10_linkLine_25 : decode cX10_linkLine 25 = .ok (.invokevirtual 185, 3) := by decide +kernel
theorem dX10_linkLine_28 : decode cX10_linkLine 28 = .ok (.istore_n 3, 1) := by decide +kernel
theorem dX10_linkLine_29 : decode cX10_linkLine 29 = .ok (.aload_n 0, 1) := by decide +kernel
theorem dX10_linkLine_30 : decode cX10_linkLine 30 = .ok (.getfield 143, 3) := by decide +kernel
theorem dX10_linkLine_33 : decode cX10_linkLine 33 = .ok (.ifCond .ne 10, 3) := by decide +kernel
theorem dX10_linkLine_36 : decode cX10_linkLine 36 = .ok (.aload_n 0, 1) := by decide +kernel
theorem dX10_linkLine_37 : decode cX10_linkLine 37 = .ok (.iload_n 1, 1) := by decide +kernel
theorem dX10_linkLine_38 : decode cX10_linkLine 38 = .ok (.iload_n 2, 1) := by decide +kernel
theorem dX10_linkLine_39 : decode cX10_linkLine 39 = .ok (.iload_n 3, 1) := by decide +kernel
theorem dX10_linkLine_40 : decode cX10_linkLine 40 = .ok (.invokevirtual 175, 3) := by decide +kernel
theorem dX10_linkLine_43 : decode cX10_linkLine 43 = .ok (.return_, 1) := by decide +kernel
theorem dX10_pathLine_0 : decode cX10_pathLine 0 = .ok (.aload_n 0, 1) := by decide +kernel
theorem dX10_pathLine_1 : decode cX10_pathLine 1 = .ok (.invokevirtual 167, 3) := by decide +kernel
theorem dX10_pathLine_4 : decode cX10_pathLine 4 = .ok (.istore_n 2, 1) := by decide +kernel
theorem dX10_pathLine_5 : decode cX10_pathLine 5 = .ok (.aload_n 0, 1) := by decide +kernel
theorem dX10_pathLine_6 : decode cX10_pathLine 6 = .ok (.invokevirtual 164, 3) := by decide +kernel
theorem dX10_pathLine_9 : decode cX10_pathLine 9 = .ok (.aload_n 0, 1) := by decide +kernel
theorem dX10_pathLine_10 : decode cX10_pathLine 10 = .ok (.iload_n 2, 1) := by decide +kernel
theorem dX10_pathLine_11 : decode cX10_pathLine 11 = .ok (.invokevirtual 188, 3) := by decide +kernel
theorem dX10_pathLine_14 : decode cX10_pathLine 14 = .ok (.istore_n 3, 1) := by decide +kernel
theorem dX10_pathLine_15 : decode cX10_pathLine 15 = .ok (.iload_n 1, 1) := by decide +kernel
theorem dX10_pathLine_16 : decode cX10_pathLine 16 = .ok (.ifCond .eq 9, 3) := by decide +kernel
theorem dX10_pathLine_19 : decode cX10_pathLine 19 = .ok (.aload_n 0, 1) := by decide +kernel
theorem dX10_pathLine_20 : decode cX10_pathLine 20 = .ok (.iload_n 3, 1) := by decide +kernel
theorem dX10_pathLine_21 : decode cX10_pathLine 21 = .ok (.invokevirtual 188, 3) := by decide +kernel
theorem dX10_pathLine_24 : decode cX10_pathLine 24 = .ok (.istore_n 3, 1) := by decide +kernel
theorem dX10_pathLine_25 : decode cX10_pathLine 25 = .ok (.aload_n 0, 1) := by decide +kernel
theorem dX10_pathLine_26 : decode cX10_pathLine 26 = .ok (.invokevirtual 191, 3) := by decide +kernel
theorem dX10_pathLine_29 : decode cX10_pathLine 29 = .ok (.ifCond .eq 12, 3) := by decide +kernel
theorem dX10_pathLine_32 : decode cX10_pathLine 32 = .ok (.aload_n 0, 1) := by decide +kernel
theorem dX10_pathLine_33 : decode cX10_pathLine 33 = .ok (.iload_n 3, 1) := by decide +kernel
theorem dX10_pathLine_34 : decode cX10_pathLine 34 = .ok (.invokevirtual 188, 3) := by decide +kernel
theorem dX10_pathLine_37 : decode cX10_pathLine 37 = .ok (.istore_n 3, 1) := by decide +kernel
theorem dX10_pathLine_38 : decode cX10_pathLine 38 = .ok (.goto (-13), 3) := by decide +kernel
theorem dX10_pathLine_41 : decode cX10_pathLine 41 = .ok (.iload_n 1, 1) := by decide +kernel
theorem dX10_pathLine_42 : decode cX10_pathLine 42 = .ok (.ifCond .eq 10, 3) := by decide +kernel
theorem dX10_pathLine_45 : decode cX10_pathLine 45 = .ok (.aload_n 0, 1) := by decide +kernel
theorem dX10_pathLine_46 : decode cX10_pathLine 46 = .ok (.getfield 143, 3) := by decide +kernel
theorem dX10_pathLine_49 : decode cX10_pathLine 49 = .ok (.ifCond .eq 4, 3) := by decide +kernel
theorem dX10_pathLine_52 : decode cX10_pathLine 52 = .ok (.return_, 1) := by decide +kernel
theorem dX10_pathLine_53 : decode cX10_pathLine 53 = .ok (.aload_n 0, 1) := by decide +kernel
theorem dX10_pathLine_54 : decode cX10_pathLine 54 = .ok (.getfield 130, 3) := by decide +kernel
theorem dX10_pathLine_57 : decode cX10_pathLine 57 = .ok (.iconst 3, 1) := by decide +kernel
theorem dX10_pathLine_58 : decode cX10_pathLine 58 = .ok (.if_icmp .eq 18, 3) := by decide +kernel
theorem dX10_pathLine_61 : decode cX10_pathLine 61 = .ok (.aload_n 0, 1) := by decide +kernel
theorem dX10_pathLine_62 : decode cX10_pathLine 62 = .ok (.getfield 130, 3) := by decide +kernel
theorem dX10_pathLine_65 : decode cX10_pathLine 65 = .ok (.ifCond .eq 11, 3) := by decide +kernel
theorem dX10_pathLine_68 : decode cX10_pathLine 68 = .ok (.aload_n 0, 1) := by decide +kernel
theorem dX10_pathLine_69 : decode cX10_pathLine 69 = .ok (.iconst 1, 1) := by decide +kernel
theorem dX10_pathLine_70 : decode cX10_pathLine 70 = .ok (.invokevirtual 152, 3) := by decide +kernel
theorem dX10_pathLine_73 : decode cX10_pathLine 73 = .ok (.goto 27, 3) := by decide +kernel
theorem dX10_pathLine_76 : decode cX10_pathLine 76 = .ok (.aload_n 0, 1) := by decide +kernel
theorem dX10_pathLine_77 : decode cX10_pathLine 77 = .ok (.iload_n 3, 1) := by decide +kernel
theorem dX10_pathLine_78 : decode cX10_pathLine 78 = .ok (.iload_n 2, 1) := by decide +kernel
theorem dX10_pathLine_79 : decode cX10_pathLine 79 = .ok (.invokevirtual 171, 3) := by decide +kernel
theorem dX10_pathLine_82 : decode cX10_pathLine 82 = .ok (.ifCond .eq 11, 3) := by decide +kernel
theorem dX10_pathLine_85 : decode cX10_pathLine 85 = .ok (.aload_n 0, 1) := by decide +kernel
theorem dX10_pathLine_86 : decode cX10_pathLine 86 = .ok (.iconst 3, 1) := by decide +kernel
theorem dX10_pathLine_87 : decode cX10_pathLine 87 = .ok (.invokevirtual 152, 3) := by decide +kernel
theorem dX10_pathLine_90 : decode cX10_pathLine 90 = .ok (.goto 10, 3) := by decide +kernel
theorem dX10_pathLine_93 : decode cX10_pathLine 93 = .ok (.aload_n 0, 1) := by decide +kernel
theorem dX10_pathLine_94 : decode cX10_pathLine 94 = .ok (.iload_n 3, 1) := by decide +kernel
theorem dX10_pathLine_95 : decode cX10_pathLine 95 = .ok (.iload_n 2, 1) := by decide +kernel
theorem dX10_pathLine_96 : decode cX10_pathLine 96 = .ok (.iconst 1, 1) := by decide +kernel
theorem dX10_pathLine_97 : decode cX10_pathLine 97 = .ok (.invokevirtual 175, 3) := by decide +kernel
theorem dX10_pathLine_100 : decode cX10_pathLine 100 = .ok (.return_, 1) := by decide +kernel
theorem dX10_line_0 : decode cX10_line 0 = .ok (.aload_n 0, 1) := by decide +kernel
theorem dX10_line_1 : decode cX10_line 1 = .ok (.bipush 16, 2) := by decide +kernel
theorem dX10_line_3 : decode cX10_line 3 = .ok (.iconst 1, 1) := by decide +kernel
theorem dX10_line_4 : decode cX10_line 4 = .ok (.bipush 9, 2) := by decide +kernel
theorem dX10_line_6 : decode cX10_line 6 = .ok (.bipush 14, 2) := by decide +kernel
theorem dX10_line_8 : decode cX10_line 8 = .ok (.bipush 20, 2) := by decide +kernel
theorem dX10_line_10 : decode cX10_line 10 = .ok (.invokestatic 195, 3) := by decide +kernel
theorem dX10_line_13 : decode cX10_line 13 = .ok (.invokevirtual 199, 3) := by decide +kernel
theorem dX10_line_16 : decode cX10_line 16 = .ok (.ifCond .eq 14, 3) := by decide +kernel
theorem dX10_line_19 : decode cX10_line 19 = .ok (.aload_n 0, 1) := by decide +kernel
theorem dX10_line_20 : decode cX10_line 20 = .ok (.invokevirtual 149, 3) := by decide +kernel
theorem dX10_line_23 : decode cX10_line 23 = .ok (.aload_n 0, 1) := by decide +kernel
theorem dX10_line_24 : decode cX10_line 24 = .ok (.invokevirtual 202, 3) := by decide +kernel
theorem dX10_line_27 : decode cX10_line 27 = .ok (.goto 99, 3) := by decide +kernel
theorem dX10_line_30 : decode cX10_line 30 = .ok (.aload_n 0, 1) := by decide +kernel
theorem dX10_line_31 : decode cX10_line 31 = .ok (.bipush 12, 2) := by decide +kernel
theorem dX10_line_33 : decode cX10_line 33 = .ok (.bipush 9, 2) := by decide +kernel
theorem dX10_line_35 : decode cX10_line 35 = .ok (.bipush 14, 2) := by decide +kernel
theorem dX10_line_37 : decode cX10_line 37 = .ok (.bipush 11, 2) := by decide +kernel
theorem dX10_line_39 : decode cX10_line 39 = .ok (.iconst 0, 1) := by decide +kernel
theorem dX10_line_40 : decode cX10_line 40 = .ok (.invokestatic 195, 3) := by decide +kernel
theorem dX10_line_43 : decode cX10_line 43 = .ok (.invokevirtual 199, 3) := by decide +kernel
theorem dX10_line_46 : decode cX10_line 46 = .ok (.ifCond .eq 14, 3) := by decide +kernel
theorem dX10_line_49 : decode cX10_line 49 = .ok (.aload_n 0, 1) := by decide +kernel
theorem dX10_line_50 : decode cX10_line 50 = .ok (.invokevirtual 149, 3) := by decide +kernel
theorem dX10_line_53 : decode cX10_line 53 = .ok (.aload_n 0, 1) := by decide +kernel
theorem dX10_line_54 : decode cX10_line 54 = .ok (.invokevirtual 205, 3) := by decide +kernel
theorem dX10_line_57 : decode cX10_line 57 = .ok (.goto 69, 3) := by decide +kernel
theorem dX10_line_60 : decode cX10_line 60 = .ok (.aload_n 0, 1) := by decide +kernel
theorem dX10_line_61 : decode cX10_line 61 = .ok (.bipush 16, 2) := by decide +kernel
theorem dX10_line_63 : decode cX10_line 63 = .ok (.iconst 1, 1) := by decide +kernel
theorem dX10_line_64 : decode cX10_line 64 = .ok (.bipush 20, 2) := by decide +kernel
theorem dX10_line_66 : decode cX10_line 66 = .ok (.bipush 8, 2) := by decide +kernel
theorem dX10_line_68 : decode cX10_line 68 = .ok (.iconst 0, 1) := by decide +kernel
theorem dX10_line_69 : decode cX10_line 69 = .ok (.invokestatic 195, 3) := by decide +kernel
theorem dX10_line_72 : decode cX10_line 72 = .ok (.invokevirtual 199, 3) := by decide +kernel
theorem dX10_line_75 : decode cX10_line 75 = .ok (.ifCond .eq 15, 3) := by decide +kernel
theorem dX10_line_78 : decode cX10_line 78 = .ok (.aload_n 0, 1) := by decide +kernel
theorem dX10_line_79 : decode cX10_line 79 = .ok (.invokevirtual 149, 3) := by decide +kernel
theorem dX10_line_82 : decode cX10_line 82 = .ok (.aload_n 0, 1) := by decide +kernel
theorem dX10_line_83 : decode cX10_line 83 = .ok (.iconst 0, 1) := by decide +kernel
theorem dX10_line_84 : decode cX10_line 84 = .ok (.invokevirtual 208, 3) := by decide +kernel
theorem dX10_line_87 : decode cX10_line 87 = .ok (.goto 39, 3) := by decide +kernel
theorem dX10_line_90 : decode cX10_line 90 = .ok (.aload_n 0, 1) := by decide +kernel
theorem dX10_line_91 : decode cX10_line 91 = .ok (.bipush 18, 2) := by decide +kernel
theorem dX10_line_93 : decode cX10_line 93 = .ok (.bipush 9, 2) := by decide +kernel
theorem dX10_line_95 : decode cX10_line 95 = .ok (.bipush 14, 2) := by decide +kernel
theorem dX10_line_97 : decode cX10_line 97 = .ok (.bipush 7, 2) := by decide +kernel
theorem dX10_line_99 : decode cX10_line 99 = .ok (.iconst 0, 1) := by decide +kernel
theorem dX10_line_100 : decode cX10_line 100 = .ok (.invokestatic 195, 3) := by decide +kernel
theorem dX10_line_103 : decode cX10_line 103 = .ok (.invokevirtual 199, 3) := by decide +kernel
theorem dX10_line_106 : decode cX10_line 106 = .ok (.ifCond .eq 15, 3) := by decide +kernel
theorem dX10_line_109 : decode cX10_line 109 = .ok (.aload_n 0, 1) := by decide +kernel
theorem dX10_line_110 : decode cX10_line 110 = .ok (.invokevirtual 149, 3) := by decide +kernel
theorem dX10_line_113 : decode cX10_line 113 = .ok (.aload_n 0, 1) := by decide +kernel
theorem dX10_line_114 : decode cX10_line 114 = .ok (.iconst 1, 1) := by decide +kernel
theorem dX10_line_115 : decode cX10_line 115 = .ok (.invokevirtual 208, 3) := by decide +kernel
theorem dX10_line_118 : decode cX10_line 118 = .ok (.goto 8, 3) := by decide +kernel
theorem dX10_line_121 : decode cX10_line 121 = .ok (.aload_n 0, 1) := by decide +kernel
theorem dX10_line_122 : decode cX10_line 122 = .ok (.iconst 1, 1) := by decide +kernel
theorem dX10_line_123 : decode cX10_line 123 = .ok (.invokevirtual 152, 3) := by decide +kernel
theorem dX10_line_126 : decode cX10_line 126 = .ok (.return_, 1) := by decide +kernel
theorem dX10_reads_0 : decode cX10_reads 0 = .ok (.aload_n 0, 1) := by decide +kernel
theorem dX10_reads_1 : decode cX10_reads 1 = .ok (.iload_n 1, 1) := by decide +kernel
theorem dX10_reads_2 : decode cX10_reads 2 = .ok (.putfield 117, 3) := by decide +kernel
theorem dX10_reads_5 : decode cX10_reads 5 = .ok (.aload_n 0, 1) := by decide +kernel
theorem dX10_reads_6 : decode cX10_reads 6 = .ok (.iconst 0, 1) := by decide +kernel
theorem dX10_reads_7 : decode cX10_reads 7 = .ok (.putfield 120, 3) := by decide +kernel
theorem dX10_reads_10 : decode cX10_reads 10 = .ok (.aload_n 0, 1) := by decide +kernel
theorem dX10_reads_11 : decode cX10_reads 11 = .ok (.iconst 0, 1) := by decide +kernel
theorem dX10_reads_12 : decode cX10_reads 12 = .ok (.putfield 143, 3) := by decide +kernel
theorem dX10_reads_15 : decode cX10_reads 15 = .ok (.aload_n 0, 1) := by decide +kernel
theorem dX10_reads_16 : decode cX10_reads 16 = .ok (.iconst (-1), 1) := by decide +kernel
theorem dX10_reads_17 : decode cX10_reads 17 = .ok (.putfield 146, 3) := by decide +kernel
theorem dX10_reads_20 : decode cX10_reads 20 = .ok (.aload_n 0, 1) := by decide +kernel
theorem dX10_reads_21 : decode cX10_reads 21 = .ok (.iconst 0, 1) := by decide +kernel
theorem dX10_reads_22 : decode cX10_reads 22 = .ok (.putfield 179, 3) := by decide +kernel
theorem dX10_reads_25 : decode cX10_reads 25 = .ok (.iconst 0, 1) := by decide +kernel
theorem dX10_reads_26 : decode cX10_reads 26 = .ok (.istore_n 2, 1) := by decide +kernel
theorem dX10_reads_27 : decode cX10_reads 27 = .ok (.iload_n 2, 1) := by decide +kernel
theorem dX10_reads_28 : decode cX10_reads 28 = .ok (.bipush 57, 2) := by decide +kernel
theorem dX10_reads_30 : decode cX10_reads 30 = .ok (.if_icmp .ge 16, 3) := by decide +kernel
theorem dX10_reads_33 : decode cX10_reads 33 = .ok (.aload_n 0, 1) := by decide +kernel
theorem dX10_reads_34 : decode cX10_reads 34 = .ok (.getfield 30, 3) := by decide +kernel
theorem dX10_reads_37 : decode cX10_reads 37 = .ok (.iload_n 2, 1) := by decide +kernel
theorem dX10_reads_38 : decode cX10_reads 38 = .ok (.iconst 0, 1) := by decide +kernel
theorem dX10_reads_39 : decode cX10_reads 39 = .ok (.iastore, 1) := by decide +kernel
theorem dX10_reads_40 : decode cX10_reads 40 = .ok (.iinc 2 1, 3) := by decide +kernel
theorem dX10_reads_43 : decode cX10_reads 43 = .ok (.goto (-16), 3) := by decide +kernel
theorem dX10_reads_46 : decode cX10_reads 46 = .ok (.aload_n 0, 1) := by decide +kernel
theorem dX10_reads_47 : decode cX10_reads 47 = .ok (.invokevirtual 149, 3) := by decide +kernel
theorem dX10_reads_50 : decode cX10_reads 50 = .ok (.aload_n 0, 1) := by decide +kernel
theorem dX10_reads_51 : decode cX10_reads 51 = .ok (.bipush 19, 2) := by decide +kernel
theorem dX10_reads_53 : decode cX10_reads 53 = .ok (.bipush 9, 2) := by decide +kernel
theorem dX10_reads_55 : decode cX10_reads 55 = .ok (.bipush 26, 2) := by decide +kernel
theorem dX10_reads_57 : decode cX10_reads 57 = .ok (.iconst 5, 1) := by decide +kernel
theorem dX10_reads_58 : decode cX10_reads 58 = .ok (.iconst 0, 1) := by decide +kernel
theorem dX10_reads_59 : decode cX10_reads 59 = .ok (.invokestatic 195, 3) := by decide +kernel
theorem dX10_reads_62 : decode cX10_reads 62 = .ok (.invokevirtual 199, 3) := by decide +kernel
theorem dX10_reads_65 : decode cX10_reads 65 = .ok (.ifCond .ne 8, 3) := by decide +kernel
theorem dX10_reads_68 : decode cX10_reads 68 = .ok (.aload_n 0, 1) := by decide +kernel
theorem dX10_reads_69 : decode cX10_reads 69 = .ok (.iconst 1, 1) := by decide +kernel
theorem dX10_reads_70 : decode cX10_reads 70 = .ok (.invokevirtual 152, 3) := by decide +kernel
theorem dX10_reads_73 : decode cX10_reads 73 = .ok (.aload_n 0, 1) := by decide +kernel
theorem dX10_reads_74 : decode cX10_reads 74 = .ok (.invokevirtual 164, 3) := by decide +kernel
theorem dX10_reads_77 : decode cX10_reads 77 = .ok (.aload_n 0, 1) := by decide +kernel
theorem dX10_reads_78 : decode cX10_reads 78 = .ok (.getfield 30, 3) := by decide +kernel
theorem dX10_reads_81 : decode cX10_reads 81 = .ok (.iconst 0, 1) := by decide +kernel
theorem dX10_reads_82 : decode cX10_reads 82 = .ok (.aload_n 0, 1) := by decide +kernel
theorem dX10_reads_83 : decode cX10_reads 83 = .ok (.iconst 1, 1) := by decide +kernel
theorem dX10_reads_84 : decode cX10_reads 84 = .ok (.bipush 7, 2) := by decide +kernel
theorem dX10_reads_86 : decode cX10_reads 86 = .ok (.invokevirtual 185, 3) := by decide +kernel
theorem dX10_reads_89 : decode cX10_reads 89 = .ok (.iastore, 1) := by decide +kernel
theorem dX10_reads_90 : decode cX10_reads 90 = .ok (.aload_n 0, 1) := by decide +kernel
theorem dX10_reads_91 : decode cX10_reads 91 = .ok (.getfield 143, 3) := by decide +kernel
theorem dX10_reads_94 : decode cX10_reads 94 = .ok (.ifCond .ne 22, 3) := by decide +kernel
theorem dX10_reads_97 : decode cX10_reads 97 = .ok (.aload_n 0, 1) := by decide +kernel
theorem dX10_reads_98 : decode cX10_reads 98 = .ok (.getfield 130, 3) := by decide +kernel
theorem dX10_reads_101 : decode cX10_reads 101 = .ok (.iconst 3, 1) := by decide +kernel
theorem dX10_reads_102 : decode cX10_reads 102 = .ok (.if_icmp .ne 14, 3) := by decide +kernel
theorem dX10_reads_105 : decode cX10_reads 105 = .ok (.aload_n 0, 1) := by decide +kernel
theorem dX10_reads_106 : decode cX10_reads 106 = .ok (.invokevirtual 149, 3) := by decide +kernel
theorem dX10_reads_109 : decode cX10_reads 109 = .ok (.aload_n 0, 1) := by decide +kernel
theorem dX10_reads_110 : decode cX10_reads 110 = .ok (.invokevirtual 212, 3) := by decide +kernel
theorem dX10_reads_113 : decode cX10_reads 113 = .ok (.goto (-23), 3) := by decide +kernel
theorem dX10_reads_116 : decode cX10_reads 116 = .ok (.aload_n 0, 1) := by decide +kernel
theorem dX10_reads_117 : decode cX10_reads 117 = .ok (.getfield 130, 3) := by decide +kernel
theorem dX10_reads_120 : decode cX10_reads 120 = .ok (.ifCond .eq 8, 3) := by decide +kernel
theorem dX10_reads_123 : decode cX10_reads 123 = .ok (.aload_n 0, 1) := by decide +kernel
theorem dX10_reads_124 : decode cX10_reads 124 = .ok (.iconst 1, 1) := by decide +kernel
theorem dX10_reads_125 : decode cX10_reads 125 = .ok (.invokevirtual 152, 3) := by decide +kernel
theorem dX10_reads_128 : decode cX10_reads 128 = .ok (.return_, 1) := by decide +kernel
theorem dX10_text_0 : decode cX10_text 0 = .ok (.aload_n 0, 1) := by decide +kernel
theorem dX10_text_1 : decode cX10_text 1 = .ok (.invokevirtual 215, 3) := by decide +kernel
theorem dX10_text_4 : decode cX10_text 4 = .ok (.aload_n 0, 1) := by decide +kernel
theorem dX10_text_5 : decode cX10_text 5 = .ok (.iload_n 1, 1) := by decide +kernel
theorem dX10_text_6 : decode cX10_text 6 = .ok (.invokestatic 218, 3) := by decide +kernel
theorem dX10_text_9 : decode cX10_text 9 = .ok (.ifCond .ne 7, 3) := by decide +kernel
theorem dX10_text_12 : decode cX10_text 12 = .ok (.iconst 1, 1) := by decide +kernel
theorem dX10_text_13 : decode cX10_text 13 = .ok (.goto 4, 3) := by decide +kernel
theorem dX10_text_16 : decode cX10_text 16 = .ok (.iconst 0, 1) := by decide +kernel
theorem dX10_text_17 : decode cX10_text 17 = .ok (.iconst 1, 1) := by decide +kernel
theorem dX10_text_18 : decode cX10_text 18 = .ok (.invokevirtual 221, 3) := by decide +kernel
theorem dX10_text_21 : decode cX10_text 21 = .ok (.ifCond .ne 28, 3) := by decide +kernel
theorem dX10_text_24 : decode cX10_text 24 = .ok (.aload_n 0, 1) := by decide +kernel
theorem dX10_text_25 : decode cX10_text 25 = .ok (.iload_n 2, 1) := by decide +kernel
theorem dX10_text_26 : decode cX10_text 26 = .ok (.iconst 0, 1) := by decide +kernel
theorem dX10_text_27 : decode cX10_text 27 = .ok (.aload_n 0, 1) := by decide +kernel
theorem dX10_text_28 : decode cX10_text 28 = .ok (.getfield 111, 3) := by decide +kernel
theorem dX10_text_31 : decode cX10_text 31 = .ok (.invokestatic 156, 3) := by decide +kernel
theorem dX10_text_34 : decode cX10_text 34 = .ok (.ifCond .ne 7, 3) := by decide +kernel
theorem dX10_text_37 : decode cX10_text 37 = .ok (.iconst 1, 1) := by decide +kernel
theorem dX10_text_38 : decode cX10_text 38 = .ok (.goto 4, 3) := by decide +kernel
theorem dX10_text_41 : decode cX10_text 41 = .ok (.iconst 0, 1) := by decide +kernel
theorem dX10_text_42 : decode cX10_text 42 = .ok (.iconst 2, 1) := by decide +kernel
theorem dX10_text_43 : decode cX10_text 43 = .ok (.invokevirtual 221, 3) := by decide +kernel
theorem dX10_text_46 : decode cX10_text 46 = .ok (.ifCond .eq 5, 3) := by decide +kernel
theorem dX10_text_49 : decode cX10_text 49 = .ok (.iconst (-1), 1) := by decide +kernel
theorem dX10_text_50 : decode cX10_text 50 = .ok (.ireturn, 1) := by decide +kernel
theorem dX10_text_51 : decode cX10_text 51 = .ok (.aload_n 0, 1) := by decide +kernel
theorem dX10_text_52 : decode cX10_text 52 = .ok (.iconst 0, 1) := by decide +kernel
theorem dX10_text_53 : decode cX10_text 53 = .ok (.putfield 111, 3) := by decide +kernel
theorem dX10_text_56 : decode cX10_text 56 = .ok (.aload_n 0, 1) := by decide +kernel
theorem dX10_text_57 : decode cX10_text 57 = .ok (.iload_n 2, 1) := by decide +kernel
theorem dX10_text_58 : decode cX10_text 58 = .ok (.invokevirtual 225, 3) := by decide +kernel
theorem dX10_text_61 : decode cX10_text 61 = .ok (.aload_n 0, 1) := by decide +kernel
theorem dX10_text_62 : decode cX10_text 62 = .ok (.aload_n 0, 1) := by decide +kernel
theorem dX10_text_63 : decode cX10_text 63 = .ok (.getfield 143, 3) := by decide +kernel
theorem dX10_text_66 : decode cX10_text 66 = .ok (.putfield 114, 3) := by decide +kernel
theorem dX10_text_69 : decode cX10_text 69 = .ok (.aload_n 0, 1) := by decide +kernel
theorem dX10_text_70 : decode cX10_text 70 = .ok (.aload_n 0, 1) := by decide +kernel
theorem dX10_text_71 : decode cX10_text 71 = .ok (.getfield 143, 3) := by decide +kernel
theorem dX10_text_74 : decode cX10_text 74 = .ok (.ifCond .eq 7, 3) := by decide +kernel
theorem dX10_text_77 : decode cX10_text 77 = .ok (.iconst 1, 1) := by decide +kernel
theorem dX10_text_78 : decode cX10_text 78 = .ok (.goto 4, 3) := by decide +kernel
theorem dX10_text_81 : decode cX10_text 81 = .ok (.iconst 0, 1) := by decide +kernel
theorem dX10_text_82 : decode cX10_text 82 = .ok (.iconst 4, 1) := by decide +kernel
theorem dX10_text_83 : decode cX10_text 83 = .ok (.invokevirtual 221, 3) := by decide +kernel
theorem dX10_text_86 : decode cX10_text 86 = .ok (.ifCond .eq 13, 3) := by decide +kernel
theorem dX10_text_89 : decode cX10_text 89 = .ok (.aload_n 0, 1) := by decide +kernel
theorem dX10_text_90 : decode cX10_text 90 = .ok (.aload_n 0, 1) := by decide +kernel
theorem dX10_text_91 : decode cX10_text 91 = .ok (.getfield 146, 3) := by decide +kernel
theorem dX10_text_94 : decode cX10_text 94 = .ok (.putfield 9, 3) := by decide +kernel
theorem dX10_text_97 : decode cX10_text 97 = .ok (.iconst (-1), 1) := by decide +kernel
theorem dX10_text_98 : decode cX10_text 98 = .ok (.ireturn, 1) := by decide +kernel
theorem dX10_text_99 : decode cX10_text 99 = .ok (.aload_n 0, 1) := by decide +kernel
theorem dX10_text_100 : decode cX10_text 100 = .ok (.invokevirtual 228, 3) := by decide +kernel
theorem dX10_text_103 : decode cX10_text 103 = .ok (.iconst 0, 1) := by decide +kernel
theorem dX10_text_104 : decode cX10_text 104 = .ok (.istore_n 3, 1) := by decide +kernel
theorem dX10_text_105 : decode cX10_text 105 = .ok (.iload_n 3, 1) := by decide +kernel
theorem dX10_text_106 : decode cX10_text 106 = .ok (.bipush 57, 2) := by decide +kernel
theorem dX10_text_108 : decode cX10_text 108 = .ok (.if_icmp .ge 26, 3) := by decide +kernel
theorem dX10_text_111 : decode cX10_text 111 = .ok (.aload_n 0, 1) := by decide +kernel
theorem dX10_text_112 : decode cX10_text 112 = .ok (.getfield 13, 3) := by decide +kernel
theorem dX10_text_115 : decode cX10_text 115 = .ok (.bipush 57, 2) := by decide +kernel
theorem dX10_text_117 : decode cX10_text 117 = .ok (.iload_n 1, 1) := by decide +kernel
theorem dX10_text_118 : decode cX10_text 118 = .ok (.imul, 1) := by decide +kernel
theorem dX10_text_119 : decode cX10_text 119 = .ok (.iload_n 3, 1) := by decide +kernel
theorem dX10_text_120 : decode cX10_text 120 = .ok (.iadd, 1) := by decide +kernel
theorem dX10_text_121 : decode cX10_text 121 = .ok (.aload_n 0, 1) := by decide +kernel
theorem dX10_text_122 : decode cX10_text 122 = .ok (.getfield 30, 3) := by decide +kernel
theorem dX10_text_125 : decode cX10_text 125 = .ok (.iload_n 3, 1) := by decide +kernel
theorem dX10_text_126 : decode cX10_text 126 = .ok (.iaload, 1) := by decide +kernel
theorem dX10_text_127 : decode cX10_text 127 = .ok (.iastore, 1) := by decide +kernel
theorem dX10_text_128 : decode cX10_text 128 = .ok (.iinc 3 1, 3) := by decide +kernel
theorem dX10_text_131 : decode cX10_text 131 = .ok (.goto (-26), 3) := by decide +kernel
theorem dX10_text_134 : decode cX10_text 134 = .ok (.aload_n 0, 1) := by decide +kernel
theorem dX10_text_135 : decode cX10_text 135 = .ok (.getfield 30, 3) := by decide +kernel
theorem dX10_text_138 : decode cX10_text 138 = .ok (.iconst 0, 1) := by decide +kernel
theorem dX10_text_139 : decode cX10_text 139 = .ok (.iaload, 1) := by decide +kernel
theorem dX10_text_140 : decode cX10_text 140 = .ok (.ireturn, 1) := by decide +kernel
theorem dX10_isGraph_0 : decode cX10_isGraph 0 = .ok (.iload_n 0, 1) := by decide +kernel
theorem dX10_isGraph_1 : decode cX10_isGraph 1 = .ok (.iconst 0, 1) := by decide +kernel
theorem dX10_isGraph_2 : decode cX10_isGraph 2 = .ok (.iconst 2, 1) := by decide +kernel
theorem dX10_isGraph_3 : decode cX10_isGraph 3 = .ok (.invokestatic 156, 3) := by decide +kernel
theorem dX10_isGraph_6 : decode cX10_isGraph 6 = .ok (.ireturn, 1) := by decide +kernel
theorem dX10_manyOf_0 : decode cX10_manyOf 0 = .ok (.aload_n 0, 1) := by decide +kernel
theorem dX10_manyOf_1 : decode cX10_manyOf 1 = .ok (.getfield 13, 3) := by decide +kernel
theorem dX10_manyOf_4 : decode cX10_manyOf 4 = .ok (.bipush 57, 2) := by decide +kernel
theorem dX10_manyOf_6 : decode cX10_manyOf 6 = .ok (.iload_n 1, 1) := by decide +kernel
theorem dX10_manyOf_7 : decode cX10_manyOf 7 = .ok (.imul, 1) := by decide +kernel
theorem dX10_manyOf_8 : decode cX10_manyOf 8 = .ok (.iaload, 1) := by decide +kernel
theorem dX10_manyOf_9 : decode cX10_manyOf 9 = .ok (.ireturn, 1) := by decide +kernel
theorem dX10_isVertex_0 : decode cX10_isVertex 0 = .ok (.iload_n 1, 1) := by decide +kernel
theorem dX10_isVertex_1 : decode cX10_isVertex 1 = .ok (.invokestatic 218, 3) := by decide +kernel
theorem dX10_isVertex_4 : decode cX10_isVertex 4 = .ok (.ifCond .eq 22, 3) := by decide +kernel
theorem dX10_isVertex_7 : decode cX10_isVertex 7 = .ok (.iload_n 2, 1) := by decide +kernel
theorem dX10_isVertex_8 : decode cX10_isVertex 8 = .ok (.iconst 0, 1) := by decide +kernel
theorem dX10_isVertex_9 : decode cX10_isVertex 9 = .ok (.aload_n 0, 1) := by decide +kernel
theorem dX10_isVertex_10 : decode cX10_isVertex 10 = .ok (.iload_n 1, 1) := by decide +kernel
theorem dX10_isVertex_11 : decode cX10_isVertex 11 = .ok (.invokevirtual 231, 3) := by decide +kernel
theorem dX10_isVertex_14 : decode cX10_isVertex 14 = .ok (.iconst 1, 1) := by decide +kernel
theorem dX10_isVertex_15 : decode cX10_isVertex 15 = .ok (.isub, 1) := by decide +kernel
theorem dX10_isVertex_16 : decode cX10_isVertex 16 = .ok (.invokestatic 156, 3) := by decide +kernel
theorem dX10_isVertex_19 : decode cX10_isVertex 19 = .ok (.ifCond .eq 7, 3) := by decide +kernel
theorem dX10_isVertex_22 : decode cX10_isVertex 22 = .ok (.iconst 1, 1) := by decide +kernel
theorem dX10_isVertex_23 : decode cX10_isVertex 23 = .ok (.goto 4, 3) := by decide +kernel
theorem dX10_isVertex_26 : decode cX10_isVertex 26 = .ok (.iconst 0, 1) := by decide +kernel
theorem dX10_isVertex_27 : decode cX10_isVertex 27 = .ok (.ireturn, 1) := by decide +kernel
theorem dX10_isSet_0 : decode cX10_isSet 0 = .ok (.iload_n 2, 1) := by decide +kernel
theorem dX10_isSet_1 : decode cX10_isSet 1 = .ok (.ifCond .lt 18, 3) := by decide +kernel
theorem dX10_isSet_4 : decode cX10_isSet 4 = .ok (.iload_n 2, 1) := by decide +kernel
theorem dX10_isSet_5 : decode cX10_isSet 5 = .ok (.iconst 1, 1) := by decide +kernel
theorem dX10_isSet_6 : decode cX10_isSet 6 = .ok (.aload_n 0, 1) := by decide +kernel
theorem dX10_isSet_7 : decode cX10_isSet 7 = .ok (.iload_n 1, 1) := by decide +kernel
theorem dX10_isSet_8 : decode cX10_isSet 8 = .ok (.invokevirtual 231, 3) := by decide +kernel
theorem dX10_isSet_11 : decode cX10_isSet 11 = .ok (.ishl, 1) := by decide +kernel
theorem dX10_isSet_12 : decode cX10_isSet 12 = .ok (.if_icmp .ge 7, 3) := by decide +kernel
theorem dX10_isSet_15 : decode cX10_isSet 15 = .ok (.iconst 1, 1) := by decide +kernel
theorem dX10_isSet_16 : decode cX10_isSet 16 = .ok (.goto 4, 3) := by decide +kernel
theorem dX10_isSet_19 : decode cX10_isSet 19 = .ok (.iconst 0, 1) := by decide +kernel
theorem dX10_isSet_20 : decode cX10_isSet 20 = .ok (.ireturn, 1) := by decide +kernel
theorem dX10_colourOf_0 : decode cX10_colourOf 0 = .ok (.aload_n 0, 1) := by decide +kernel
theorem dX10_colourOf_1 : decode cX10_colourOf 1 = .ok (.getfield 13, 3) := by decide +kernel
theorem dX10_colourOf_4 : decode cX10_colourOf 4 = .ok (.bipush 57, 2) := by decide +kernel
theorem dX10_colourOf_6 : decode cX10_colourOf 6 = .ok (.iload_n 1, 1) := by decide +kernel
theorem dX10_colourOf_7 : decode cX10_colourOf 7 = .ok (.imul, 1) := by decide +kernel
theorem dX10_colourOf_8 : decode cX10_colourOf 8 = .ok (.iconst 1, 1) := by decide +kernel
theorem dX10_colourOf_9 : decode cX10_colourOf 9 = .ok (.iadd, 1) := by decide +kernel
theorem dX10_colourOf_10 : decode cX10_colourOf 10 = .ok (.iload_n 2, 1) := by decide +kernel
theorem dX10_colourOf_11 : decode cX10_colourOf 11 = .ok (.iadd, 1) := by decide +kernel
theorem dX10_colourOf_12 : decode cX10_colourOf 12 = .ok (.iaload, 1) := by decide +kernel
theorem dX10_colourOf_13 : decode cX10_colourOf 13 = .ok (.ireturn, 1) := by decide +kernel
theorem dX10_kindOf_0 : decode cX10_kindOf 0 = .ok (.aload_n 0, 1) := by decide +kernel
theorem dX10_kindOf_1 : decode cX10_kindOf 1 = .ok (.getfield 13, 3) := by decide +kernel
theorem dX10_kindOf_4 : decode cX10_kindOf 4 = .ok (.bipush 57, 2) := by decide +kernel
theorem dX10_kindOf_6 : decode cX10_kindOf 6 = .ok (.iload_n 1, 1) := by decide +kernel
theorem dX10_kindOf_7 : decode cX10_kindOf 7 = .ok (.imul, 1) := by decide +kernel
theorem dX10_kindOf_8 : decode cX10_kindOf 8 = .ok (.bipush 8, 2) := by decide +kernel
theorem dX10_kindOf_10 : decode cX10_kindOf 10 = .ok (.iadd, 1) := by decide +kernel
theorem dX10_kindOf_11 : decode cX10_kindOf 11 = .ok (.bipush 7, 2) := by decide +kernel
theorem dX10_kindOf_13 : decode cX10_kindOf 13 = .ok (.iload_n 2, 1) := by decide +kernel
theorem dX10_kindOf_14 : decode cX10_kindOf 14 = .ok (.imul, 1) := by decide +kernel
theorem dX10_kindOf_15 : decode cX10_kindOf 15 = .ok (.iadd, 1) := by decide +kernel
theorem dX10_kindOf_16 : decode cX10_kindOf 16 = .ok (.iload_n 3, 1) := by decide +kernel
theorem dX10_kindOf_17 : decode cX10_kindOf 17 = .ok (.iadd, 1) := by decide +kernel
theorem dX10_kindOf_18 : decode cX10_kindOf 18 = .ok (.iaload, 1) := by decide +kernel
theorem dX10_kindOf_19 : decode cX10_kindOf 19 = .ok (.ireturn, 1) := by decide +kernel
theorem dX10_rowOf_0 : decode cX10_rowOf 0 = .ok (.iconst 0, 1) := by decide +kernel
theorem dX10_rowOf_1 : decode cX10_rowOf 1 = .ok (.istore_n 3, 1) := by decide +kernel
theorem dX10_rowOf_2 : decode cX10_rowOf 2 = .ok (.iconst 0, 1) := by decide +kernel
theorem dX10_rowOf_3 : decode cX10_rowOf 3 = .ok (.istore 4, 2) := by decide +kernel
theorem dX10_rowOf_5 : decode cX10_rowOf 5 = .ok (.iload 4, 2) := by decide +kernel
theorem dX10_rowOf_7 : decode cX10_rowOf 7 = .ok (.aload_n 0, 1) := by decide +kernel
theorem dX10_rowOf_8 : decode cX10_rowOf 8 = .ok (.iload_n 1, 1) := by decide +kernel
theorem dX10_rowOf_9 : decode cX10_rowOf 9 = .ok (.invokevirtual 231, 3) := by decide +kernel
theorem dX10_rowOf_12 : decode cX10_rowOf 12 = .ok (.if_icmp .ge 31, 3) := by decide +kernel
theorem dX10_rowOf_15 : decode cX10_rowOf 15 = .ok (.iload_n 3, 1) := by decide +kernel
theorem dX10_rowOf_16 : decode cX10_rowOf 16 = .ok (.aload_n 0, 1) := by decide +kernel
theorem dX10_rowOf_17 : decode cX10_rowOf 17 = .ok (.iload_n 1, 1) := by decide +kernel
theorem dX10_rowOf_18 : decode cX10_rowOf 18 = .ok (.iload_n 2, 1) := by decide +kernel
theorem dX10_rowOf_19 : decode cX10_rowOf 19 = .ok (.iload 4, 2) := by decide +kernel
theorem dX10_rowOf_21 : decode cX10_rowOf 21 = .ok (.invokevirtual 234, 3) := by decide +kernel
theorem dX10_rowOf_24 : decode cX10_rowOf 24 = .ok (.ifCond .eq 10, 3) := by decide +kernel
theorem dX10_rowOf_27 : decode cX10_rowOf 27 = .ok (.iconst 1, 1) := by decide +kernel
theorem dX10_rowOf_28 : decode cX10_rowOf 28 = .ok (.iload 4, 2) := by decide +kernel
theorem dX10_rowOf_30 : decode cX10_rowOf 30 = .ok (.ishl, 1) := by decide +kernel
theorem dX10_rowOf_31 : decode cX10_rowOf 31 = .ok (.goto 4, 3) := by decide +kernel
theorem dX10_rowOf_34 : decode cX10_rowOf 34 = .ok (.iconst 0, 1) := by decide +kernel
theorem dX10_rowOf_35 : decode cX10_rowOf 35 = .ok (.ior, 1) := by decide +kernel
theorem dX10_rowOf_36 : decode cX10_rowOf 36 = .ok (.istore_n 3, 1) := by decide +kernel
theorem dX10_rowOf_37 : decode cX10_rowOf 37 = .ok (.iinc 4 1, 3) := by decide +kernel
theorem dX10_rowOf_40 : decode cX10_rowOf 40 = .ok (.goto (-35), 3) := by decide +kernel
theorem dX10_rowOf_43 : decode cX10_rowOf 43 = .ok (.iload_n 3, 1) := by decide +kernel
theorem dX10_rowOf_44 : decode cX10_rowOf 44 = .ok (.ireturn, 1) := by decide +kernel
theorem dX10_linksOf_0 : decode cX10_linksOf 0 = .ok (.iconst 0, 1) := by decide +kernel
theorem dX10_linksOf_1 : decode cX10_linksOf 1 = .ok (.istore_n 2, 1) := by decide +kernel
theorem dX10_linksOf_2 : decode cX10_linksOf 2 = .ok (.iconst 0, 1) := by decide +kernel
theorem dX10_linksOf_3 : decode cX10_linksOf 3 = .ok (.istore_n 3, 1) := by decide +kernel
theorem dX10_linksOf_4 : decode cX10_linksOf 4 = .ok (.iload_n 3, 1) := by decide +kernel
theorem dX10_linksOf_5 : decode cX10_linksOf 5 = .ok (.aload_n 0, 1) := by decide +kernel
theorem dX10_linksOf_6 : decode cX10_linksOf 6 = .ok (.iload_n 1, 1) := by decide +kernel
theorem dX10_linksOf_7 : decode cX10_linksOf 7 = .ok (.invokevirtual 231, 3) := by decide +kernel
theorem dX10_linksOf_10 : decode cX10_linksOf 10 = .ok (.if_icmp .ge 21, 3) := by decide +kernel
theorem dX10_linksOf_13 : decode cX10_linksOf 13 = .ok (.iload_n 2, 1) := by decide +kernel
theorem dX10_linksOf_14 : decode cX10_linksOf 14 = .ok (.aload_n 0, 1) := by decide +kernel
theorem dX10_linksOf_15 : decode cX10_linksOf 15 = .ok (.iload_n 1, 1) := by decide +kernel
theorem dX10_linksOf_16 : decode cX10_linksOf 16 = .ok (.iload_n 3, 1) := by decide +kernel
theorem dX10_linksOf_17 : decode cX10_linksOf 17 = .ok (.invokevirtual 238, 3) := by decide +kernel
theorem dX10_linksOf_20 : decode cX10_linksOf 20 = .ok (.invokestatic 241, 3) := by decide +kernel
theorem dX10_linksOf_23 : decode cX10_linksOf 23 = .ok (.iadd, 1) := by decide +kernel
theorem dX10_linksOf_24 : decode cX10_linksOf 24 = .ok (.istore_n 2, 1) := by decide +kernel
theorem dX10_linksOf_25 : decode cX10_linksOf 25 = .ok (.iinc 3 1, 3) := by decide +kernel
theorem dX10_linksOf_28 : decode cX10_linksOf 28 = .ok (.goto (-24), 3) := by decide +kernel
theorem dX10_linksOf_31 : decode cX10_linksOf 31 = .ok (.iload_n 2, 1) := by decide +kernel
theorem dX10_linksOf_32 : decode cX10_linksOf 32 = .ok (.iconst 2, 1) := by decide +kernel
theorem dX10_linksOf_33 : decode cX10_linksOf 33 = .ok (.idiv, 1) := by decide +kernel
theorem dX10_linksOf_34 : decode cX10_linksOf 34 = .ok (.ireturn, 1) := by decide +kernel
theorem dX10_coloursOf_0 : decode cX10_coloursOf 0 = .ok (.iconst 0, 1) := by decide +kernel
theorem dX10_coloursOf_1 : decode cX10_coloursOf 1 = .ok (.istore_n 2, 1) := by decide +kernel
theorem dX10_coloursOf_2 : decode cX10_coloursOf 2 = .ok (.iconst 0, 1) := by decide +kernel
theorem dX10_coloursOf_3 : decode cX10_coloursOf 3 = .ok (.istore_n 3, 1) := by decide +kernel
theorem dX10_coloursOf_4 : decode cX10_coloursOf 4 = .ok (.iload_n 3, 1) := by decide +kernel
theorem dX10_coloursOf_5 : decode cX10_coloursOf 5 = .ok (.aload_n 0, 1) := by decide +kernel
theorem dX10_coloursOf_6 : decode cX10_coloursOf 6 = .ok (.iload_n 1, 1) := by decide +kernel
theorem dX10_coloursOf_7 : decode cX10_coloursOf 7 = .ok (.invokevirtual 231, 3) := by decide +kernel
theorem dX10_coloursOf_10 : decode cX10_coloursOf 10 = .ok (.if_icmp .ge 20, 3) := by decide +kernel
theorem dX10_coloursOf_13 : decode cX10_coloursOf 13 = .ok (.iload_n 2, 1) := by decide +kernel
theorem dX10_coloursOf_14 : decode cX10_coloursOf 14 = .ok (.iconst 1, 1) := by decide +kernel
theorem dX10_coloursOf_15 : decode cX10_coloursOf 15 = .ok (.aload_n 0, 1) := by decide +kernel
theorem dX10_coloursOf_16 : decode cX10_coloursOf 16 = .ok (.iload_n 1, 1) := by decide +kernel
theorem dX10_coloursOf_17 : decode cX10_coloursOf 17 = .ok (.iload_n 3, 1) := by decide +kernel
theorem dX10_coloursOf_18 : decode cX10_coloursOf 18 = .ok (.invokevirtual 244, 3) := by decide +kernel
theorem dX10_coloursOf_21 : decode cX10_coloursOf 21 = .ok (.ishl, 1) := by decide +kernel
theorem dX10_coloursOf_22 : decode cX10_coloursOf 22 = .ok (.ior, 1) := by decide +kernel
theorem dX10_coloursOf_23 : decode cX10_coloursOf 23 = .ok (.istore_n 2, 1) := by decide +kernel
theorem dX10_coloursOf_24 : decode cX10_coloursOf 24 = .ok (.iinc 3 1, 3) := by decide +kernel
theorem dX10_coloursOf_27 : decode cX10_coloursOf 27 = .ok (.goto (-23), 3) := by decide +kernel
theorem dX10_coloursOf_30 : decode cX10_coloursOf 30 = .ok (.iconst 0, 1) := by decide +kernel
theorem dX10_coloursOf_31 : decode cX10_coloursOf 31 = .ok (.istore_n 3, 1) := by decide +kernel
theorem dX10_coloursOf_32 : decode cX10_coloursOf 32 = .ok (.iconst 0, 1) := by decide +kernel
theorem dX10_coloursOf_33 : decode cX10_coloursOf 33 = .ok (.istore 4, 2) := by decide +kernel
theorem dX10_coloursOf_35 : decode cX10_coloursOf 35 = .ok (.iload 4, 2) := by decide +kernel
theorem dX10_coloursOf_37 : decode cX10_coloursOf 37 = .ok (.bipush 10, 2) := by decide +kernel
theorem dX10_coloursOf_39 : decode cX10_coloursOf 39 = .ok (.if_icmp .ge 18, 3) := by decide +kernel
theorem dX10_coloursOf_42 : decode cX10_coloursOf 42 = .ok (.iload_n 3, 1) := by decide +kernel
theorem dX10_coloursOf_43 : decode cX10_coloursOf 43 = .ok (.iload_n 2, 1) := by decide +kernel
theorem dX10_coloursOf_44 : decode cX10_coloursOf 44 = .ok (.iload 4, 2) := by decide +kernel
theorem dX10_coloursOf_46 : decode cX10_coloursOf 46 = .ok (.ishr, 1) := by decide +kernel
theorem dX10_coloursOf_47 : decode cX10_coloursOf 47 = .ok (.iconst 1, 1) := by decide +kernel
theorem dX10_coloursOf_48 : decode cX10_coloursOf 48 = .ok (.iand, 1) := by decide +kernel
theorem dX10_coloursOf_49 : decode cX10_coloursOf 49 = .ok (.iadd, 1) := by decide +kernel
theorem dX10_coloursOf_50 : decode cX10_coloursOf 50 = .ok (.istore_n 3, 1) := by decide +kernel
theorem dX10_coloursOf_51 : decode cX10_coloursOf 51 = .ok (.iinc 4 1, 3) := by decide +kernel
theorem dX10_coloursOf_54 : decode cX10_coloursOf 54 = .ok (.goto (-19), 3) := by decide +kernel
theorem dX10_coloursOf_57 : decode cX10_coloursOf 57 = .ok (.iload_n 3, 1) := by decide +kernel
theorem dX10_coloursOf_58 : decode cX10_coloursOf 58 = .ok (.ireturn, 1) := by decide +kernel
theorem dX10_graph_0 : decode cX10_graph 0 = .ok (.aload_n 0, 1) := by decide +kernel
theorem dX10_graph_1 : decode cX10_graph 1 = .ok (.invokevirtual 215, 3) := by decide +kernel
theorem dX10_graph_4 : decode cX10_graph 4 = .ok (.aload_n 0, 1) := by decide +kernel
theorem dX10_graph_5 : decode cX10_graph 5 = .ok (.iload_n 1, 1) := by decide +kernel
theorem dX10_graph_6 : decode cX10_graph 6 = .ok (.invokestatic 218, 3) := by decide +kernel
theorem dX10_graph_9 : decode cX10_graph 9 = .ok (.ifCond .eq 12, 3) := by decide +kernel
theorem dX10_graph_12 : decode cX10_graph 12 = .ok (.iload_n 2, 1) := by decide +kernel
theorem dX10_graph_13 : decode cX10_graph 13 = .ok (.iconst 0, 1) := by decide +kernel
theorem dX10_graph_14 : decode cX10_graph 14 = .ok (.iconst 3, 1) := by decide +kernel
theorem dX10_graph_15 : decode cX10_graph 15 = .ok (.invokestatic 156, 3) := by decide +kernel
theorem dX10_graph_18 : decode cX10_graph 18 = .ok (.ifCond .ne 7, 3) := by decide +kernel
theorem dX10_graph_21 : decode cX10_graph 21 = .ok (.iconst 1, 1) := by decide +kernel
theorem dX10_graph_22 : decode cX10_graph 22 = .ok (.goto 4, 3) := by decide +kernel
theorem dX10_graph_25 : decode cX10_graph 25 = .ok (.iconst 0, 1) := by decide +kernel
theorem dX10_graph_26 : decode cX10_graph 26 = .ok (.iconst 1, 1) := by decide +kernel
theorem dX10_graph_27 : decode cX10_graph 27 = .ok (.invokevirtual 221, 3) := by decide +kernel
theorem dX10_graph_30 : decode cX10_graph 30 = .ok (.ifCond .eq 5, 3) := by decide +kernel
theorem dX10_graph_33 : decode cX10_graph 33 = .ok (.iconst (-1), 1) := by decide +kernel
theorem dX10_graph_34 : decode cX10_graph 34 = .ok (.ireturn, 1) := by decide +kernel
theorem dX10_graph_35 : decode cX10_graph 35 = .ok (.iload_n 2, 1) := by decide +kernel
theorem dX10_graph_36 : decode cX10_graph 36 = .ok (.tableswitch 46 0 2 #[28, 34, 40], 28) := by decide +kernel
theorem dX10_graph_64 : decode cX10_graph 64 = .ok (.aload_n 0, 1) := by decide +kernel
theorem dX10_graph_65 : decode cX10_graph 65 = .ok (.iload_n 1, 1) := by decide +kernel
theorem dX10_graph_66 : decode cX10_graph 66 = .ok (.invokevirtual 231, 3) := by decide +kernel
theorem dX10_graph_69 : decode cX10_graph 69 = .ok (.ireturn, 1) := by decide +kernel
theorem dX10_graph_70 : decode cX10_graph 70 = .ok (.aload_n 0, 1) := by decide +kernel
theorem dX10_graph_71 : decode cX10_graph 71 = .ok (.iload_n 1, 1) := by decide +kernel
theorem dX10_graph_72 : decode cX10_graph 72 = .ok (.invokevirtual 247, 3) := by decide +kernel
theorem dX10_graph_75 : decode cX10_graph 75 = .ok (.ireturn, 1) := by decide +kernel
theorem dX10_graph_76 : decode cX10_graph 76 = .ok (.aload_n 0, 1) := by decide +kernel
theorem dX10_graph_77 : decode cX10_graph 77 = .ok (.iload_n 1, 1) := by decide +kernel
theorem dX10_graph_78 : decode cX10_graph 78 = .ok (.invokevirtual 250, 3) := by decide +kernel
theorem dX10_graph_81 : decode cX10_graph 81 = .ok (.ireturn, 1) := by decide +kernel
theorem dX10_graph_82 : decode cX10_graph 82 = .ok (.iconst 0, 1) := by decide +kernel
theorem dX10_graph_83 : decode cX10_graph 83 = .ok (.istore_n 3, 1) := by decide +kernel
theorem dX10_graph_84 : decode cX10_graph 84 = .ok (.iconst 0, 1) := by decide +kernel
theorem dX10_graph_85 : decode cX10_graph 85 = .ok (.istore 4, 2) := by decide +kernel
theorem dX10_graph_87 : decode cX10_graph 87 = .ok (.iload 4, 2) := by decide +kernel
theorem dX10_graph_89 : decode cX10_graph 89 = .ok (.aload_n 0, 1) := by decide +kernel
theorem dX10_graph_90 : decode cX10_graph 90 = .ok (.iload_n 1, 1) := by decide +kernel
theorem dX10_graph_91 : decode cX10_graph 91 = .ok (.invokevirtual 231, 3) := by decide +kernel
theorem dX10_graph_94 : decode cX10_graph 94 = .ok (.if_icmp .ge 34, 3) := by decide +kernel
theorem dX10_graph_97 : decode cX10_graph 97 = .ok (.aload_n 0, 1) := by decide +kernel
theorem dX10_graph_98 : decode cX10_graph 98 = .ok (.iload_n 1, 1) := by decide +kernel
theorem dX10_graph_99 : decode cX10_graph 99 = .ok (.iload 4, 2) := by decide +kernel
theorem dX10_graph_101 : decode cX10_graph 101 = .ok (.invokevirtual 238, 3) := by decide +kernel
theorem dX10_graph_104 : decode cX10_graph 104 = .ok (.invokestatic 241, 3) := by decide +kernel
theorem dX10_graph_107 : decode cX10_graph 107 = .ok (.istore 5, 2) := by decide +kernel
theorem dX10_graph_109 : decode cX10_graph 109 = .ok (.iload 5, 2) := by decide +kernel
theorem dX10_graph_111 : decode cX10_graph 111 = .ok (.iload_n 3, 1) := by decide +kernel
theorem dX10_graph_112 : decode cX10_graph 112 = .ok (.if_icmp .le 8, 3) := by decide +kernel
theorem dX10_graph_115 : decode cX10_graph 115 = .ok (.iload 5, 2) := by decide +kernel
theorem dX10_graph_117 : decode cX10_graph 117 = .ok (.goto 4, 3) := by decide +kernel
theorem dX10_graph_120 : decode cX10_graph 120 = .ok (.iload_n 3, 1) := by decide +kernel
theorem dX10_graph_121 : decode cX10_graph 121 = .ok (.istore_n 3, 1) := by decide +kernel
theorem dX10_graph_122 : decode cX10_graph 122 = .ok (.iinc 4 1, 3) := by decide +kernel
theorem dX10_graph_125 : decode cX10_graph 125 = .ok (.goto (-38), 3) := by decide +kernel
theorem dX10_graph_128 : decode cX10_graph 128 = .ok (.iload_n 3, 1) := by decide +kernel
theorem dX10_graph_129 : decode cX10_graph 129 = .ok (.ireturn, 1) := by decide +kernel
theorem dX10_colour_0 : decode cX10_colour 0 = .ok (.aload_n 0, 1) := by decide +kernel
theorem dX10_colour_1 : decode cX10_colour 1 = .ok (.invokevirtual 215, 3) := by decide +kernel
theorem dX10_colour_4 : decode cX10_colour 4 = .ok (.aload_n 0, 1) := by decide +kernel
theorem dX10_colour_5 : decode cX10_colour 5 = .ok (.aload_n 0, 1) := by decide +kernel
theorem dX10_colour_6 : decode cX10_colour 6 = .ok (.iload_n 1, 1) := by decide +kernel
theorem dX10_colour_7 : decode cX10_colour 7 = .ok (.iload_n 2, 1) := by decide +kernel
theorem dX10_colour_8 : decode cX10_colour 8 = .ok (.invokevirtual 253, 3) := by decide +kernel
theorem dX10_colour_11 : decode cX10_colour 11 = .ok (.ifCond .ne 7, 3) := by decide +kernel
theorem dX10_colour_14 : decode cX10_colour 14 = .ok (.iconst 1, 1) := by decide +kernel
theorem dX10_colour_15 : decode cX10_colour 15 = .ok (.goto 4, 3) := by decide +kernel
theorem dX10_colour_18 : decode cX10_colour 18 = .ok (.iconst 0, 1) := by decide +kernel
theorem dX10_colour_19 : decode cX10_colour 19 = .ok (.iconst 1, 1) := by decide +kernel
theorem dX10_colour_20 : decode cX10_colour 20 = .ok (.invokevirtual 221, 3) := by decide +kernel
theorem dX10_colour_23 : decode cX10_colour 23 = .ok (.ifCond .eq 5, 3) := by decide +kernel
theorem dX10_colour_26 : decode cX10_colour 26 = .ok (.iconst (-1), 1) := by decide +kernel
theorem dX10_colour_27 : decode cX10_colour 27 = .ok (.ireturn, 1) := by decide +kernel
theorem dX10_colour_28 : decode cX10_colour 28 = .ok (.aload_n 0, 1) := by decide +kernel
theorem dX10_colour_29 : decode cX10_colour 29 = .ok (.iload_n 1, 1) := by decide +kernel
theorem dX10_colour_30 : decode cX10_colour 30 = .ok (.iload_n 2, 1) := by decide +kernel
theorem dX10_colour_31 : decode cX10_colour 31 = .ok (.invokevirtual 244, 3) := by decide +kernel
theorem dX10_colour_34 : decode cX10_colour 34 = .ok (.ireturn, 1) := by decide +kernel
theorem dX10_kind_0 : decode cX10_kind 0 = .ok (.aload_n 0, 1) := by decide +kernel
theorem dX10_kind_1 : decode cX10_kind 1 = .ok (.invokevirtual 215, 3) := by decide +kernel
theorem dX10_kind_4 : decode cX10_kind 4 = .ok (.aload_n 0, 1) := by decide +kernel
theorem dX10_kind_5 : decode cX10_kind 5 = .ok (.aload_n 0, 1) := by decide +kernel
theorem dX10_kind_6 : decode cX10_kind 6 = .ok (.iload_n 1, 1) := by decide +kernel
theorem dX10_kind_7 : decode cX10_kind 7 = .ok (.iload_n 2, 1) := by decide +kernel
theorem dX10_kind_8 : decode cX10_kind 8 = .ok (.invokevirtual 253, 3) := by decide +kernel
theorem dX10_kind_11 : decode cX10_kind 11 = .ok (.ifCond .eq 12, 3) := by decide +kernel
theorem dX10_kind_14 : decode cX10_kind 14 = .ok (.aload_n 0, 1) := by decide +kernel
theorem dX10_kind_15 : decode cX10_kind 15 = .ok (.iload_n 1, 1) := by decide +kernel
theorem dX10_kind_16 : decode cX10_kind 16 = .ok (.iload_n 3, 1) := by decide +kernel
theorem dX10_kind_17 : decode cX10_kind 17 = .ok (.invokevirtual 253, 3) := by decide +kernel
theorem dX10_kind_20 : decode cX10_kind 20 = .ok (.ifCond .ne 7, 3) := by decide +kernel
theorem dX10_kind_23 : decode cX10_kind 23 = .ok (.iconst 1, 1) := by decide +kernel
theorem dX10_kind_24 : decode cX10_kind 24 = .ok (.goto 4, 3) := by decide +kernel
theorem dX10_kind_27 : decode cX10_kind 27 = .ok (.iconst 0, 1) := by decide +kernel
theorem dX10_kind_28 : decode cX10_kind 28 = .ok (.iconst 1, 1) := by decide +kernel
theorem dX10_kind_29 : decode cX10_kind 29 = .ok (.invokevirtual 221, 3) := by decide +kernel
theorem dX10_kind_32 : decode cX10_kind 32 = .ok (.ifCond .ne 21, 3) := by decide +kernel
theorem dX10_kind_35 : decode cX10_kind 35 = .ok (.aload_n 0, 1) := by decide +kernel
theorem dX10_kind_36 : decode cX10_kind 36 = .ok (.iload_n 2, 1) := by decide +kernel
theorem dX10_kind_37 : decode cX10_kind 37 = .ok (.iload_n 3, 1) := by decide +kernel
theorem dX10_kind_38 : decode cX10_kind 38 = .ok (.if_icmp .ne 7, 3) := by decide +kernel
theorem dX10_kind_41 : decode cX10_kind 41 = .ok (.iconst 1, 1) := by decide +kernel
theorem dX10_kind_42 : decode cX10_kind 42 = .ok (.goto 4, 3) := by decide +kernel
theorem dX10_kind_45 : decode cX10_kind 45 = .ok (.iconst 0, 1) := by decide +kernel
theorem dX10_kind_46 : decode cX10_kind 46 = .ok (.iconst 5, 1) := by decide +kernel
theorem dX10_kind_47 : decode cX10_kind 47 = .ok (.invokevirtual 221, 3) := by decide +kernel
theorem dX10_kind_50 : decode cX10_kind 50 = .ok (.ifCond .eq 5, 3) := by decide +kernel
theorem dX10_kind_53 : decode cX10_kind 53 = .ok (.iconst (-1), 1) := by decide +kernel
theorem dX10_kind_54 : decode cX10_kind 54 = .ok (.ireturn, 1) := by decide +kernel
theorem dX10_kind_55 : decode cX10_kind 55 = .ok (.aload_n 0, 1) := by decide +kernel
theorem dX10_kind_56 : decode cX10_kind 56 = .ok (.iload_n 1, 1) := by decide +kernel
theorem dX10_kind_57 : decode cX10_kind 57 = .ok (.iload_n 2, 1) := by decide +kernel
theorem dX10_kind_58 : decode cX10_kind 58 = .ok (.iload_n 3, 1) := by decide +kernel
theorem dX10_kind_59 : decode cX10_kind 59 = .ok (.invokevirtual 234, 3) := by decide +kernel
theorem dX10_kind_62 : decode cX10_kind 62 = .ok (.ireturn, 1) := by decide +kernel
theorem dX10_degree_0 : decode cX10_degree 0 = .ok (.aload_n 0, 1) := by decide +kernel
theorem dX10_degree_1 : decode cX10_degree 1 = .ok (.invokevirtual 215, 3) := by decide +kernel
theorem dX10_degree_4 : decode cX10_degree 4 = .ok (.aload_n 0, 1) := by decide +kernel
theorem dX10_degree_5 : decode cX10_degree 5 = .ok (.aload_n 0, 1) := by decide +kernel
theorem dX10_degree_6 : decode cX10_degree 6 = .ok (.iload_n 1, 1) := by decide +kernel
theorem dX10_degree_7 : decode cX10_degree 7 = .ok (.iload_n 2, 1) := by decide +kernel
theorem dX10_degree_8 : decode cX10_degree 8 = .ok (.invokevirtual 253, 3) := by decide +kernel
theorem dX10_degree_11 : decode cX10_degree 11 = .ok (.ifCond .ne 7, 3) := by decide +kernel
theorem dX10_degree_14 : decode cX10_degree 14 = .ok (.iconst 1, 1) := by decide +kernel
theorem dX10_degree_15 : decode cX10_degree 15 = .ok (.goto 4, 3) := by decide +kernel
theorem dX10_degree_18 : decode cX10_degree 18 = .ok (.iconst 0, 1) := by decide +kernel
theorem dX10_degree_19 : decode cX10_degree 19 = .ok (.iconst 1, 1) := by decide +kernel
theorem dX10_degree_20 : decode cX10_degree 20 = .ok (.invokevirtual 221, 3) := by decide +kernel
theorem dX10_degree_23 : decode cX10_degree 23 = .ok (.ifCond .ne 25, 3) := by decide +kernel
theorem dX10_degree_26 : decode cX10_degree 26 = .ok (.aload_n 0, 1) := by decide +kernel
theorem dX10_degree_27 : decode cX10_degree 27 = .ok (.iload_n 3, 1) := by decide +kernel
theorem dX10_degree_28 : decode cX10_degree 28 = .ok (.iconst 0, 1) := by decide +kernel
theorem dX10_degree_29 : decode cX10_degree 29 = .ok (.iconst 3, 1) := by decide +kernel
theorem dX10_degree_30 : decode cX10_degree 30 = .ok (.invokestatic 156, 3) := by decide +kernel
theorem dX10_degree_33 : decode cX10_degree 33 = .ok (.ifCond .ne 7, 3) := by decide +kernel
theorem dX10_degree_36 : decode cX10_degree 36 = .ok (.iconst 1, 1) := by decide +kernel
theorem dX10_degree_37 : decode cX10_degree 37 = .ok (.goto 4, 3) := by decide +kernel
theorem dX10_degree_40 : decode cX10_degree 40 = .ok (.iconst 0, 1) := by decide +kernel
theorem dX10_degree_41 : decode cX10_degree 41 = .ok (.iconst 2, 1) := by decide +kernel
theorem dX10_degree_42 : decode cX10_degree 42 = .ok (.invokevirtual 221, 3) := by decide +kernel
theorem dX10_degree_45 : decode cX10_degree 45 = .ok (.ifCond .eq 5, 3) := by decide +kernel
theorem dX10_degree_48 : decode cX10_degree 48 = .ok (.iconst (-1), 1) := by decide +kernel
theorem dX10_degree_49 : decode cX10_degree 49 = .ok (.ireturn, 1) := by decide +kernel
theorem dX10_degree_50 : decode cX10_degree 50 = .ok (.iconst 0, 1) := by decide +kernel
theorem dX10_degree_51 : decode cX10_degree 51 = .ok (.istore 4, 2) := by decide +kernel
theorem dX10_degree_53 : decode cX10_degree 53 = .ok (.iconst 0, 1) := by decide +kernel
theorem dX10_degree_54 : decode cX10_degree 54 = .ok (.istore 5, 2) := by decide +kernel
theorem dX10_degree_56 : decode cX10_degree 56 = .ok (.iload 5, 2) := by decide +kernel
theorem dX10_degree_58 : decode cX10_degree 58 = .ok (.aload_n 0, 1) := by decide +kernel
theorem dX10_degree_59 : decode cX10_degree 59 = .ok (.iload_n 1, 1) := by decide +kernel
theorem dX10_degree_60 : decode cX10_degree 60 = .ok (.invokevirtual 231, 3) := by decide +kernel
theorem dX10_degree_63 : decode cX10_degree 63 = .ok (.if_icmp .ge 44, 3) := by decide +kernel
theorem dX10_degree_66 : decode cX10_degree 66 = .ok (.aload_n 0, 1) := by decide +kernel
theorem dX10_degree_67 : decode cX10_degree 67 = .ok (.iload_n 1, 1) := by decide +kernel
theorem dX10_degree_68 : decode cX10_degree 68 = .ok (.iload_n 2, 1) := by decide +kernel
theorem dX10_degree_69 : decode cX10_degree 69 = .ok (.iload 5, 2) := by decide +kernel
theorem dX10_degree_71 : decode cX10_degree 71 = .ok (.invokevirtual 234, 3) := by decide +kernel
theorem dX10_degree_74 : decode cX10_degree 74 = .ok (.istore 6, 2) := by decide +kernel
theorem dX10_degree_76 : decode cX10_degree 76 = .ok (.iload 4, 2) := by decide +kernel
theorem dX10_degree_78 : decode cX10_degree 78 = .ok (.iload 6, 2) := by decide +kernel
theorem dX10_degree_80 : decode cX10_degree 80 = .ok (.ifCond .eq 17, 3) := by decide +kernel
theorem dX10_degree_83 : decode cX10_degree 83 = .ok (.iload_n 3, 1) := by decide +kernel
theorem dX10_degree_84 : decode cX10_degree 84 = .ok (.ifCond .eq 9, 3) := by decide +kernel
theorem dX10_degree_87 : decode cX10_degree 87 = .ok (.iload 6, 2) := by decide +kernel
theorem dX10_degree_89 : decode cX10_degree 89 = .ok (.iload_n 3, 1) := by decide +kernel
theorem dX10_degree_90 : decode cX10_degree 90 = .ok (.if_icmp .ne 7, 3) := by decide +kernel
theorem dX10_degree_93 : decode cX10_degree 93 = .ok (.iconst 1, 1) := by decide +kernel
theorem dX10_degree_94 : decode cX10_degree 94 = .ok (.goto 4, 3) := by decide +kernel
theorem dX10_degree_97 : decode cX10_degree 97 = .ok (.iconst 0, 1) := by decide +kernel
theorem dX10_degree_98 : decode cX10_degree 98 = .ok (.iadd, 1) := by decide +kernel
theorem dX10_degree_99 : decode cX10_degree 99 = .ok (.istore 4, 2) := by decide +kernel
theorem dX10_degree_101 : decode cX10_degree 101 = .ok (.iinc 5 1, 3) := by decide +kernel
theorem dX10_degree_104 : decode cX10_degree 104 = .ok (.goto (-48), 3) := by decide +kernel
theorem dX10_degree_107 : decode cX10_degree 107 = .ok (.iload 4, 2) := by decide +kernel
theorem dX10_degree_109 : decode cX10_degree 109 = .ok (.ireturn, 1) := by decide +kernel
theorem dX10_row_0 : decode cX10_row 0 = .ok (.aload_n 0, 1) := by decide +kernel
theorem dX10_row_1 : decode cX10_row 1 = .ok (.iconst 0, 1) := by decide +kernel
theorem dX10_row_2 : decode cX10_row 2 = .ok (.putfield 105, 3) := by decide +kernel
theorem dX10_row_5 : decode cX10_row 5 = .ok (.aload_n 0, 1) := by decide +kernel
theorem dX10_row_6 : decode cX10_row 6 = .ok (.iload_n 1, 1) := by decide +kernel
theorem dX10_row_7 : decode cX10_row 7 = .ok (.iload_n 2, 1) := by decide +kernel
theorem dX10_row_8 : decode cX10_row 8 = .ok (.invokevirtual 253, 3) := by decide +kernel
theorem dX10_row_11 : decode cX10_row 11 = .ok (.ifCond .ne 10, 3) := by decide +kernel
theorem dX10_row_14 : decode cX10_row 14 = .ok (.aload_n 0, 1) := by decide +kernel
theorem dX10_row_15 : decode cX10_row 15 = .ok (.iconst 1, 1) := by decide +kernel
theorem dX10_row_16 : decode cX10_row 16 = .ok (.putfield 105, 3) := by decide +kernel
theorem dX10_row_19 : decode cX10_row 19 = .ok (.iconst 0, 1) := by decide +kernel
theorem dX10_row_20 : decode cX10_row 20 = .ok (.ireturn, 1) := by decide +kernel
theorem dX10_row_21 : decode cX10_row 21 = .ok (.aload_n 0, 1) := by decide +kernel
theorem dX10_row_22 : decode cX10_row 22 = .ok (.iload_n 1, 1) := by decide +kernel
theorem dX10_row_23 : decode cX10_row 23 = .ok (.iload_n 2, 1) := by decide +kernel
theorem dX10_row_24 : decode cX10_row 24 = .ok (.invokevirtual 238, 3) := by decide +kernel
theorem dX10_row_27 : decode cX10_row 27 = .ok (.ireturn, 1) := by decide +kernel
theorem dX10_lays_0 : decode cX10_lays 0 = .ok (.aload_n 0, 1) := by decide +kernel
theorem dX10_lays_1 : decode cX10_lays 1 = .ok (.aload_n 0, 1) := by decide +kernel
theorem dX10_lays_2 : decode cX10_lays 2 = .ok (.iload_n 1, 1) := by decide +kernel
theorem dX10_lays_3 : decode cX10_lays 3 = .ok (.invokevirtual 231, 3) := by decide +kernel
theorem dX10_lays_6 : decode cX10_lays 6 = .ok (.putfield 256, 3) := by decide +kernel
theorem dX10_lays_9 : decode cX10_lays 9 = .ok (.iconst 0, 1) := by decide +kernel
theorem dX10_lays_10 : decode cX10_lays 10 = .ok (.istore_n 2, 1) := by decide +kernel
theorem dX10_lays_11 : decode cX10_lays 11 = .ok (.iload_n 2, 1) := by decide +kernel
theorem dX10_lays_12 : decode cX10_lays 12 = .ok (.aload_n 0, 1) := by decide +kernel
theorem dX10_lays_13 : decode cX10_lays 13 = .ok (.getfield 256, 3) := by decide +kernel
theorem dX10_lays_16 : decode cX10_lays 16 = .ok (.if_icmp .ge 55, 3) := by decide +kernel
theorem dX10_lays_19 : decode cX10_lays 19 = .ok (.aload_n 0, 1) := by decide +kernel
theorem dX10_lays_20 : decode cX10_lays 20 = .ok (.getfield 33, 3) := by decide +kernel
theorem dX10_lays_23 : decode cX10_lays 23 = .ok (.iload_n 2, 1) := by decide +kernel
theorem dX10_lays_24 : decode cX10_lays 24 = .ok (.aload_n 0, 1) := by decide +kernel
theorem dX10_lays_25 : decode cX10_lays 25 = .ok (.iload_n 1, 1) := by decide +kernel
theorem dX10_lays_26 : decode cX10_lays 26 = .ok (.iload_n 2, 1) := by decide +kernel
theorem dX10_lays_27 : decode cX10_lays 27 = .ok (.invokevirtual 244, 3) := by decide +kernel
theorem dX10_lays_30 : decode cX10_lays 30 = .ok (.iastore, 1) := by decide +kernel
theorem dX10_lays_31 : decode cX10_lays 31 = .ok (.iconst 0, 1) := by decide +kernel
theorem dX10_lays_32 : decode cX10_lays 32 = .ok (.istore_n 3, 1) := by decide +kernel
theorem dX10_lays_33 : decode cX10_lays 33 = .ok (.iload_n 3, 1) := by decide +kernel
theorem dX10_lays_34 : decode cX10_lays 34 = .ok (.aload_n 0, 1) := by decide +kernel
theorem dX10_lays_35 : decode cX10_lays 35 = .ok (.getfield 256, 3) := by decide +kernel
theorem dX10_lays_38 : decode cX10_lays 38 = .ok (.if_icmp .ge 27, 3) := by decide +kernel
theorem dX10_lays_41 : decode cX10_lays 41 = .ok (.aload_n 0, 1) := by decide +kernel
theorem dX10_lays_42 : decode cX10_lays 42 = .ok (.getfield 36, 3) := by decide +kernel
theorem dX10_lays_45 : decode cX10_lays 45 = .ok (.bipush 7, 2) := by decide +kernel
theorem dX10_lays_47 : decode cX10_lays 47 = .ok (.iload_n 2, 1) := by decide +kernel
theorem dX10_lays_48 : decode cX10_lays 48 = .ok (.imul, 1) := by decide +kernel
theorem dX10_lays_49 : decode cX10_lays 49 = .ok (.iload_n 3, 1) := by decide +kernel
theorem dX10_lays_50 : decode cX10_lays 50 = .ok (.iadd, 1) := by decide +kernel
theorem dX10_lays_51 : decode cX10_lays 51 = .ok (.aload_n 0, 1) := by decide +kernel
theorem dX10_lays_52 : decode cX10_lays 52 = .ok (.iload_n 1, 1) := by decide +kernel
theorem dX10_lays_53 : decode cX10_lays 53 = .ok (.iload_n 2, 1) := by decide +kernel
theorem dX10_lays_54 : decode cX10_lays 54 = .ok (.iload_n 3, 1) := by decide +kernel
theorem dX10_lays_55 : decode cX10_lays 55 = .ok (.invokevirtual 234, 3) := by decide +kernel
theorem dX10_lays_58 : decode cX10_lays 58 = .ok (.iastore, 1) := by decide +kernel
theorem dX10_lays_59 : decode cX10_lays 59 = .ok (.iinc 3 1, 3) := by decide +kernel
theorem dX10_lays_62 : decode cX10_lays 62 = .ok (.goto (-29), 3) := by decide +kernel
theorem dX10_lays_65 : decode cX10_lays 65 = .ok (.iinc 2 1, 3) := by decide +kernel
theorem dX10_lays_68 : decode cX10_lays 68 = .ok (.goto (-57), 3) := by decide +kernel
theorem dX10_lays_71 : decode cX10_lays 71 = .ok (.return_, 1) := by decide +kernel
theorem dX10_laysCard_0 : decode cX10_laysCard 0 = .ok (.aload_n 0, 1) := by decide +kernel
theorem dX10_laysCard_1 : decode cX10_laysCard 1 = .ok (.iload_n 1, 1) := by decide +kernel
theorem dX10_laysCard_2 : decode cX10_laysCard 2 = .ok (.invokevirtual 259, 3) := by decide +kernel
theorem dX10_laysCard_5 : decode cX10_laysCard 5 = .ok (.aload_n 0, 1) := by decide +kernel
theorem dX10_laysCard_6 : decode cX10_laysCard 6 = .ok (.dup, 1) := by decide +kernel
theorem dX10_laysCard_7 : decode cX10_laysCard 7 = .ok (.getfield 256, 3) := by decide +kernel
theorem dX10_laysCard_10 : decode cX10_laysCard 10 = .ok (.iconst 1, 1) := by decide +kernel
theorem dX10_laysCard_11 : decode cX10_laysCard 11 = .ok (.isub, 1) := by decide +kernel
theorem dX10_laysCard_12 : decode cX10_laysCard 12 = .ok (.putfield 256, 3) := by decide +kernel
theorem dX10_laysCard_15 : decode cX10_laysCard 15 = .ok (.iconst 0, 1) := by decide +kernel
theorem dX10_laysCard_16 : decode cX10_laysCard 16 = .ok (.istore_n 3, 1) := by decide +kernel
theorem dX10_laysCard_17 : decode cX10_laysCard 17 = .ok (.iload_n 3, 1) := by decide +kernel
theorem dX10_laysCard_18 : decode cX10_laysCard 18 = .ok (.aload_n 0, 1) := by decide +kernel
theorem dX10_laysCard_19 : decode cX10_laysCard 19 = .ok (.getfield 256, 3) := by decide +kernel
theorem dX10_laysCard_22 : decode cX10_laysCard 22 = .ok (.if_icmp .ge 88, 3) := by decide +kernel
theorem dX10_laysCard_25 : decode cX10_laysCard 25 = .ok (.iload_n 3, 1) := by decide +kernel
theorem dX10_laysCard_26 : decode cX10_laysCard 26 = .ok (.iload_n 2, 1) := by decide +kernel
theorem dX10_laysCard_27 : decode cX10_laysCard 27 = .ok (.if_icmp .ge 7, 3) := by decide +kernel
theorem dX10_laysCard_30 : decode cX10_laysCard 30 = .ok (.iload_n 3, 1) := by decide +kernel
theorem dX10_laysCard_31 : decode cX10_laysCard 31 = .ok (.goto 6, 3) := by decide +kernel
theorem dX10_laysCard_34 : decode cX10_laysCard 34 = .ok (.iload_n 3, 1) := by decide +kernel
theorem dX10_laysCard_35 : decode cX10_laysCard 35 = .ok (.iconst 1, 1) := by decide +kernel
theorem dX10_laysCard_36 : decode cX10_laysCard 36 = .ok (.iadd, 1) := by decide +kernel
theorem dX10_laysCard_37 : decode cX10_laysCard 37 = .ok (.istore 4, 2) := by decide +kernel
theorem dX10_laysCard_39 : decode cX10_laysCard 39 = .ok (.aload_n 0, 1) := by decide +kernel
theorem dX10_laysCard_40 : decode cX10_laysCard 40 = .ok (.getfield 33, 3) := by decide +kernel
theorem dX10_laysCard_43 : decode cX10_laysCard 43 = .ok (.iload_n 3, 1) := by decide +kernel
theorem dX10_laysCard_44 : decode cX10_laysCard 44 = .ok (.aload_n 0, 1) := by decide +kernel
theorem dX10_laysCard_45 : decode cX10_laysCard 45 = .ok (.iload_n 1, 1) := by decide +kernel
theorem dX10_laysCard_46 : decode cX10_laysCard 46 = .ok (.iload 4, 2) := by decide +kernel
theorem dX10_laysCard_48 : decode cX10_laysCard 48 = .ok (.invokevirtual 244, 3) := by decide +kernel
theorem dX10_laysCard_51 : decode cX10_laysCard 51 = .ok (.iastore, 1) := by decide +kernel
theorem dX10_laysCard_52 : decode cX10_laysCard 52 = .ok (.iconst 0, 1) := by decide +kernel
theorem dX10_laysCard_53 : decode cX10_laysCard 53 = .ok (.istore 5, 2) := by decide +kernel
theorem dX10_laysCard_55 : decode cX10_laysCard 55 = .ok (.iload 5, 2) := by decide +kernel
theorem dX10_laysCard_57 : decode cX10_laysCard 57 = .ok (.aload_n 0, 1) := by decide +kernel
theorem dX10_laysCard_58 : decode cX10_laysCard 58 = .ok (.getfield 256, 3) := by decide +kernel
theorem dX10_laysCard_61 : decode cX10_laysCard 61 = .ok (.if_icmp .ge 43, 3) := by decide +kernel
theorem dX10_laysCard_64 : decode cX10_laysCard 64 = .ok (.aload_n 0, 1) := by decide +kernel
theorem dX10_laysCard_65 : decode cX10_laysCard 65 = .ok (.getfield 36, 3) := by decide +kernel
theorem dX10_laysCard_68 : decode cX10_laysCard 68 = .ok (.bipush 7, 2) := by decide +kernel
theorem dX10_laysCard_70 : decode cX10_laysCard 70 = .ok (.iload_n 3, 1) := by decide +kernel
theorem dX10_laysCard_71 : decode cX10_laysCard 71 = .ok (.imul, 1) := by decide +kernel
theorem dX10_laysCard_72 : decode cX10_laysCard 72 = .ok (.iload 5, 2) := by decide +kernel
theorem dX10_laysCard_74 : decode cX10_laysCard 74 = .ok (.iadd, 1) := by decide +kernel
theorem dX10_laysCard_75 : decode cX10_laysCard 75 = .ok (.aload_n 0, 1) := by decide +kernel
theorem dX10_laysCard_76 : decode cX10_laysCard 76 = .ok (.iload_n 1, 1) := by decide +kernel
theorem dX10_laysCard_77 : decode cX10_laysCard 77 = .ok (.iload 4, 2) := by decide +kernel
theorem dX10_laysCard_79 : decode cX10_laysCard 79 = .ok (.iload 5, 2) := by decide +kernel
theorem dX10_laysCard_81 : decode cX10_laysCard 81 = .ok (.iload_n 2, 1) := by decide +kernel
theorem dX10_laysCard_82 : decode cX10_laysCard 82 = .ok (.if_icmp .ge 8, 3) := by decide +kernel
theorem dX10_laysCard_85 : decode cX10_laysCard 85 = .ok (.iload 5, 2) := by decide +kernel
theorem dX10_laysCard_87 : decode cX10_laysCard 87 = .ok (.goto 7, 3) := by decide +kernel
theorem dX10_laysCard_90 : decode cX10_laysCard 90 = .ok (.iload 5, 2) := by decide +kernel
theorem dX10_laysCard_92 : decode cX10_laysCard 92 = .ok (.iconst 1, 1) := by decide +kernel
theorem dX10_laysCard_93 : decode cX10_laysCard 93 = .ok (.iadd, 1) := by decide +kernel
theorem dX10_laysCard_94 : decode cX10_laysCard 94 = .ok (.invokevirtual 234, 3) := by decide +kernel
theorem dX10_laysCard_97 : decode cX10_laysCard 97 = .ok (.iastore, 1) := by decide +kernel
theorem dX10_laysCard_98 : decode cX10_laysCard 98 = .ok (.iinc 5 1, 3) := by decide +kernel
theorem dX10_laysCard_101 : decode cX10_laysCard 101 = .ok (.goto (-46), 3) := by decide +kernel
theorem dX10_laysCard_104 : decode cX10_laysCard 104 = .ok (.iinc 3 1, 3) := by decide +kernel
theorem dX10_laysCard_107 : decode cX10_laysCard 107 = .ok (.goto (-90), 3) := by decide +kernel
theorem dX10_laysCard_110 : decode cX10_laysCard 110 = .ok (.return_, 1) := by decide +kernel
theorem dX10_laysTurned_0 : decode cX10_laysTurned 0 = .ok (.aload_n 0, 1) := by decide +kernel
theorem dX10_laysTurned_1 : decode cX10_laysTurned 1 = .ok (.iload_n 1, 1) := by decide +kernel
theorem dX10_laysTurned_2 : decode cX10_laysTurned 2 = .ok (.invokevirtual 259, 3) := by decide +kernel
theorem dX10_laysTurned_5 : decode cX10_laysTurned 5 = .ok (.iconst 0, 1) := by decide +kernel
theorem dX10_laysTurned_6 : decode cX10_laysTurned 6 = .ok (.istore_n 2, 1) := by decide +kernel
theorem dX10_laysTurned_7 : decode cX10_laysTurned 7 = .ok (.iload_n 2, 1) := by decide +kernel
theorem dX10_laysTurned_8 : decode cX10_laysTurned 8 = .ok (.aload_n 0, 1) := by decide +kernel
theorem dX10_laysTurned_9 : decode cX10_laysTurned 9 = .ok (.getfield 256, 3) := by decide +kernel
theorem dX10_laysTurned_12 : decode cX10_laysTurned 12 = .ok (.if_icmp .ge 58, 3) := by decide +kernel
theorem dX10_laysTurned_15 : decode cX10_laysTurned 15 = .ok (.iconst 0, 1) := by decide +kernel
theorem dX10_laysTurned_16 : decode cX10_laysTurned 16 = .ok (.istore_n 3, 1) := by decide +kernel
theorem dX10_laysTurned_17 : decode cX10_laysTurned 17 = .ok (.iload_n 3, 1) := by decide +kernel
theorem dX10_laysTurned_18 : decode cX10_laysTurned 18 = .ok (.aload_n 0, 1) := by decide +kernel
theorem dX10_laysTurned_19 : decode cX10_laysTurned 19 = .ok (.getfield 256, 3) := by decide +kernel
theorem dX10_laysTurned_22 : decode cX10_laysTurned 22 = .ok (.if_icmp .ge 42, 3) := by decide +kernel
theorem dX10_laysTurned_25 : decode cX10_laysTurned 25 = .ok (.aload_n 0, 1) := by decide +kernel
theorem dX10_laysTurned_26 : decode cX10_laysTurned 26 = .ok (.getfield 36, 3) := by decide +kernel
theorem dX10_laysTurned_29 : decode cX10_laysTurned 29 = .ok (.bipush 7, 2) := by decide +kernel
theorem dX10_laysTurned_31 : decode cX10_laysTurned 31 = .ok (.iload_n 2, 1) := by decide +kernel
theorem dX10_laysTurned_32 : decode cX10_laysTurned 32 = .ok (.imul, 1) := by decide +kernel
theorem dX10_laysTurned_33 : decode cX10_laysTurned 33 = .ok (.iload_n 3, 1) := by decide +kernel
theorem dX10_laysTurned_34 : decode cX10_laysTurned 34 = .ok (.iadd, 1) := by decide +kernel
theorem dX10_laysTurned_35 : decode cX10_laysTurned 35 = .ok (.iload_n 2, 1) := by decide +kernel
theorem dX10_laysTurned_36 : decode cX10_laysTurned 36 = .ok (.iload_n 3, 1) := by decide +kernel
theorem dX10_laysTurned_37 : decode cX10_laysTurned 37 = .ok (.if_icmp .ne 7, 3) := by decide +kernel
theorem dX10_laysTurned_40 : decode cX10_laysTurned 40 = .ok (.iconst 0, 1) := by decide +kernel
theorem dX10_laysTurned_41 : decode cX10_laysTurned 41 = .ok (.goto 16, 3) := by decide +kernel
theorem dX10_laysTurned_44 : decode cX10_laysTurned 44 = .ok (.aload_n 0, 1) := by decide +kernel
theorem dX10_laysTurned_45 : decode cX10_laysTurned 45 = .ok (.getfield 36, 3) := by decide +kernel
theorem dX10_laysTurned_48 : decode cX10_laysTurned 48 = .ok (.bipush 7, 2) := by decide +kernel
theorem dX10_laysTurned_50 : decode cX10_laysTurned 50 = .ok (.iload_n 2, 1) := by decide +kernel
theorem dX10_laysTurned_51 : decode cX10_laysTurned 51 = .ok (.imul, 1) := by decide +kernel
theorem dX10_laysTurned_52 : decode cX10_laysTurned 52 = .ok (.iload_n 3, 1) := by decide +kernel
theorem dX10_laysTurned_53 : decode cX10_laysTurned 53 = .ok (.iadd, 1) := by decide +kernel
theorem dX10_laysTurned_54 : decode cX10_laysTurned 54 = .ok (.iaload, 1) := by decide +kernel
theorem dX10_laysTurned_55 : decode cX10_laysTurned 55 = .ok (.iconst 1, 1) := by decide +kernel
theorem dX10_laysTurned_56 : decode cX10_laysTurned 56 = .ok (.ixor, 1) := by decide +kernel
theorem dX10_laysTurned_57 : decode cX10_laysTurned 57 = .ok (.iastore, 1) := by decide +kernel
theorem dX10_laysTurned_58 : decode cX10_laysTurned 58 = .ok (.iinc 3 1, 3) := by decide +kernel
theorem dX10_laysTurned_61 : decode cX10_laysTurned 61 = .ok (.goto (-44), 3) := by decide +kernel
theorem dX10_laysTurned_64 : decode cX10_laysTurned 64 = .ok (.iinc 2 1, 3) := by decide +kernel
theorem dX10_laysTurned_67 : decode cX10_laysTurned 67 = .ok (.goto (-60), 3) := by decide +kernel
theorem dX10_laysTurned_70 : decode cX10_laysTurned 70 = .ok (.return_, 1) := by decide +kernel
theorem dX10_laysSigns_0 : decode cX10_laysSigns 0 = .ok (.iconst 0, 1) := by decide +kernel
theorem dX10_laysSigns_1 : decode cX10_laysSigns 1 = .ok (.istore_n 1, 1) := by decide +kernel
theorem dX10_laysSigns_2 : decode cX10_laysSigns 2 = .ok (.iload_n 1, 1) := by decide +kernel
theorem dX10_laysSigns_3 : decode cX10_laysSigns 3 = .ok (.aload_n 0, 1) := by decide +kernel
theorem dX10_laysSigns_4 : decode cX10_laysSigns 4 = .ok (.getfield 256, 3) := by decide +kernel
theorem dX10_laysSigns_7 : decode cX10_laysSigns 7 = .ok (.if_icmp .ge 106, 3) := by decide +kernel
theorem dX10_laysSigns_10 : decode cX10_laysSigns 10 = .ok (.iconst 0, 1) := by decide +kernel
theorem dX10_laysSigns_11 : decode cX10_laysSigns 11 = .ok (.istore_n 2, 1) := by decide +kernel
theorem dX10_laysSigns_12 : decode cX10_laysSigns 12 = .ok (.iload_n 2, 1) := by decide +kernel
theorem dX10_laysSigns_13 : decode cX10_laysSigns 13 = .ok (.bipush 22, 2) := by decide +kernel
theorem dX10_laysSigns_15 : decode cX10_laysSigns 15 = .ok (.if_icmp .ge 21, 3) := by decide +kernel
theorem dX10_laysSigns_18 : decode cX10_laysSigns 18 = .ok (.aload_n 0, 1) := by decide +kernel
theorem dX10_laysSigns_19 : decode cX10_laysSigns 19 = .ok (.getfield 42, 3) := by decide +kernel
theorem dX10_laysSigns_22 : decode cX10_laysSigns 22 = .ok (.bipush 22, 2) := by decide +kernel
theorem dX10_laysSigns_24 : decode cX10_laysSigns 24 = .ok (.iload_n 1, 1) := by decide +kernel
theorem dX10_laysSigns_25 : decode cX10_laysSigns 25 = .ok (.imul, 1) := by decide +kernel
theorem dX10_laysSigns_26 : decode cX10_laysSigns 26 = .ok (.iload_n 2, 1) := by decide +kernel
theorem dX10_laysSigns_27 : decode cX10_laysSigns 27 = .ok (.iadd, 1) := by decide +kernel
theorem dX10_laysSigns_28 : decode cX10_laysSigns 28 = .ok (.iconst 0, 1) := by decide +kernel
theorem dX10_laysSigns_29 : decode cX10_laysSigns 29 = .ok (.iastore, 1) := by decide +kernel
theorem dX10_laysSigns_30 : decode cX10_laysSigns 30 = .ok (.iinc 2 1, 3) := by decide +kernel
theorem dX10_laysSigns_33 : decode cX10_laysSigns 33 = .ok (.goto (-21), 3) := by decide +kernel
theorem dX10_laysSigns_36 : decode cX10_laysSigns 36 = .ok (.aload_n 0, 1) := by decide +kernel
theorem dX10_laysSigns_37 : decode cX10_laysSigns 37 = .ok (.getfield 42, 3) := by decide +kernel
theorem dX10_laysSigns_40 : decode cX10_laysSigns 40 = .ok (.bipush 22, 2) := by decide +kernel
theorem dX10_laysSigns_42 : decode cX10_laysSigns 42 = .ok (.iload_n 1, 1) := by decide +kernel
theorem dX10_laysSigns_43 : decode cX10_laysSigns 43 = .ok (.imul, 1) := by decide +kernel
theorem dX10_laysSigns_44 : decode cX10_laysSigns 44 = .ok (.aload_n 0, 1) := by decide +kernel
theorem dX10_laysSigns_45 : decode cX10_laysSigns 45 = .ok (.getfield 39, 3) := by decide +kernel
theorem dX10_laysSigns_48 : decode cX10_laysSigns 48 = .ok (.iload_n 1, 1) := by decide +kernel
theorem dX10_laysSigns_49 : decode cX10_laysSigns 49 = .ok (.iaload, 1) := by decide +kernel
theorem dX10_laysSigns_50 : decode cX10_laysSigns 50 = .ok (.iastore, 1) := by decide +kernel
theorem dX10_laysSigns_51 : decode cX10_laysSigns 51 = .ok (.iconst 0, 1) := by decide +kernel
theorem dX10_laysSigns_52 : decode cX10_laysSigns 52 = .ok (.istore_n 2, 1) := by decide +kernel
theorem dX10_laysSigns_53 : decode cX10_laysSigns 53 = .ok (.iload_n 2, 1) := by decide +kernel
theorem dX10_laysSigns_54 : decode cX10_laysSigns 54 = .ok (.aload_n 0, 1) := by decide +kernel
theorem dX10_laysSigns_55 : decode cX10_laysSigns 55 = .ok (.getfield 256, 3) := by decide +kernel
theorem dX10_laysSigns_58 : decode cX10_laysSigns 58 = .ok (.if_icmp .ge 49, 3) := by decide +kernel
theorem dX10_laysSigns_61 : decode cX10_laysSigns 61 = .ok (.aload_n 0, 1) := by decide +kernel
theorem dX10_laysSigns_62 : decode cX10_laysSigns 62 = .ok (.getfield 36, 3) := by decide +kernel
theorem dX10_laysSigns_65 : decode cX10_laysSigns 65 = .ok (.bipush 7, 2) := by decide +kernel
theorem dX10_laysSigns_67 : decode cX10_laysSigns 67 = .ok (.iload_n 1, 1) := by decide +kernel
theorem dX10_laysSigns_68 : decode cX10_laysSigns 68 = .ok (.imul, 1) := by decide +kernel
theorem dX10_laysSigns_69 : decode cX10_laysSigns 69 = .ok (.iload_n 2, 1) := by decide +kernel
theorem dX10_laysSigns_70 : decode cX10_laysSigns 70 = .ok (.iadd, 1) := by decide +kernel
theorem dX10_laysSigns_71 : decode cX10_laysSigns 71 = .ok (.iaload, 1) := by decide +kernel
theorem dX10_laysSigns_72 : decode cX10_laysSigns 72 = .ok (.istore_n 3, 1) := by decide +kernel
theorem dX10_laysSigns_73 : decode cX10_laysSigns 73 = .ok (.iload_n 3, 1) := by decide +kernel
theorem dX10_laysSigns_74 : decode cX10_laysSigns 74 = .ok (.ifCond .le 27, 3) := by decide +kernel
theorem dX10_laysSigns_77 : decode cX10_laysSigns 77 = .ok (.aload_n 0, 1) := by decide +kernel
theorem dX10_laysSigns_78 : decode cX10_laysSigns 78 = .ok (.getfield 42, 3) := by decide +kernel
theorem dX10_laysSigns_81 : decode cX10_laysSigns 81 = .ok (.bipush 22, 2) := by decide +kernel
theorem dX10_laysSigns_83 : decode cX10_laysSigns 83 = .ok (.iload_n 1, 1) := by decide +kernel
theorem dX10_laysSigns_84 : decode cX10_laysSigns 84 = .ok (.imul, 1) := by decide +kernel
theorem dX10_laysSigns_85 : decode cX10_laysSigns 85 = .ok (.iconst 3, 1) := by decide +kernel
theorem dX10_laysSigns_86 : decode cX10_laysSigns 86 = .ok (.aload_n 0, 1) := by decide +kernel
theorem dX10_laysSigns_87 : decode cX10_laysSigns 87 = .ok (.getfield 39, 3) := by decide +kernel
theorem dX10_laysSigns_90 : decode cX10_laysSigns 90 = .ok (.iload_n 2, 1) := by decide +kernel
theorem dX10_laysSigns_91 : decode cX10_laysSigns 91 = .ok (.iaload, 1) := by decide +kernel
theorem dX10_laysSigns_92 : decode cX10_laysSigns 92 = .ok (.imul, 1) := by decide +kernel
theorem dX10_laysSigns_93 : decode cX10_laysSigns 93 = .ok (.iadd, 1) := by decide +kernel
theorem dX10_laysSigns_94 : decode cX10_laysSigns 94 = .ok (.iload_n 3, 1) := by decide +kernel
theorem dX10_laysSigns_95 : decode cX10_laysSigns 95 = .ok (.iadd, 1) := by decide +kernel
theorem dX10_laysSigns_96 : decode cX10_laysSigns 96 = .ok (.dup2, 1) := by decide +kernel
theorem dX10_laysSigns_97 : decode cX10_laysSigns 97 = .ok (.iaload, 1) := by decide +kernel
theorem dX10_laysSigns_98 : decode cX10_laysSigns 98 = .ok (.iconst 1, 1) := by decide +kernel
theorem dX10_laysSigns_99 : decode cX10_laysSigns 99 = .ok (.iadd, 1) := by decide +kernel
theorem dX10_laysSigns_100 : decode cX10_laysSigns 100 = .ok (.iastore, 1) := by decide +kernel
theorem dX10_laysSigns_101 : decode cX10_laysSigns 101 = .ok (.iinc 2 1, 3) := by decide +kernel
theorem dX10_laysSigns_104 : decode cX10_laysSigns 104 = .ok (.goto (-51), 3) := by decide +kernel
theorem dX10_laysSigns_107 : decode cX10_laysSigns 107 = .ok (.iinc 1 1, 3) := by decide +kernel
theorem dX10_laysSigns_110 : decode cX10_laysSigns 110 = .ok (.goto (-108), 3) := by decide +kernel
theorem dX10_laysSigns_113 : decode cX10_laysSigns 113 = .ok (.return_, 1) := by decide +kernel
theorem dX10_compares_0 : decode cX10_compares 0 = .ok (.iconst 0, 1) := by decide +kernel
theorem dX10_compares_1 : decode cX10_compares 1 = .ok (.istore 5, 2) := by decide +kernel
theorem dX10_compares_3 : decode cX10_compares 3 = .ok (.iload 5, 2) := by decide +kernel
theorem dX10_compares_5 : decode cX10_compares 5 = .ok (.iload 4, 2) := by decide +kernel
theorem dX10_compares_7 : decode cX10_compares 7 = .ok (.if_icmp .ge 45, 3) := by decide +kernel
theorem dX10_compares_10 : decode cX10_compares 10 = .ok (.aload_n 0, 1) := by decide +kernel
theorem dX10_compares_11 : decode cX10_compares 11 = .ok (.iload_n 1, 1) := by decide +kernel
theorem dX10_compares_12 : decode cX10_compares 12 = .ok (.iload 5, 2) := by decide +kernel
theorem dX10_compares_14 : decode cX10_compares 14 = .ok (.iadd, 1) := by decide +kernel
theorem dX10_compares_15 : decode cX10_compares 15 = .ok (.iaload, 1) := by decide +kernel
theorem dX10_compares_16 : decode cX10_compares 16 = .ok (.aload_n 2, 1) := by decide +kernel
theorem dX10_compares_17 : decode cX10_compares 17 = .ok (.iload_n 3, 1) := by decide +kernel
theorem dX10_compares_18 : decode cX10_compares 18 = .ok (.iload 5, 2) := by decide +kernel
theorem dX10_compares_20 : decode cX10_compares 20 = .ok (.iadd, 1) := by decide +kernel
theorem dX10_compares_21 : decode cX10_compares 21 = .ok (.iaload, 1) := by decide +kernel
theorem dX10_compares_22 : decode cX10_compares 22 = .ok (.if_icmp .eq 24, 3) := by decide +kernel
theorem dX10_compares_25 : decode cX10_compares 25 = .ok (.aload_n 0, 1) := by decide +kernel
theorem dX10_compares_26 : decode cX10_compares 26 = .ok (.iload_n 1, 1) := by decide +kernel
theorem dX10_compares_27 : decode cX10_compares 27 = .ok (.iload 5, 2) := by decide +kernel
theorem dX10_compares_29 : decode cX10_compares 29 = .ok (.iadd, 1) := by decide +kernel
theorem dX10_compares_30 : decode cX10_compares 30 = .ok (.iaload, 1) := by decide +kernel
theorem dX10_compares_31 : decode cX10_compares 31 = .ok (.aload_n 2, 1) := by decide +kernel
theorem dX10_compares_32 : decode cX10_compares 32 = .ok (.iload_n 3, 1) := by decide +kernel
theorem dX10_compares_33 : decode cX10_compares 33 = .ok (.iload 5, 2) := by decide +kernel
theorem dX10_compares_35 : decode cX10_compares 35 = .ok (.iadd, 1) := by decide +kernel
theorem dX10_compares_36 : decode cX10_compares 36 = .ok (.iaload, 1) := by decide +kernel
theorem dX10_compares_37 : decode cX10_compares 37 = .ok (.if_icmp .ge 7, 3) := by decide +kernel
theorem dX10_compares_40 : decode cX10_compares 40 = .ok (.iconst (-1), 1) := by decide +kernel
theorem dX10_compares_41 : decode cX10_compares 41 = .ok (.goto 4, 3) := by decide +kernel
theorem dX10_compares_44 : decode cX10_compares 44 = .ok (.iconst 1, 1) := by decide +kernel
theorem dX10_compares_45 : decode cX10_compares 45 = .ok (.ireturn, 1) := by decide +kernel
theorem dX10_compares_46 : decode cX10_compares 46 = .ok (.iinc 5 1, 3) := by decide +kernel
theorem dX10_compares_49 : decode cX10_compares 49 = .ok (.goto (-46), 3) := by decide +kernel
theorem dX10_compares_52 : decode cX10_compares 52 = .ok (.iconst 0, 1) := by decide +kernel
theorem dX10_compares_53 : decode cX10_compares 53 = .ok (.ireturn, 1) := by decide +kernel
theorem dX10_rankOf_0 : decode cX10_rankOf 0 = .ok (.iconst 0, 1) := by decide +kernel
theorem dX10_rankOf_1 : decode cX10_rankOf 1 = .ok (.istore_n 2, 1) := by decide +kernel
theorem dX10_rankOf_2 : decode cX10_rankOf 2 = .ok (.iconst 0, 1) := by decide +kernel
theorem dX10_rankOf_3 : decode cX10_rankOf 3 = .ok (.istore_n 3, 1) := by decide +kernel
theorem dX10_rankOf_4 : decode cX10_rankOf 4 = .ok (.iload_n 3, 1) := by decide +kernel
theorem dX10_rankOf_5 : decode cX10_rankOf 5 = .ok (.aload_n 0, 1) := by decide +kernel
theorem dX10_rankOf_6 : decode cX10_rankOf 6 = .ok (.getfield 256, 3) := by decide +kernel
theorem dX10_rankOf_9 : decode cX10_rankOf 9 = .ok (.if_icmp .ge 101, 3) := by decide +kernel
theorem dX10_rankOf_12 : decode cX10_rankOf 12 = .ok (.iconst 1, 1) := by decide +kernel
theorem dX10_rankOf_13 : decode cX10_rankOf 13 = .ok (.istore 4, 2) := by decide +kernel
theorem dX10_rankOf_15 : decode cX10_rankOf 15 = .ok (.iconst 0, 1) := by decide +kernel
theorem dX10_rankOf_16 : decode cX10_rankOf 16 = .ok (.istore 5, 2) := by decide +kernel
theorem dX10_rankOf_18 : decode cX10_rankOf 18 = .ok (.iload 5, 2) := by decide +kernel
theorem dX10_rankOf_20 : decode cX10_rankOf 20 = .ok (.iload_n 3, 1) := by decide +kernel
theorem dX10_rankOf_21 : decode cX10_rankOf 21 = .ok (.if_icmp .ge 46, 3) := by decide +kernel
theorem dX10_rankOf_24 : decode cX10_rankOf 24 = .ok (.iload 4, 2) := by decide +kernel
theorem dX10_rankOf_26 : decode cX10_rankOf 26 = .ok (.ifCond .eq 32, 3) := by decide +kernel
theorem dX10_rankOf_29 : decode cX10_rankOf 29 = .ok (.aload_n 0, 1) := by decide +kernel
theorem dX10_rankOf_30 : decode cX10_rankOf 30 = .ok (.getfield 42, 3) := by decide +kernel
theorem dX10_rankOf_33 : decode cX10_rankOf 33 = .ok (.bipush 22, 2) := by decide +kernel
theorem dX10_rankOf_35 : decode cX10_rankOf 35 = .ok (.iload 5, 2) := by decide +kernel
theorem dX10_rankOf_37 : decode cX10_rankOf 37 = .ok (.imul, 1) := by decide +kernel
theorem dX10_rankOf_38 : decode cX10_rankOf 38 = .ok (.aload_n 0, 1) := by decide +kernel
theorem dX10_rankOf_39 : decode cX10_rankOf 39 = .ok (.getfield 42, 3) := by decide +kernel
theorem dX10_rankOf_42 : decode cX10_rankOf 42 = .ok (.bipush 22, 2) := by decide +kernel
theorem dX10_rankOf_44 : decode cX10_rankOf 44 = .ok (.iload_n 3, 1) := by decide +kernel
theorem dX10_rankOf_45 : decode cX10_rankOf 45 = .ok (.imul, 1) := by decide +kernel
theorem dX10_rankOf_46 : decode cX10_rankOf 46 = .ok (.bipush 22, 2) := by decide +kernel
theorem dX10_rankOf_48 : decode cX10_rankOf 48 = .ok (.invokestatic 262, 3) := by decide +kernel
theorem dX10_rankOf_51 : decode cX10_rankOf 51 = .ok (.ifCond .eq 7, 3) := by decide +kernel
theorem dX10_rankOf_54 : decode cX10_rankOf 54 = .ok (.iconst 1, 1) := by decide +kernel
theorem dX10_rankOf_55 : decode cX10_rankOf 55 = .ok (.goto 4, 3) := by decide +kernel
theorem dX10_rankOf_58 : decode cX10_rankOf 58 = .ok (.iconst 0, 1) := by decide +kernel
theorem dX10_rankOf_59 : decode cX10_rankOf 59 = .ok (.istore 4, 2) := by decide +kernel
theorem dX10_rankOf_61 : decode cX10_rankOf 61 = .ok (.iinc 5 1, 3) := by decide +kernel
theorem dX10_rankOf_64 : decode cX10_rankOf 64 = .ok (.goto (-46), 3) := by decide +kernel
theorem dX10_rankOf_67 : decode cX10_rankOf 67 = .ok (.iload_n 2, 1) := by decide +kernel
theorem dX10_rankOf_68 : decode cX10_rankOf 68 = .ok (.iload 4, 2) := by decide +kernel
theorem dX10_rankOf_70 : decode cX10_rankOf 70 = .ok (.ifCond .eq 31, 3) := by decide +kernel
theorem dX10_rankOf_73 : decode cX10_rankOf 73 = .ok (.aload_n 0, 1) := by decide +kernel
theorem dX10_rankOf_74 : decode cX10_rankOf 74 = .ok (.getfield 42, 3) := by decide +kernel
theorem dX10_rankOf_77 : decode cX10_rankOf 77 = .ok (.bipush 22, 2) := by decide +kernel
theorem dX10_rankOf_79 : decode cX10_rankOf 79 = .ok (.iload_n 3, 1) := by decide +kernel
theorem dX10_rankOf_80 : decode cX10_rankOf 80 = .ok (.imul, 1) := by decide +kernel
theorem dX10_rankOf_81 : decode cX10_rankOf 81 = .ok (.aload_n 0, 1) := by decide +kernel
theorem dX10_rankOf_82 : decode cX10_rankOf 82 = .ok (.getfield 42, 3) := by decide +kernel
theorem dX10_rankOf_85 : decode cX10_rankOf 85 = .ok (.bipush 22, 2) := by decide +kernel
theorem dX10_rankOf_87 : decode cX10_rankOf 87 = .ok (.iload_n 1, 1) := by decide +kernel
theorem dX10_rankOf_88 : decode cX10_rankOf 88 = .ok (.imul, 1) := by decide +kernel
theorem dX10_rankOf_89 : decode cX10_rankOf 89 = .ok (.bipush 22, 2) := by decide +kernel
theorem dX10_rankOf_91 : decode cX10_rankOf 91 = .ok (.invokestatic 262, 3) := by decide +kernel
theorem dX10_rankOf_94 : decode cX10_rankOf 94 = .ok (.ifCond .ge 7, 3) := by decide +kernel
theorem dX10_rankOf_97 : decode cX10_rankOf 97 = .ok (.iconst 1, 1) := by decide +kernel
theorem dX10_rankOf_98 : decode cX10_rankOf 98 = .ok (.goto 4, 3) := by decide +kernel
theorem dX10_rankOf_101 : decode cX10_rankOf 101 = .ok (.iconst 0, 1) := by decide +kernel
theorem dX10_rankOf_102 : decode cX10_rankOf 102 = .ok (.iadd, 1) := by decide +kernel
theorem dX10_rankOf_103 : decode cX10_rankOf 103 = .ok (.istore_n 2, 1) := by decide +kernel
theorem dX10_rankOf_104 : decode cX10_rankOf 104 = .ok (.iinc 3 1, 3) := by decide +kernel
theorem dX10_rankOf_107 : decode cX10_rankOf 107 = .ok (.goto (-103), 3) := by decide +kernel
theorem dX10_rankOf_110 : decode cX10_rankOf 110 = .ok (.iload_n 2, 1) := by decide +kernel
theorem dX10_rankOf_111 : decode cX10_rankOf 111 = .ok (.ireturn, 1) := by decide +kernel
theorem dX10_goesRound_0 : decode cX10_goesRound 0 = .ok (.aload_n 0, 1) := by decide +kernel
theorem dX10_goesRound_1 : decode cX10_goesRound 1 = .ok (.invokevirtual 266, 3) := by decide +kernel
theorem dX10_goesRound_4 : decode cX10_goesRound 4 = .ok (.iconst 0, 1) := by decide +kernel
theorem dX10_goesRound_5 : decode cX10_goesRound 5 = .ok (.istore_n 1, 1) := by decide +kernel
theorem dX10_goesRound_6 : decode cX10_goesRound 6 = .ok (.iconst 0, 1) := by decide +kernel
theorem dX10_goesRound_7 : decode cX10_goesRound 7 = .ok (.istore_n 2, 1) := by decide +kernel
theorem dX10_goesRound_8 : decode cX10_goesRound 8 = .ok (.iload_n 2, 1) := by decide +kernel
theorem dX10_goesRound_9 : decode cX10_goesRound 9 = .ok (.aload_n 0, 1) := by decide +kernel
theorem dX10_goesRound_10 : decode cX10_goesRound 10 = .ok (.getfield 256, 3) := by decide +kernel
theorem dX10_goesRound_13 : decode cX10_goesRound 13 = .ok (.if_icmp .ge 41, 3) := by decide +kernel
theorem dX10_goesRound_16 : decode cX10_goesRound 16 = .ok (.aload_n 0, 1) := by decide +kernel
theorem dX10_goesRound_17 : decode cX10_goesRound 17 = .ok (.getfield 45, 3) := by decide +kernel
theorem dX10_goesRound_20 : decode cX10_goesRound 20 = .ok (.iload_n 2, 1) := by decide +kernel
theorem dX10_goesRound_21 : decode cX10_goesRound 21 = .ok (.aload_n 0, 1) := by decide +kernel
theorem dX10_goesRound_22 : decode cX10_goesRound 22 = .ok (.iload_n 2, 1) := by decide +kernel
theorem dX10_goesRound_23 : decode cX10_goesRound 23 = .ok (.invokevirtual 269, 3) := by decide +kernel
theorem dX10_goesRound_26 : decode cX10_goesRound 26 = .ok (.iastore, 1) := by decide +kernel
theorem dX10_goesRound_27 : decode cX10_goesRound 27 = .ok (.aload_n 0, 1) := by decide +kernel
theorem dX10_goesRound_28 : decode cX10_goesRound 28 = .ok (.getfield 45, 3) := by decide +kernel
theorem dX10_goesRound_31 : decode cX10_goesRound 31 = .ok (.iload_n 2, 1) := by decide +kernel
theorem dX10_goesRound_32 : decode cX10_goesRound 32 = .ok (.iaload, 1) := by decide +kernel
theorem dX10_goesRound_33 : decode cX10_goesRound 33 = .ok (.iload_n 1, 1) := by decide +kernel
theorem dX10_goesRound_34 : decode cX10_goesRound 34 = .ok (.if_icmp .le 12, 3) := by decide +kernel
theorem dX10_goesRound_37 : decode cX10_goesRound 37 = .ok (.aload_n 0, 1) := by decide +kernel
theorem dX10_goesRound_38 : decode cX10_goesRound 38 = .ok (.getfield 45, 3) := by decide +kernel
theorem dX10_goesRound_41 : decode cX10_goesRound 41 = .ok (.iload_n 2, 1) := by decide +kernel
theorem dX10_goesRound_42 : decode cX10_goesRound 42 = .ok (.iaload, 1) := by decide +kernel
theorem dX10_goesRound_43 : decode cX10_goesRound 43 = .ok (.goto 4, 3) := by decide +kernel
theorem dX10_goesRound_46 : decode cX10_goesRound 46 = .ok (.iload_n 1, 1) := by decide +kernel
theorem dX10_goesRound_47 : decode cX10_goesRound 47 = .ok (.istore_n 1, 1) := by decide +kernel
theorem dX10_goesRound_48 : decode cX10_goesRound 48 = .ok (.iinc 2 1, 3) := by decide +kernel
theorem dX10_goesRound_51 : decode cX10_goesRound 51 = .ok (.goto (-43), 3) := by decide +kernel
theorem dX10_goesRound_54 : decode cX10_goesRound 54 = .ok (.iload_n 1, 1) := by decide +kernel
theorem dX10_goesRound_55 : decode cX10_goesRound 55 = .ok (.iconst 1, 1) := by decide +kernel
theorem dX10_goesRound_56 : decode cX10_goesRound 56 = .ok (.iadd, 1) := by decide +kernel
theorem dX10_goesRound_57 : decode cX10_goesRound 57 = .ok (.aload_n 0, 1) := by decide +kernel
theorem dX10_goesRound_58 : decode cX10_goesRound 58 = .ok (.getfield 272, 3) := by decide +kernel
theorem dX10_goesRound_61 : decode cX10_goesRound 61 = .ok (.if_icmp .le 7, 3) := by decide +kernel
theorem dX10_goesRound_64 : decode cX10_goesRound 64 = .ok (.iconst 1, 1) := by decide +kernel
theorem dX10_goesRound_65 : decode cX10_goesRound 65 = .ok (.goto 4, 3) := by decide +kernel
theorem dX10_goesRound_68 : decode cX10_goesRound 68 = .ok (.iconst 0, 1) := by decide +kernel
theorem dX10_goesRound_69 : decode cX10_goesRound 69 = .ok (.istore_n 2, 1) := by decide +kernel
theorem dX10_goesRound_70 : decode cX10_goesRound 70 = .ok (.iconst 0, 1) := by decide +kernel
theorem dX10_goesRound_71 : decode cX10_goesRound 71 = .ok (.istore_n 3, 1) := by decide +kernel
theorem dX10_goesRound_72 : decode cX10_goesRound 72 = .ok (.iload_n 3, 1) := by decide +kernel
theorem dX10_goesRound_73 : decode cX10_goesRound 73 = .ok (.aload_n 0, 1) := by decide +kernel
theorem dX10_goesRound_74 : decode cX10_goesRound 74 = .ok (.getfield 256, 3) := by decide +kernel
theorem dX10_goesRound_77 : decode cX10_goesRound 77 = .ok (.if_icmp .ge 21, 3) := by decide +kernel
theorem dX10_goesRound_80 : decode cX10_goesRound 80 = .ok (.aload_n 0, 1) := by decide +kernel
theorem dX10_goesRound_81 : decode cX10_goesRound 81 = .ok (.getfield 39, 3) := by decide +kernel
theorem dX10_goesRound_84 : decode cX10_goesRound 84 = .ok (.iload_n 3, 1) := by decide +kernel
theorem dX10_goesRound_85 : decode cX10_goesRound 85 = .ok (.aload_n 0, 1) := by decide +kernel
theorem dX10_goesRound_86 : decode cX10_goesRound 86 = .ok (.getfield 45, 3) := by decide +kernel
theorem dX10_goesRound_89 : decode cX10_goesRound 89 = .ok (.iload_n 3, 1) := by decide +kernel
theorem dX10_goesRound_90 : decode cX10_goesRound 90 = .ok (.iaload, 1) := by decide +kernel
theorem dX10_goesRound_91 : decode cX10_goesRound 91 = .ok (.iastore, 1) := by decide +kernel
theorem dX10_goesRound_92 : decode cX10_goesRound 92 = .ok (.iinc 3 1, 3) := by decide +kernel
theorem dX10_goesRound_95 : decode cX10_goesRound 95 = .ok (.goto (-23), 3) := by decide +kernel
theorem dX10_goesRound_98 : decode cX10_goesRound 98 = .ok (.aload_n 0, 1) := by decide +kernel
theorem dX10_goesRound_99 : decode cX10_goesRound 99 = .ok (.iload_n 1, 1) := by decide +kernel
theorem dX10_goesRound_100 : decode cX10_goesRound 100 = .ok (.iconst 1, 1) := by decide +kernel
theorem dX10_goesRound_101 : decode cX10_goesRound 101 = .ok (.iadd, 1) := by decide +kernel
theorem dX10_goesRound_102 : decode cX10_goesRound 102 = .ok (.putfield 272, 3) := by decide +kernel
theorem dX10_goesRound_105 : decode cX10_goesRound 105 = .ok (.iload_n 2, 1) := by decide +kernel
theorem dX10_goesRound_106 : decode cX10_goesRound 106 = .ok (.ireturn, 1) := by decide +kernel
theorem dX10_refines_0 : decode cX10_refines 0 = .ok (.iconst 0, 1) := by decide +kernel
theorem dX10_refines_1 : decode cX10_refines 1 = .ok (.istore_n 1, 1) := by decide +kernel
theorem dX10_refines_2 : decode cX10_refines 2 = .ok (.aload_n 0, 1) := by decide +kernel
theorem dX10_refines_3 : decode cX10_refines 3 = .ok (.getfield 272, 3) := by decide +kernel
theorem dX10_refines_6 : decode cX10_refines 6 = .ok (.aload_n 0, 1) := by decide +kernel
theorem dX10_refines_7 : decode cX10_refines 7 = .ok (.getfield 256, 3) := by decide +kernel
theorem dX10_refines_10 : decode cX10_refines 10 = .ok (.if_icmp .ge 16, 3) := by decide +kernel
theorem dX10_refines_13 : decode cX10_refines 13 = .ok (.aload_n 0, 1) := by decide +kernel
theorem dX10_refines_14 : decode cX10_refines 14 = .ok (.invokevirtual 275, 3) := by decide +kernel
theorem dX10_refines_17 : decode cX10_refines 17 = .ok (.ifCond .eq 9, 3) := by decide +kernel
theorem dX10_refines_20 : decode cX10_refines 20 = .ok (.iinc 1 1, 3) := by decide +kernel
theorem dX10_refines_23 : decode cX10_refines 23 = .ok (.goto (-21), 3) := by decide +kernel
theorem dX10_refines_26 : decode cX10_refines 26 = .ok (.iload_n 1, 1) := by decide +kernel
theorem dX10_refines_27 : decode cX10_refines 27 = .ok (.ireturn, 1) := by decide +kernel
theorem dX10_laysColours_0 : decode cX10_laysColours 0 = .ok (.aload_n 0, 1) := by decide +kernel
theorem dX10_laysColours_1 : decode cX10_laysColours 1 = .ok (.iconst 0, 1) := by decide +kernel
theorem dX10_laysColours_2 : decode cX10_laysColours 2 = .ok (.putfield 272, 3) := by decide +kernel
theorem dX10_laysColours_5 : decode cX10_laysColours 5 = .ok (.iconst 0, 1) := by decide +kernel
theorem dX10_laysColours_6 : decode cX10_laysColours 6 = .ok (.istore_n 1, 1) := by decide +kernel
theorem dX10_laysColours_7 : decode cX10_laysColours 7 = .ok (.iload_n 1, 1) := by decide +kernel
theorem dX10_laysColours_8 : decode cX10_laysColours 8 = .ok (.bipush 10, 2) := by decide +kernel
theorem dX10_laysColours_10 : decode cX10_laysColours 10 = .ok (.if_icmp .ge 67, 3) := by decide +kernel
theorem dX10_laysColours_13 : decode cX10_laysColours 13 = .ok (.iconst 0, 1) := by decide +kernel
theorem dX10_laysColours_14 : decode cX10_laysColours 14 = .ok (.istore_n 2, 1) := by decide +kernel
theorem dX10_laysColours_15 : decode cX10_laysColours 15 = .ok (.iconst 0, 1) := by decide +kernel
theorem dX10_laysColours_16 : decode cX10_laysColours 16 = .ok (.istore_n 3, 1) := by decide +kernel
theorem dX10_laysColours_17 : decode cX10_laysColours 17 = .ok (.iload_n 3, 1) := by decide +kernel
theorem dX10_laysColours_18 : decode cX10_laysColours 18 = .ok (.aload_n 0, 1) := by decide +kernel
theorem dX10_laysColours_19 : decode cX10_laysColours 19 = .ok (.getfield 256, 3) := by decide +kernel
theorem dX10_laysColours_22 : decode cX10_laysColours 22 = .ok (.if_icmp .ge 31, 3) := by decide +kernel
theorem dX10_laysColours_25 : decode cX10_laysColours 25 = .ok (.aload_n 0, 1) := by decide +kernel
theorem dX10_laysColours_26 : decode cX10_laysColours 26 = .ok (.getfield 33, 3) := by decide +kernel
theorem dX10_laysColours_29 : decode cX10_laysColours 29 = .ok (.iload_n 3, 1) := by decide +kernel
theorem dX10_laysColours_30 : decode cX10_laysColours 30 = .ok (.iaload, 1) := by decide +kernel
theorem dX10_laysColours_31 : decode cX10_laysColours 31 = .ok (.iload_n 1, 1) := by decide +kernel
theorem dX10_laysColours_32 : decode cX10_laysColours 32 = .ok (.if_icmp .ne 15, 3) := by decide +kernel
theorem dX10_laysColours_35 : decode cX10_laysColours 35 = .ok (.aload_n 0, 1) := by decide +kernel
theorem dX10_laysColours_36 : decode cX10_laysColours 36 = .ok (.getfield 39, 3) := by decide +kernel
theorem dX10_laysColours_39 : decode cX10_laysColours 39 = .ok (.iload_n 3, 1) := by decide +kernel
theorem dX10_laysColours_40 : decode cX10_laysColours 40 = .ok (.aload_n 0, 1) := by decide +kernel
theorem dX10_laysColours_41 : decode cX10_laysColours 41 = .ok (.getfield 272, 3) := by decide +kernel
theorem dX10_laysColours_44 : decode cX10_laysColours 44 = .ok (.iastore, 1) := by decide +kernel
theorem dX10_laysColours_45 : decode cX10_laysColours 45 = .ok (.iconst 1, 1) := by decide +kernel
theorem dX10_laysColours_46 : decode cX10_laysColours 46 = .ok (.istore_n 2, 1) := by decide +kernel
theorem dX10_laysColours_47 : decode cX10_laysColours 47 = .ok (.iinc 3 1, 3) := by decide +kernel
theorem dX10_laysColours_50 : decode cX10_laysColours 50 = .ok (.goto (-33), 3) := by decide +kernel
theorem dX10_laysColours_53 : decode cX10_laysColours 53 = .ok (.aload_n 0, 1) := by decide +kernel
theorem dX10_laysColours_54 : decode cX10_laysColours 54 = .ok (.dup, 1) := by decide +kernel
theorem dX10_laysColours_55 : decode cX10_laysColours 55 = .ok (.getfield 272, 3) := by decide +kernel
theorem dX10_laysColours_58 : decode cX10_laysColours 58 = .ok (.iload_n 2, 1) := by decide +kernel
theorem dX10_laysColours_59 : decode cX10_laysColours 59 = .ok (.ifCond .eq 7, 3) := by decide +kernel
theorem dX10_laysColours_62 : decode cX10_laysColours 62 = .ok (.iconst 1, 1) := by decide +kernel
theorem dX10_laysColours_63 : decode cX10_laysColours 63 = .ok (.goto 4, 3) := by decide +kernel
theorem dX10_laysColours_66 : decode cX10_laysColours 66 = .ok (.iconst 0, 1) := by decide +kernel
theorem dX10_laysColours_67 : decode cX10_laysColours 67 = .ok (.iadd, 1) := by decide +kernel
theorem dX10_laysColours_68 : decode cX10_laysColours 68 = .ok (.putfield 272, 3) := by decide +kernel
theorem dX10_laysColours_71 : decode cX10_laysColours 71 = .ok (.iinc 1 1, 3) := by decide +kernel
theorem dX10_laysColours_74 : decode cX10_laysColours 74 = .ok (.goto (-67), 3) := by decide +kernel
theorem dX10_laysColours_77 : decode cX10_laysColours 77 = .ok (.return_, 1) := by decide +kernel
theorem dX10_sizeOf_0 : decode cX10_sizeOf 0 = .ok (.iconst 0, 1) := by decide +kernel
theorem dX10_sizeOf_1 : decode cX10_sizeOf 1 = .ok (.istore_n 2, 1) := by decide +kernel
theorem dX10_sizeOf_2 : decode cX10_sizeOf 2 = .ok (.iconst 0, 1) := by decide +kernel
theorem dX10_sizeOf_3 : decode cX10_sizeOf 3 = .ok (.istore_n 3, 1) := by decide +kernel
theorem dX10_sizeOf_4 : decode cX10_sizeOf 4 = .ok (.iload_n 3, 1) := by decide +kernel
theorem dX10_sizeOf_5 : decode cX10_sizeOf 5 = .ok (.aload_n 0, 1) := by decide +kernel
theorem dX10_sizeOf_6 : decode cX10_sizeOf 6 = .ok (.getfield 256, 3) := by decide +kernel
theorem dX10_sizeOf_9 : decode cX10_sizeOf 9 = .ok (.if_icmp .ge 27, 3) := by decide +kernel
theorem dX10_sizeOf_12 : decode cX10_sizeOf 12 = .ok (.iload_n 2, 1) := by decide +kernel
theorem dX10_sizeOf_13 : decode cX10_sizeOf 13 = .ok (.aload_n 0, 1) := by decide +kernel
theorem dX10_sizeOf_14 : decode cX10_sizeOf 14 = .ok (.getfield 39, 3) := by decide +kernel
theorem dX10_sizeOf_17 : decode cX10_sizeOf 17 = .ok (.iload_n 3, 1) := by decide +kernel
theorem dX10_sizeOf_18 : decode cX10_sizeOf 18 = .ok (.iaload, 1) := by decide +kernel
theorem dX10_sizeOf_19 : decode cX10_sizeOf 19 = .ok (.iload_n 1, 1) := by decide +kernel
theorem dX10_sizeOf_20 : decode cX10_sizeOf 20 = .ok (.if_icmp .ne 7, 3) := by decide +kernel
theorem dX10_sizeOf_23 : decode cX10_sizeOf 23 = .ok (.iconst 1, 1) := by decide +kernel
theorem dX10_sizeOf_24 : decode cX10_sizeOf 24 = .ok (.goto 4, 3) := by decide +kernel
theorem dX10_sizeOf_27 : decode cX10_sizeOf 27 = .ok (.iconst 0, 1) := by decide +kernel
theorem dX10_sizeOf_28 : decode cX10_sizeOf 28 = .ok (.iadd, 1) := by decide +kernel
theorem dX10_sizeOf_29 : decode cX10_sizeOf 29 = .ok (.istore_n 2, 1) := by decide +kernel
theorem dX10_sizeOf_30 : decode cX10_sizeOf 30 = .ok (.iinc 3 1, 3) := by decide +kernel
theorem dX10_sizeOf_33 : decode cX10_sizeOf 33 = .ok (.goto (-29), 3) := by decide +kernel
theorem dX10_sizeOf_36 : decode cX10_sizeOf 36 = .ok (.iload_n 2, 1) := by decide +kernel
theorem dX10_sizeOf_37 : decode cX10_sizeOf 37 = .ok (.ireturn, 1) := by decide +kernel
theorem dX10_targetCell_0 : decode cX10_targetCell 0 = .ok (.iconst (-1), 1) := by decide +kernel
theorem dX10_targetCell_1 : decode cX10_targetCell 1 = .ok (.istore_n 1, 1) := by decide +kernel
theorem dX10_targetCell_2 : decode cX10_targetCell 2 = .ok (.iconst 0, 1) := by decide +kernel
theorem dX10_targetCell_3 : decode cX10_targetCell 3 = .ok (.istore_n 2, 1) := by decide +kernel
theorem dX10_targetCell_4 : decode cX10_targetCell 4 = .ok (.iload_n 2, 1) := by decide +kernel
theorem dX10_targetCell_5 : decode cX10_targetCell 5 = .ok (.aload_n 0, 1) := by decide +kernel
theorem dX10_targetCell_6 : decode cX10_targetCell 6 = .ok (.getfield 272, 3) := by decide +kernel
theorem dX10_targetCell_9 : decode cX10_targetCell 9 = .ok (.if_icmp .ge 38, 3) := by decide +kernel
theorem dX10_targetCell_12 : decode cX10_targetCell 12 = .ok (.aload_n 0, 1) := by decide +kernel
theorem dX10_targetCell_13 : decode cX10_targetCell 13 = .ok (.iload_n 2, 1) := by decide +kernel
theorem dX10_targetCell_14 : decode cX10_targetCell 14 = .ok (.invokevirtual 278, 3) := by decide +kernel
theorem dX10_targetCell_17 : decode cX10_targetCell 17 = .ok (.iconst 1, 1) := by decide +kernel
theorem dX10_targetCell_18 : decode cX10_targetCell 18 = .ok (.if_icmp .le 23, 3) := by decide +kernel
theorem dX10_targetCell_21 : decode cX10_targetCell 21 = .ok (.iload_n 1, 1) := by decide +kernel
theorem dX10_targetCell_22 : decode cX10_targetCell 22 = .ok (.iconst (-1), 1) := by decide +kernel
theorem dX10_targetCell_23 : decode cX10_targetCell 23 = .ok (.if_icmp .eq 16, 3) := by decide +kernel
theorem dX10_targetCell_26 : decode cX10_targetCell 26 = .ok (.aload_n 0, 1) := by decide +kernel
theorem dX10_targetCell_27 : decode cX10_targetCell 27 = .ok (.iload_n 2, 1) := by decide +kernel
theorem dX10_targetCell_28 : decode cX10_targetCell 28 = .ok (.invokevirtual 278, 3) := by decide +kernel
theorem dX10_targetCell_31 : decode cX10_targetCell 31 = .ok (.aload_n 0, 1) := by decide +kernel
theorem dX10_targetCell_32 : decode cX10_targetCell 32 = .ok (.iload_n 1, 1) := by decide +kernel
theorem dX10_targetCell_33 : decode cX10_targetCell 33 = .ok (.invokevirtual 278, 3) := by decide +kernel
theorem dX10_targetCell_36 : decode cX10_targetCell 36 = .ok (.if_icmp .ge 5, 3) := by decide +kernel
theorem dX10_targetCell_39 : decode cX10_targetCell 39 = .ok (.iload_n 2, 1) := by decide +kernel
theorem dX10_targetCell_40 : decode cX10_targetCell 40 = .ok (.istore_n 1, 1) := by decide +kernel
theorem dX10_targetCell_41 : decode cX10_targetCell 41 = .ok (.iinc 2 1, 3) := by decide +kernel
theorem dX10_targetCell_44 : decode cX10_targetCell 44 = .ok (.goto (-40), 3) := by decide +kernel
theorem dX10_targetCell_47 : decode cX10_targetCell 47 = .ok (.iload_n 1, 1) := by decide +kernel
theorem dX10_targetCell_48 : decode cX10_targetCell 48 = .ok (.ireturn, 1) := by decide +kernel
theorem dX10_setOf_0 : decode cX10_setOf 0 = .ok (.iconst 0, 1) := by decide +kernel
theorem dX10_setOf_1 : decode cX10_setOf 1 = .ok (.istore_n 2, 1) := by decide +kernel
theorem dX10_setOf_2 : decode cX10_setOf 2 = .ok (.iconst 0, 1) := by decide +kernel
theorem dX10_setOf_3 : decode cX10_setOf 3 = .ok (.istore_n 3, 1) := by decide +kernel
theorem dX10_setOf_4 : decode cX10_setOf 4 = .ok (.iload_n 3, 1) := by decide +kernel
theorem dX10_setOf_5 : decode cX10_setOf 5 = .ok (.aload_n 0, 1) := by decide +kernel
theorem dX10_setOf_6 : decode cX10_setOf 6 = .ok (.getfield 256, 3) := by decide +kernel
theorem dX10_setOf_9 : decode cX10_setOf 9 = .ok (.if_icmp .ge 29, 3) := by decide +kernel
theorem dX10_setOf_12 : decode cX10_setOf 12 = .ok (.iload_n 2, 1) := by decide +kernel
theorem dX10_setOf_13 : decode cX10_setOf 13 = .ok (.aload_n 0, 1) := by decide +kernel
theorem dX10_setOf_14 : decode cX10_setOf 14 = .ok (.getfield 39, 3) := by decide +kernel
theorem dX10_setOf_17 : decode cX10_setOf 17 = .ok (.iload_n 3, 1) := by decide +kernel
theorem dX10_setOf_18 : decode cX10_setOf 18 = .ok (.iaload, 1) := by decide +kernel
theorem dX10_setOf_19 : decode cX10_setOf 19 = .ok (.iload_n 1, 1) := by decide +kernel
theorem dX10_setOf_20 : decode cX10_setOf 20 = .ok (.if_icmp .ne 9, 3) := by decide +kernel
theorem dX10_setOf_23 : decode cX10_setOf 23 = .ok (.iconst 1, 1) := by decide +kernel
theorem dX10_setOf_24 : decode cX10_setOf 24 = .ok (.iload_n 3, 1) := by decide +kernel
theorem dX10_setOf_25 : decode cX10_setOf 25 = .ok (.ishl, 1) := by decide +kernel
theorem dX10_setOf_26 : decode cX10_setOf 26 = .ok (.goto 4, 3) := by decide +kernel
theorem dX10_setOf_29 : decode cX10_setOf 29 = .ok (.iconst 0, 1) := by decide +kernel
theorem dX10_setOf_30 : decode cX10_setOf 30 = .ok (.ior, 1) := by decide +kernel
theorem dX10_setOf_31 : decode cX10_setOf 31 = .ok (.istore_n 2, 1) := by decide +kernel
theorem dX10_setOf_32 : decode cX10_setOf 32 = .ok (.iinc 3 1, 3) := by decide +kernel
theorem dX10_setOf_35 : decode cX10_setOf 35 = .ok (.goto (-31), 3) := by decide +kernel
theorem dX10_setOf_38 : decode cX10_setOf 38 = .ok (.iload_n 2, 1) := by decide +kernel
theorem dX10_setOf_39 : decode cX10_setOf 39 = .ok (.ireturn, 1) := by decide +kernel
theorem dX10_setsApart_0 : decode cX10_setsApart 0 = .ok (.aload_n 0, 1) := by decide +kernel
theorem dX10_setsApart_1 : decode cX10_setsApart 1 = .ok (.getfield 39, 3) := by decide +kernel
theorem dX10_setsApart_4 : decode cX10_setsApart 4 = .ok (.iload_n 1, 1) := by decide +kernel
theorem dX10_setsApart_5 : decode cX10_setsApart 5 = .ok (.iaload, 1) := by decide +kernel
theorem dX10_setsApart_6 : decode cX10_setsApart 6 = .ok (.istore_n 2, 1) := by decide +kernel
theorem dX10_setsApart_7 : decode cX10_setsApart 7 = .ok (.iconst 0, 1) := by decide +kernel
theorem dX10_setsApart_8 : decode cX10_setsApart 8 = .ok (.istore_n 3, 1) := by decide +kernel
theorem dX10_setsApart_9 : decode cX10_setsApart 9 = .ok (.iload_n 3, 1) := by decide +kernel
theorem dX10_setsApart_10 : decode cX10_setsApart 10 = .ok (.aload_n 0, 1) := by decide +kernel
theorem dX10_setsApart_11 : decode cX10_setsApart 11 = .ok (.getfield 256, 3) := by decide +kernel
theorem dX10_setsApart_14 : decode cX10_setsApart 14 = .ok (.if_icmp .ge 34, 3) := by decide +kernel
theorem dX10_setsApart_17 : decode cX10_setsApart 17 = .ok (.iload_n 3, 1) := by decide +kernel
theorem dX10_setsApart_18 : decode cX10_setsApart 18 = .ok (.iload_n 1, 1) := by decide +kernel
theorem dX10_setsApart_19 : decode cX10_setsApart 19 = .ok (.if_icmp .eq 23, 3) := by decide +kernel
theorem dX10_setsApart_22 : decode cX10_setsApart 22 = .ok (.aload_n 0, 1) := by decide +kernel
theorem dX10_setsApart_23 : decode cX10_setsApart 23 = .ok (.getfield 39, 3) := by decide +kernel
theorem dX10_setsApart_26 : decode cX10_setsApart 26 = .ok (.iload_n 3, 1) := by decide +kernel
theorem dX10_setsApart_27 : decode cX10_setsApart 27 = .ok (.iaload, 1) := by decide +kernel
theorem dX10_setsApart_28 : decode cX10_setsApart 28 = .ok (.iload_n 2, 1) := by decide +kernel
theorem dX10_setsApart_29 : decode cX10_setsApart 29 = .ok (.if_icmp .lt 13, 3) := by decide +kernel
theorem dX10_setsApart_32 : decode cX10_setsApart 32 = .ok (.aload_n 0, 1) := by decide +kernel
theorem dX10_setsApart_33 : decode cX10_setsApart 33 = .ok (.getfield 39, 3) := by decide +kernel
theorem dX10_setsApart_36 : decode cX10_setsApart 36 = .ok (.iload_n 3, 1) := by decide +kernel
theorem dX10_setsApart_37 : decode cX10_setsApart 37 = .ok (.dup2, 1) := by decide +kernel
theorem dX10_setsApart_38 : decode cX10_setsApart 38 = .ok (.iaload, 1) := by decide +kernel
theorem dX10_setsApart_39 : decode cX10_setsApart 39 = .ok (.iconst 1, 1) := by decide +kernel
theorem dX10_setsApart_40 : decode cX10_setsApart 40 = .ok (.iadd, 1) := by decide +kernel
theorem dX10_setsApart_41 : decode cX10_setsApart 41 = .ok (.iastore, 1) := by decide +kernel
theorem dX10_setsApart_42 : decode cX10_setsApart 42 = .ok (.iinc 3 1, 3) := by decide +kernel
theorem dX10_setsApart_45 : decode cX10_setsApart 45 = .ok (.goto (-36), 3) := by decide +kernel
theorem dX10_setsApart_48 : decode cX10_setsApart 48 = .ok (.aload_n 0, 1) := by decide +kernel
theorem dX10_setsApart_49 : decode cX10_setsApart 49 = .ok (.dup, 1) := by decide +kernel
theorem dX10_setsApart_50 : decode cX10_setsApart 50 = .ok (.getfield 272, 3) := by decide +kernel
theorem dX10_setsApart_53 : decode cX10_setsApart 53 = .ok (.iconst 1, 1) := by decide +kernel
theorem dX10_setsApart_54 : decode cX10_setsApart 54 = .ok (.iadd, 1) := by decide +kernel
theorem dX10_setsApart_55 : decode cX10_setsApart 55 = .ok (.putfield 272, 3) := by decide +kernel
theorem dX10_setsApart_58 : decode cX10_setsApart 58 = .ok (.return_, 1) := by decide +kernel
theorem dX10_markOf_0 : decode cX10_markOf 0 = .ok (.iconst 0, 1) := by decide +kernel
theorem dX10_markOf_1 : decode cX10_markOf 1 = .ok (.istore_n 2, 1) := by decide +kernel
theorem dX10_markOf_2 : decode cX10_markOf 2 = .ok (.iconst 0, 1) := by decide +kernel
theorem dX10_markOf_3 : decode cX10_markOf 3 = .ok (.istore_n 3, 1) := by decide +kernel
theorem dX10_markOf_4 : decode cX10_markOf 4 = .ok (.iload_n 3, 1) := by decide +kernel
theorem dX10_markOf_5 : decode cX10_markOf 5 = .ok (.aload_n 0, 1) := by decide +kernel
theorem dX10_markOf_6 : decode cX10_markOf 6 = .ok (.getfield 272, 3) := by decide +kernel
theorem dX10_markOf_9 : decode cX10_markOf 9 = .ok (.if_icmp .ge 20, 3) := by decide +kernel
theorem dX10_markOf_12 : decode cX10_markOf 12 = .ok (.bipush 10, 2) := by decide +kernel
theorem dX10_markOf_14 : decode cX10_markOf 14 = .ok (.iload_n 2, 1) := by decide +kernel
theorem dX10_markOf_15 : decode cX10_markOf 15 = .ok (.imul, 1) := by decide +kernel
theorem dX10_markOf_16 : decode cX10_markOf 16 = .ok (.aload_n 0, 1) := by decide +kernel
theorem dX10_markOf_17 : decode cX10_markOf 17 = .ok (.iload_n 3, 1) := by decide +kernel
theorem dX10_markOf_18 : decode cX10_markOf 18 = .ok (.invokevirtual 278, 3) := by decide +kernel
theorem dX10_markOf_21 : decode cX10_markOf 21 = .ok (.iadd, 1) := by decide +kernel
theorem dX10_markOf_22 : decode cX10_markOf 22 = .ok (.istore_n 2, 1) := by decide +kernel
theorem dX10_markOf_23 : decode cX10_markOf 23 = .ok (.iinc 3 1, 3) := by decide +kernel
theorem dX10_markOf_26 : decode cX10_markOf 26 = .ok (.goto (-22), 3) := by decide +kernel
theorem dX10_markOf_29 : decode cX10_markOf 29 = .ok (.bipush 10, 2) := by decide +kernel
theorem dX10_markOf_31 : decode cX10_markOf 31 = .ok (.iload_n 2, 1) := by decide +kernel
theorem dX10_markOf_32 : decode cX10_markOf 32 = .ok (.imul, 1) := by decide +kernel
theorem dX10_markOf_33 : decode cX10_markOf 33 = .ok (.iload_n 1, 1) := by decide +kernel
theorem dX10_markOf_34 : decode cX10_markOf 34 = .ok (.iadd, 1) := by decide +kernel
theorem dX10_markOf_35 : decode cX10_markOf 35 = .ok (.ireturn, 1) := by decide +kernel
theorem dX10_starts_0 : decode cX10_starts 0 = .ok (.aload_n 0, 1) := by decide +kernel
theorem dX10_starts_1 : decode cX10_starts 1 = .ok (.invokevirtual 281, 3) := by decide +kernel
theorem dX10_starts_4 : decode cX10_starts 4 = .ok (.aload_n 0, 1) := by decide +kernel
theorem dX10_starts_5 : decode cX10_starts 5 = .ok (.invokevirtual 284, 3) := by decide +kernel
theorem dX10_starts_8 : decode cX10_starts 8 = .ok (.ireturn, 1) := by decide +kernel
theorem dX10_start_0 : decode cX10_start 0 = .ok (.aload_n 0, 1) := by decide +kernel
theorem dX10_start_1 : decode cX10_start 1 = .ok (.invokevirtual 215, 3) := by decide +kernel
theorem dX10_start_4 : decode cX10_start 4 = .ok (.aload_n 0, 1) := by decide +kernel
theorem dX10_start_5 : decode cX10_start 5 = .ok (.iload_n 1, 1) := by decide +kernel
theorem dX10_start_6 : decode cX10_start 6 = .ok (.invokestatic 218, 3) := by decide +kernel
theorem dX10_start_9 : decode cX10_start 9 = .ok (.ifCond .eq 12, 3) := by decide +kernel
theorem dX10_start_12 : decode cX10_start 12 = .ok (.iload_n 2, 1) := by decide +kernel
theorem dX10_start_13 : decode cX10_start 13 = .ok (.iconst 0, 1) := by decide +kernel
theorem dX10_start_14 : decode cX10_start 14 = .ok (.iconst 3, 1) := by decide +kernel
theorem dX10_start_15 : decode cX10_start 15 = .ok (.invokestatic 156, 3) := by decide +kernel
theorem dX10_start_18 : decode cX10_start 18 = .ok (.ifCond .ne 7, 3) := by decide +kernel
theorem dX10_start_21 : decode cX10_start 21 = .ok (.iconst 1, 1) := by decide +kernel
theorem dX10_start_22 : decode cX10_start 22 = .ok (.goto 4, 3) := by decide +kernel
theorem dX10_start_25 : decode cX10_start 25 = .ok (.iconst 0, 1) := by decide +kernel
theorem dX10_start_26 : decode cX10_start 26 = .ok (.iconst 1, 1) := by decide +kernel
theorem dX10_start_27 : decode cX10_start 27 = .ok (.invokevirtual 221, 3) := by decide +kernel
theorem dX10_start_30 : decode cX10_start 30 = .ok (.ifCond .eq 5, 3) := by decide +kernel
theorem dX10_start_33 : decode cX10_start 33 = .ok (.iconst (-1), 1) := by decide +kernel
theorem dX10_start_34 : decode cX10_start 34 = .ok (.ireturn, 1) := by decide +kernel
theorem dX10_start_35 : decode cX10_start 35 = .ok (.aload_n 0, 1) := by decide +kernel
theorem dX10_start_36 : decode cX10_start 36 = .ok (.iload_n 1, 1) := by decide +kernel
theorem dX10_start_37 : decode cX10_start 37 = .ok (.invokevirtual 259, 3) := by decide +kernel
theorem dX10_start_40 : decode cX10_start 40 = .ok (.aload_n 0, 1) := by decide +kernel
theorem dX10_start_41 : decode cX10_start 41 = .ok (.invokevirtual 281, 3) := by decide +kernel
theorem dX10_start_44 : decode cX10_start 44 = .ok (.aload_n 0, 1) := by decide +kernel
theorem dX10_start_45 : decode cX10_start 45 = .ok (.getfield 272, 3) := by decide +kernel
theorem dX10_start_48 : decode cX10_start 48 = .ok (.istore_n 3, 1) := by decide +kernel
theorem dX10_start_49 : decode cX10_start 49 = .ok (.aload_n 0, 1) := by decide +kernel
theorem dX10_start_50 : decode cX10_start 50 = .ok (.invokevirtual 284, 3) := by decide +kernel
theorem dX10_start_53 : decode cX10_start 53 = .ok (.istore 4, 2) := by decide +kernel
theorem dX10_start_55 : decode cX10_start 55 = .ok (.iload_n 2, 1) := by decide +kernel
theorem dX10_start_56 : decode cX10_start 56 = .ok (.tableswitch 38 0 2 #[28, 33, 36], 28) := by decide +kernel
theorem dX10_start_84 : decode cX10_start 84 = .ok (.aload_n 0, 1) := by decide +kernel
theorem dX10_start_85 : decode cX10_start 85 = .ok (.getfield 272, 3) := by decide +kernel
theorem dX10_start_88 : decode cX10_start 88 = .ok (.ireturn, 1) := by decide +kernel
theorem dX10_start_89 : decode cX10_start 89 = .ok (.iload 4, 2) := by decide +kernel
theorem dX10_start_91 : decode cX10_start 91 = .ok (.ireturn, 1) := by decide +kernel
theorem dX10_start_92 : decode cX10_start 92 = .ok (.iload_n 3, 1) := by decide +kernel
theorem dX10_start_93 : decode cX10_start 93 = .ok (.ireturn, 1) := by decide +kernel
theorem dX10_start_94 : decode cX10_start 94 = .ok (.aload_n 0, 1) := by decide +kernel
theorem dX10_start_95 : decode cX10_start 95 = .ok (.invokevirtual 287, 3) := by decide +kernel
theorem dX10_start_98 : decode cX10_start 98 = .ok (.iconst (-1), 1) := by decide +kernel
theorem dX10_start_99 : decode cX10_start 99 = .ok (.if_icmp .ne 7, 3) := by decide +kernel
theorem dX10_start_102 : decode cX10_start 102 = .ok (.iconst 0, 1) := by decide +kernel
theorem dX10_start_103 : decode cX10_start 103 = .ok (.goto 11, 3) := by decide +kernel
theorem dX10_start_106 : decode cX10_start 106 = .ok (.aload_n 0, 1) := by decide +kernel
theorem dX10_start_107 : decode cX10_start 107 = .ok (.aload_n 0, 1) := by decide +kernel
theorem dX10_start_108 : decode cX10_start 108 = .ok (.invokevirtual 287, 3) := by decide +kernel
theorem dX10_start_111 : decode cX10_start 111 = .ok (.invokevirtual 290, 3) := by decide +kernel
theorem dX10_start_114 : decode cX10_start 114 = .ok (.ireturn, 1) := by decide +kernel
theorem dX10_cell_0 : decode cX10_cell 0 = .ok (.aload_n 0, 1) := by decide +kernel
theorem dX10_cell_1 : decode cX10_cell 1 = .ok (.invokevirtual 215, 3) := by decide +kernel
theorem dX10_cell_4 : decode cX10_cell 4 = .ok (.aload_n 0, 1) := by decide +kernel
theorem dX10_cell_5 : decode cX10_cell 5 = .ok (.iload_n 1, 1) := by decide +kernel
theorem dX10_cell_6 : decode cX10_cell 6 = .ok (.invokestatic 218, 3) := by decide +kernel
theorem dX10_cell_9 : decode cX10_cell 9 = .ok (.ifCond .ne 7, 3) := by decide +kernel
theorem dX10_cell_12 : decode cX10_cell 12 = .ok (.iconst 1, 1) := by decide +kernel
theorem dX10_cell_13 : decode cX10_cell 13 = .ok (.goto 4, 3) := by decide +kernel
theorem dX10_cell_16 : decode cX10_cell 16 = .ok (.iconst 0, 1) := by decide +kernel
theorem dX10_cell_17 : decode cX10_cell 17 = .ok (.iconst 1, 1) := by decide +kernel
theorem dX10_cell_18 : decode cX10_cell 18 = .ok (.invokevirtual 221, 3) := by decide +kernel
theorem dX10_cell_21 : decode cX10_cell 21 = .ok (.ifCond .eq 5, 3) := by decide +kernel
theorem dX10_cell_24 : decode cX10_cell 24 = .ok (.iconst (-1), 1) := by decide +kernel
theorem dX10_cell_25 : decode cX10_cell 25 = .ok (.ireturn, 1) := by decide +kernel
theorem dX10_cell_26 : decode cX10_cell 26 = .ok (.aload_n 0, 1) := by decide +kernel
theorem dX10_cell_27 : decode cX10_cell 27 = .ok (.iload_n 1, 1) := by decide +kernel
theorem dX10_cell_28 : decode cX10_cell 28 = .ok (.invokevirtual 259, 3) := by decide +kernel
theorem dX10_cell_31 : decode cX10_cell 31 = .ok (.aload_n 0, 1) := by decide +kernel
theorem dX10_cell_32 : decode cX10_cell 32 = .ok (.invokevirtual 293, 3) := by decide +kernel
theorem dX10_cell_35 : decode cX10_cell 35 = .ok (.pop, 1) := by decide +kernel
theorem dX10_cell_36 : decode cX10_cell 36 = .ok (.aload_n 0, 1) := by decide +kernel
theorem dX10_cell_37 : decode cX10_cell 37 = .ok (.iload_n 2, 1) := by decide +kernel
theorem dX10_cell_38 : decode cX10_cell 38 = .ok (.iconst 0, 1) := by decide +kernel
theorem dX10_cell_39 : decode cX10_cell 39 = .ok (.aload_n 0, 1) := by decide +kernel
theorem dX10_cell_40 : decode cX10_cell 40 = .ok (.getfield 272, 3) := by decide +kernel
theorem dX10_cell_43 : decode cX10_cell 43 = .ok (.iconst 1, 1) := by decide +kernel
theorem dX10_cell_44 : decode cX10_cell 44 = .ok (.isub, 1) := by decide +kernel
theorem dX10_cell_45 : decode cX10_cell 45 = .ok (.invokestatic 156, 3) := by decide +kernel
theorem dX10_cell_48 : decode cX10_cell 48 = .ok (.ifCond .ne 7, 3) := by decide +kernel
theorem dX10_cell_51 : decode cX10_cell 51 = .ok (.iconst 1, 1) := by decide +kernel
theorem dX10_cell_52 : decode cX10_cell 52 = .ok (.goto 4, 3) := by decide +kernel
theorem dX10_cell_55 : decode cX10_cell 55 = .ok (.iconst 0, 1) := by decide +kernel
theorem dX10_cell_56 : decode cX10_cell 56 = .ok (.iconst 1, 1) := by decide +kernel
theorem dX10_cell_57 : decode cX10_cell 57 = .ok (.invokevirtual 221, 3) := by decide +kernel
theorem dX10_cell_60 : decode cX10_cell 60 = .ok (.ifCond .eq 5, 3) := by decide +kernel
theorem dX10_cell_63 : decode cX10_cell 63 = .ok (.iconst (-1), 1) := by decide +kernel
theorem dX10_cell_64 : decode cX10_cell 64 = .ok (.ireturn, 1) := by decide +kernel
theorem dX10_cell_65 : decode cX10_cell 65 = .ok (.aload_n 0, 1) := by decide +kernel
theorem dX10_cell_66 : decode cX10_cell 66 = .ok (.iload_n 2, 1) := by decide +kernel
theorem dX10_cell_67 : decode cX10_cell 67 = .ok (.invokevirtual 290, 3) := by decide +kernel
theorem dX10_cell_70 : decode cX10_cell 70 = .ok (.ireturn, 1) := by decide +kernel
theorem dX10_apart_0 : decode cX10_apart 0 = .ok (.aload_n 0, 1) := by decide +kernel
theorem dX10_apart_1 : decode cX10_apart 1 = .ok (.invokevirtual 215, 3) := by decide +kernel
theorem dX10_apart_4 : decode cX10_apart 4 = .ok (.aload_n 0, 1) := by decide +kernel
theorem dX10_apart_5 : decode cX10_apart 5 = .ok (.aload_n 0, 1) := by decide +kernel
theorem dX10_apart_6 : decode cX10_apart 6 = .ok (.iload_n 1, 1) := by decide +kernel
theorem dX10_apart_7 : decode cX10_apart 7 = .ok (.iload_n 2, 1) := by decide +kernel
theorem dX10_apart_8 : decode cX10_apart 8 = .ok (.invokevirtual 253, 3) := by decide +kernel
theorem dX10_apart_11 : decode cX10_apart 11 = .ok (.ifCond .eq 12, 3) := by decide +kernel
theorem dX10_apart_14 : decode cX10_apart 14 = .ok (.iload_n 3, 1) := by decide +kernel
theorem dX10_apart_15 : decode cX10_apart 15 = .ok (.iconst 0, 1) := by decide +kernel
theorem dX10_apart_16 : decode cX10_apart 16 = .ok (.iconst 1, 1) := by decide +kernel
theorem dX10_apart_17 : decode cX10_apart 17 = .ok (.invokestatic 156, 3) := by decide +kernel
theorem dX10_apart_20 : decode cX10_apart 20 = .ok (.ifCond .ne 7, 3) := by decide +kernel
theorem dX10_apart_23 : decode cX10_apart 23 = .ok (.iconst 1, 1) := by decide +kernel
theorem dX10_apart_24 : decode cX10_apart 24 = .ok (.goto 4, 3) := by decide +kernel
theorem dX10_apart_27 : decode cX10_apart 27 = .ok (.iconst 0, 1) := by decide +kernel
theorem dX10_apart_28 : decode cX10_apart 28 = .ok (.iconst 1, 1) := by decide +kernel
theorem dX10_apart_29 : decode cX10_apart 29 = .ok (.invokevirtual 221, 3) := by decide +kernel
theorem dX10_apart_32 : decode cX10_apart 32 = .ok (.ifCond .eq 5, 3) := by decide +kernel
theorem dX10_apart_35 : decode cX10_apart 35 = .ok (.iconst (-1), 1) := by decide +kernel
theorem dX10_apart_36 : decode cX10_apart 36 = .ok (.ireturn, 1) := by decide +kernel
theorem dX10_apart_37 : decode cX10_apart 37 = .ok (.aload_n 0, 1) := by decide +kernel
theorem dX10_apart_38 : decode cX10_apart 38 = .ok (.iload_n 1, 1) := by decide +kernel
theorem dX10_apart_39 : decode cX10_apart 39 = .ok (.invokevirtual 259, 3) := by decide +kernel
theorem dX10_apart_42 : decode cX10_apart 42 = .ok (.aload_n 0, 1) := by decide +kernel
theorem dX10_apart_43 : decode cX10_apart 43 = .ok (.invokevirtual 293, 3) := by decide +kernel
theorem dX10_apart_46 : decode cX10_apart 46 = .ok (.pop, 1) := by decide +kernel
theorem dX10_apart_47 : decode cX10_apart 47 = .ok (.aload_n 0, 1) := by decide +kernel
theorem dX10_apart_48 : decode cX10_apart 48 = .ok (.invokevirtual 287, 3) := by decide +kernel
theorem dX10_apart_51 : decode cX10_apart 51 = .ok (.istore 4, 2) := by decide +kernel
theorem dX10_apart_53 : decode cX10_apart 53 = .ok (.aload_n 0, 1) := by decide +kernel
theorem dX10_apart_54 : decode cX10_apart 54 = .ok (.iload 4, 2) := by decide +kernel
theorem dX10_apart_56 : decode cX10_apart 56 = .ok (.iconst (-1), 1) := by decide +kernel
theorem dX10_apart_57 : decode cX10_apart 57 = .ok (.if_icmp .eq 14, 3) := by decide +kernel
theorem dX10_apart_60 : decode cX10_apart 60 = .ok (.aload_n 0, 1) := by decide +kernel
theorem dX10_apart_61 : decode cX10_apart 61 = .ok (.getfield 39, 3) := by decide +kernel
theorem dX10_apart_64 : decode cX10_apart 64 = .ok (.iload_n 2, 1) := by decide +kernel
theorem dX10_apart_65 : decode cX10_apart 65 = .ok (.iaload, 1) := by decide +kernel
theorem dX10_apart_66 : decode cX10_apart 66 = .ok (.iload 4, 2) := by decide +kernel
theorem dX10_apart_68 : decode cX10_apart 68 = .ok (.if_icmp .eq 7, 3) := by decide +kernel
theorem dX10_apart_71 : decode cX10_apart 71 = .ok (.iconst 1, 1) := by decide +kernel
theorem dX10_apart_72 : decode cX10_apart 72 = .ok (.goto 4, 3) := by decide +kernel
theorem dX10_apart_75 : decode cX10_apart 75 = .ok (.iconst 0, 1) := by decide +kernel
theorem dX10_apart_76 : decode cX10_apart 76 = .ok (.iconst 5, 1) := by decide +kernel
theorem dX10_apart_77 : decode cX10_apart 77 = .ok (.invokevirtual 221, 3) := by decide +kernel
theorem dX10_apart_80 : decode cX10_apart 80 = .ok (.ifCond .eq 5, 3) := by decide +kernel
theorem dX10_apart_83 : decode cX10_apart 83 = .ok (.iconst (-1), 1) := by decide +kernel
theorem dX10_apart_84 : decode cX10_apart 84 = .ok (.ireturn, 1) := by decide +kernel
theorem dX10_apart_85 : decode cX10_apart 85 = .ok (.aload_n 0, 1) := by decide +kernel
theorem dX10_apart_86 : decode cX10_apart 86 = .ok (.iload_n 2, 1) := by decide +kernel
theorem dX10_apart_87 : decode cX10_apart 87 = .ok (.invokevirtual 296, 3) := by decide +kernel
theorem dX10_apart_90 : decode cX10_apart 90 = .ok (.aload_n 0, 1) := by decide +kernel
theorem dX10_apart_91 : decode cX10_apart 91 = .ok (.invokevirtual 284, 3) := by decide +kernel
theorem dX10_apart_94 : decode cX10_apart 94 = .ok (.istore 5, 2) := by decide +kernel
theorem dX10_apart_96 : decode cX10_apart 96 = .ok (.iload_n 3, 1) := by decide +kernel
theorem dX10_apart_97 : decode cX10_apart 97 = .ok (.ifCond .ne 10, 3) := by decide +kernel
theorem dX10_apart_100 : decode cX10_apart 100 = .ok (.aload_n 0, 1) := by decide +kernel
theorem dX10_apart_101 : decode cX10_apart 101 = .ok (.getfield 272, 3) := by decide +kernel
theorem dX10_apart_104 : decode cX10_apart 104 = .ok (.goto 9, 3) := by decide +kernel
theorem dX10_apart_107 : decode cX10_apart 107 = .ok (.aload_n 0, 1) := by decide +kernel
theorem dX10_apart_108 : decode cX10_apart 108 = .ok (.iload 5, 2) := by decide +kernel
theorem dX10_apart_110 : decode cX10_apart 110 = .ok (.invokevirtual 299, 3) := by decide +kernel
theorem dX10_apart_113 : decode cX10_apart 113 = .ok (.ireturn, 1) := by decide +kernel
theorem dX10_base_0 : decode cX10_base 0 = .ok (.aload_n 0, 1) := by decide +kernel
theorem dX10_base_1 : decode cX10_base 1 = .ok (.invokevirtual 215, 3) := by decide +kernel
theorem dX10_base_4 : decode cX10_base 4 = .ok (.aload_n 0, 1) := by decide +kernel
theorem dX10_base_5 : decode cX10_base 5 = .ok (.iload_n 1, 1) := by decide +kernel
theorem dX10_base_6 : decode cX10_base 6 = .ok (.invokestatic 218, 3) := by decide +kernel
theorem dX10_base_9 : decode cX10_base 9 = .ok (.ifCond .ne 7, 3) := by decide +kernel
theorem dX10_base_12 : decode cX10_base 12 = .ok (.iconst 1, 1) := by decide +kernel
theorem dX10_base_13 : decode cX10_base 13 = .ok (.goto 4, 3) := by decide +kernel
theorem dX10_base_16 : decode cX10_base 16 = .ok (.iconst 0, 1) := by decide +kernel
theorem dX10_base_17 : decode cX10_base 17 = .ok (.iconst 1, 1) := by decide +kernel
theorem dX10_base_18 : decode cX10_base 18 = .ok (.invokevirtual 221, 3) := by decide +kernel
theorem dX10_base_21 : decode cX10_base 21 = .ok (.ifCond .ne 25, 3) := by decide +kernel
theorem dX10_base_24 : decode cX10_base 24 = .ok (.aload_n 0, 1) := by decide +kernel
theorem dX10_base_25 : decode cX10_base 25 = .ok (.aload_n 0, 1) := by decide +kernel
theorem dX10_base_26 : decode cX10_base 26 = .ok (.iload_n 1, 1) := by decide +kernel
theorem dX10_base_27 : decode cX10_base 27 = .ok (.iload_n 2, 1) := by decide +kernel
theorem dX10_base_28 : decode cX10_base 28 = .ok (.invokevirtual 302, 3) := by decide +kernel
theorem dX10_base_31 : decode cX10_base 31 = .ok (.ifCond .ne 7, 3) := by decide +kernel
theorem dX10_base_34 : decode cX10_base 34 = .ok (.iconst 1, 1) := by decide +kernel
theorem dX10_base_35 : decode cX10_base 35 = .ok (.goto 4, 3) := by decide +kernel
theorem dX10_base_38 : decode cX10_base 38 = .ok (.iconst 0, 1) := by decide +kernel
theorem dX10_base_39 : decode cX10_base 39 = .ok (.iconst 2, 1) := by decide +kernel
theorem dX10_base_40 : decode cX10_base 40 = .ok (.invokevirtual 221, 3) := by decide +kernel
theorem dX10_base_43 : decode cX10_base 43 = .ok (.ifCond .eq 5, 3) := by decide +kernel
theorem dX10_base_46 : decode cX10_base 46 = .ok (.iconst (-1), 1) := by decide +kernel
theorem dX10_base_47 : decode cX10_base 47 = .ok (.ireturn, 1) := by decide +kernel
theorem dX10_base_48 : decode cX10_base 48 = .ok (.aload_n 0, 1) := by decide +kernel
theorem dX10_base_49 : decode cX10_base 49 = .ok (.iload_n 1, 1) := by decide +kernel
theorem dX10_base_50 : decode cX10_base 50 = .ok (.invokevirtual 259, 3) := by decide +kernel
theorem dX10_base_53 : decode cX10_base 53 = .ok (.aload_n 0, 1) := by decide +kernel
theorem dX10_base_54 : decode cX10_base 54 = .ok (.iload_n 2, 1) := by decide +kernel
theorem dX10_base_55 : decode cX10_base 55 = .ok (.invokevirtual 305, 3) := by decide +kernel
theorem dX10_base_58 : decode cX10_base 58 = .ok (.ireturn, 1) := by decide +kernel
theorem dX10_cellsBy_0 : decode cX10_cellsBy 0 = .ok (.aload_n 0, 1) := by decide +kernel
theorem dX10_cellsBy_1 : decode cX10_cellsBy 1 = .ok (.invokevirtual 293, 3) := by decide +kernel
theorem dX10_cellsBy_4 : decode cX10_cellsBy 4 = .ok (.pop, 1) := by decide +kernel
theorem dX10_cellsBy_5 : decode cX10_cellsBy 5 = .ok (.iconst 0, 1) := by decide +kernel
theorem dX10_cellsBy_6 : decode cX10_cellsBy 6 = .ok (.istore_n 2, 1) := by decide +kernel
theorem dX10_cellsBy_7 : decode cX10_cellsBy 7 = .ok (.iload_n 2, 1) := by decide +kernel
theorem dX10_cellsBy_8 : decode cX10_cellsBy 8 = .ok (.aload_n 0, 1) := by decide +kernel
theorem dX10_cellsBy_9 : decode cX10_cellsBy 9 = .ok (.getfield 256, 3) := by decide +kernel
theorem dX10_cellsBy_12 : decode cX10_cellsBy 12 = .ok (.if_icmp .ge 36, 3) := by decide +kernel
theorem dX10_cellsBy_15 : decode cX10_cellsBy 15 = .ok (.iload_n 1, 1) := by decide +kernel
theorem dX10_cellsBy_16 : decode cX10_cellsBy 16 = .ok (.iload_n 2, 1) := by decide +kernel
theorem dX10_cellsBy_17 : decode cX10_cellsBy 17 = .ok (.invokestatic 182, 3) := by decide +kernel
theorem dX10_cellsBy_20 : decode cX10_cellsBy 20 = .ok (.ifCond .eq 22, 3) := by decide +kernel
theorem dX10_cellsBy_23 : decode cX10_cellsBy 23 = .ok (.aload_n 0, 1) := by decide +kernel
theorem dX10_cellsBy_24 : decode cX10_cellsBy 24 = .ok (.aload_n 0, 1) := by decide +kernel
theorem dX10_cellsBy_25 : decode cX10_cellsBy 25 = .ok (.getfield 39, 3) := by decide +kernel
theorem dX10_cellsBy_28 : decode cX10_cellsBy 28 = .ok (.iload_n 2, 1) := by decide +kernel
theorem dX10_cellsBy_29 : decode cX10_cellsBy 29 = .ok (.iaload, 1) := by decide +kernel
theorem dX10_cellsBy_30 : decode cX10_cellsBy 30 = .ok (.invokevirtual 278, 3) := by decide +kernel
theorem dX10_cellsBy_33 : decode cX10_cellsBy 33 = .ok (.iconst 1, 1) := by decide +kernel
theorem dX10_cellsBy_34 : decode cX10_cellsBy 34 = .ok (.if_icmp .le 8, 3) := by decide +kernel
theorem dX10_cellsBy_37 : decode cX10_cellsBy 37 = .ok (.aload_n 0, 1) := by decide +kernel
theorem dX10_cellsBy_38 : decode cX10_cellsBy 38 = .ok (.iload_n 2, 1) := by decide +kernel
theorem dX10_cellsBy_39 : decode cX10_cellsBy 39 = .ok (.invokevirtual 296, 3) := by decide +kernel
theorem dX10_cellsBy_42 : decode cX10_cellsBy 42 = .ok (.iinc 2 1, 3) := by decide +kernel
theorem dX10_cellsBy_45 : decode cX10_cellsBy 45 = .ok (.goto (-38), 3) := by decide +kernel
theorem dX10_cellsBy_48 : decode cX10_cellsBy 48 = .ok (.aload_n 0, 1) := by decide +kernel
theorem dX10_cellsBy_49 : decode cX10_cellsBy 49 = .ok (.invokevirtual 284, 3) := by decide +kernel
theorem dX10_cellsBy_52 : decode cX10_cellsBy 52 = .ok (.pop, 1) := by decide +kernel
theorem dX10_cellsBy_53 : decode cX10_cellsBy 53 = .ok (.aload_n 0, 1) := by decide +kernel
theorem dX10_cellsBy_54 : decode cX10_cellsBy 54 = .ok (.getfield 272, 3) := by decide +kernel
theorem dX10_cellsBy_57 : decode cX10_cellsBy 57 = .ok (.ireturn, 1) := by decide +kernel
theorem dX10_fewest_0 : decode cX10_fewest 0 = .ok (.aload_n 0, 1) := by decide +kernel
theorem dX10_fewest_1 : decode cX10_fewest 1 = .ok (.invokevirtual 215, 3) := by decide +kernel
theorem dX10_fewest_4 : decode cX10_fewest 4 = .ok (.aload_n 0, 1) := by decide +kernel
theorem dX10_fewest_5 : decode cX10_fewest 5 = .ok (.iload_n 1, 1) := by decide +kernel
theorem dX10_fewest_6 : decode cX10_fewest 6 = .ok (.invokestatic 218, 3) := by decide +kernel
theorem dX10_fewest_9 : decode cX10_fewest 9 = .ok (.ifCond .ne 7, 3) := by decide +kernel
theorem dX10_fewest_12 : decode cX10_fewest 12 = .ok (.iconst 1, 1) := by decide +kernel
theorem dX10_fewest_13 : decode cX10_fewest 13 = .ok (.goto 4, 3) := by decide +kernel
theorem dX10_fewest_16 : decode cX10_fewest 16 = .ok (.iconst 0, 1) := by decide +kernel
theorem dX10_fewest_17 : decode cX10_fewest 17 = .ok (.iconst 1, 1) := by decide +kernel
theorem dX10_fewest_18 : decode cX10_fewest 18 = .ok (.invokevirtual 221, 3) := by decide +kernel
theorem dX10_fewest_21 : decode cX10_fewest 21 = .ok (.ifCond .eq 5, 3) := by decide +kernel
theorem dX10_fewest_24 : decode cX10_fewest 24 = .ok (.iconst (-1), 1) := by decide +kernel
theorem dX10_fewest_25 : decode cX10_fewest 25 = .ok (.ireturn, 1) := by decide +kernel
theorem dX10_fewest_26 : decode cX10_fewest 26 = .ok (.aload_n 0, 1) := by decide +kernel
theorem dX10_fewest_27 : decode cX10_fewest 27 = .ok (.iload_n 1, 1) := by decide +kernel
theorem dX10_fewest_28 : decode cX10_fewest 28 = .ok (.invokevirtual 259, 3) := by decide +kernel
theorem dX10_fewest_31 : decode cX10_fewest 31 = .ok (.iconst (-1), 1) := by decide +kernel
theorem dX10_fewest_32 : decode cX10_fewest 32 = .ok (.istore_n 2, 1) := by decide +kernel
theorem dX10_fewest_33 : decode cX10_fewest 33 = .ok (.iconst 0, 1) := by decide +kernel
theorem dX10_fewest_34 : decode cX10_fewest 34 = .ok (.istore_n 3, 1) := by decide +kernel
theorem dX10_fewest_35 : decode cX10_fewest 35 = .ok (.iload_n 3, 1) := by decide +kernel
theorem dX10_fewest_36 : decode cX10_fewest 36 = .ok (.iconst 1, 1) := by decide +kernel
theorem dX10_fewest_37 : decode cX10_fewest 37 = .ok (.aload_n 0, 1) := by decide +kernel
theorem dX10_fewest_38 : decode cX10_fewest 38 = .ok (.getfield 256, 3) := by decide +kernel
theorem dX10_fewest_41 : decode cX10_fewest 41 = .ok (.ishl, 1) := by decide +kernel
theorem dX10_fewest_42 : decode cX10_fewest 42 = .ok (.if_icmp .ge 39, 3) := by decide +kernel
theorem dX10_fewest_45 : decode cX10_fewest 45 = .ok (.iload_n 2, 1) := by decide +kernel
theorem dX10_fewest_46 : decode cX10_fewest 46 = .ok (.iconst (-1), 1) := by decide +kernel
theorem dX10_fewest_47 : decode cX10_fewest 47 = .ok (.if_icmp .eq 14, 3) := by decide +kernel
theorem dX10_fewest_50 : decode cX10_fewest 50 = .ok (.iload_n 3, 1) := by decide +kernel
theorem dX10_fewest_51 : decode cX10_fewest 51 = .ok (.invokestatic 241, 3) := by decide +kernel
theorem dX10_fewest_54 : decode cX10_fewest 54 = .ok (.iload_n 2, 1) := by decide +kernel
theorem dX10_fewest_55 : decode cX10_fewest 55 = .ok (.invokestatic 241, 3) := by decide +kernel
theorem dX10_fewest_58 : decode cX10_fewest 58 = .ok (.if_icmp .ge 17, 3) := by decide +kernel
theorem dX10_fewest_61 : decode cX10_fewest 61 = .ok (.aload_n 0, 1) := by decide +kernel
theorem dX10_fewest_62 : decode cX10_fewest 62 = .ok (.iload_n 3, 1) := by decide +kernel
theorem dX10_fewest_63 : decode cX10_fewest 63 = .ok (.invokevirtual 305, 3) := by decide +kernel
theorem dX10_fewest_66 : decode cX10_fewest 66 = .ok (.aload_n 0, 1) := by decide +kernel
theorem dX10_fewest_67 : decode cX10_fewest 67 = .ok (.getfield 256, 3) := by decide +kernel
theorem dX10_fewest_70 : decode cX10_fewest 70 = .ok (.if_icmp .ne 5, 3) := by decide +kernel
theorem dX10_fewest_73 : decode cX10_fewest 73 = .ok (.iload_n 3, 1) := by decide +kernel
theorem dX10_fewest_74 : decode cX10_fewest 74 = .ok (.istore_n 2, 1) := by decide +kernel
theorem dX10_fewest_75 : decode cX10_fewest 75 = .ok (.iinc 3 1, 3) := by decide +kernel
theorem dX10_fewest_78 : decode cX10_fewest 78 = .ok (.goto (-43), 3) := by decide +kernel
theorem dX10_fewest_81 : decode cX10_fewest 81 = .ok (.iload_n 2, 1) := by decide +kernel
theorem dX10_fewest_82 : decode cX10_fewest 82 = .ok (.ireturn, 1) := by decide +kernel
theorem dX10_codeLong_0 : decode cX10_codeLong 0 = .ok (.aload_n 0, 1) := by decide +kernel
theorem dX10_codeLong_1 : decode cX10_codeLong 1 = .ok (.getfield 256, 3) := by decide +kernel
theorem dX10_codeLong_4 : decode cX10_codeLong 4 = .ok (.aload_n 0, 1) := by decide +kernel
theorem dX10_codeLong_5 : decode cX10_codeLong 5 = .ok (.getfield 256, 3) := by decide +kernel
theorem dX10_codeLong_8 : decode cX10_codeLong 8 = .ok (.aload_n 0, 1) := by decide +kernel
theorem dX10_codeLong_9 : decode cX10_codeLong 9 = .ok (.getfield 256, 3) := by decide +kernel
theorem dX10_codeLong_12 : decode cX10_codeLong 12 = .ok (.iconst 1, 1) := by decide +kernel
theorem dX10_codeLong_13 : decode cX10_codeLong 13 = .ok (.isub, 1) := by decide +kernel
theorem dX10_codeLong_14 : decode cX10_codeLong 14 = .ok (.imul, 1) := by decide +kernel
theorem dX10_codeLong_15 : decode cX10_codeLong 15 = .ok (.iconst 2, 1) := by decide +kernel
theorem dX10_codeLong_16 : decode cX10_codeLong 16 = .ok (.idiv, 1) := by decide +kernel
theorem dX10_codeLong_17 : decode cX10_codeLong 17 = .ok (.iadd, 1) := by decide +kernel
theorem dX10_codeLong_18 : decode cX10_codeLong 18 = .ok (.ireturn, 1) := by decide +kernel
theorem dX10_vertexIn_0 : decode cX10_vertexIn 0 = .ok (.iconst 0, 1) := by decide +kernel
theorem dX10_vertexIn_1 : decode cX10_vertexIn 1 = .ok (.istore_n 2, 1) := by decide +kernel
theorem dX10_vertexIn_2 : decode cX10_vertexIn 2 = .ok (.iload_n 2, 1) := by decide +kernel
theorem dX10_vertexIn_3 : decode cX10_vertexIn 3 = .ok (.aload_n 0, 1) := by decide +kernel
theorem dX10_vertexIn_4 : decode cX10_vertexIn 4 = .ok (.getfield 256, 3) := by decide +kernel
theorem dX10_vertexIn_7 : decode cX10_vertexIn 7 = .ok (.if_icmp .ge 21, 3) := by decide +kernel
theorem dX10_vertexIn_10 : decode cX10_vertexIn 10 = .ok (.aload_n 0, 1) := by decide +kernel
theorem dX10_vertexIn_11 : decode cX10_vertexIn 11 = .ok (.getfield 39, 3) := by decide +kernel
theorem dX10_vertexIn_14 : decode cX10_vertexIn 14 = .ok (.iload_n 2, 1) := by decide +kernel
theorem dX10_vertexIn_15 : decode cX10_vertexIn 15 = .ok (.iaload, 1) := by decide +kernel
theorem dX10_vertexIn_16 : decode cX10_vertexIn 16 = .ok (.iload_n 1, 1) := by decide +kernel
theorem dX10_vertexIn_17 : decode cX10_vertexIn 17 = .ok (.if_icmp .ne 5, 3) := by decide +kernel
theorem dX10_vertexIn_20 : decode cX10_vertexIn 20 = .ok (.iload_n 2, 1) := by decide +kernel
theorem dX10_vertexIn_21 : decode cX10_vertexIn 21 = .ok (.ireturn, 1) := by decide +kernel
theorem dX10_vertexIn_22 : decode cX10_vertexIn 22 = .ok (.iinc 2 1, 3) := by decide +kernel
theorem dX10_vertexIn_25 : decode cX10_vertexIn 25 = .ok (.goto (-23), 3) := by decide +kernel
theorem dX10_vertexIn_28 : decode cX10_vertexIn 28 = .ok (.iconst (-1), 1) := by decide +kernel
theorem dX10_vertexIn_29 : decode cX10_vertexIn 29 = .ok (.ireturn, 1) := by decide +kernel
theorem dX10_laysCode_0 : decode cX10_laysCode 0 = .ok (.iconst 0, 1) := by decide +kernel
theorem dX10_laysCode_1 : decode cX10_laysCode 1 = .ok (.istore_n 1, 1) := by decide +kernel
theorem dX10_laysCode_2 : decode cX10_laysCode 2 = .ok (.iconst 0, 1) := by decide +kernel
theorem dX10_laysCode_3 : decode cX10_laysCode 3 = .ok (.istore_n 2, 1) := by decide +kernel
theorem dX10_laysCode_4 : decode cX10_laysCode 4 = .ok (.iload_n 2, 1) := by decide +kernel
theorem dX10_laysCode_5 : decode cX10_laysCode 5 = .ok (.aload_n 0, 1) := by decide +kernel
theorem dX10_laysCode_6 : decode cX10_laysCode 6 = .ok (.getfield 256, 3) := by decide +kernel
theorem dX10_laysCode_9 : decode cX10_laysCode 9 = .ok (.if_icmp .ge 28, 3) := by decide +kernel
theorem dX10_laysCode_12 : decode cX10_laysCode 12 = .ok (.aload_n 0, 1) := by decide +kernel
theorem dX10_laysCode_13 : decode cX10_laysCode 13 = .ok (.getfield 54, 3) := by decide +kernel
theorem dX10_laysCode_16 : decode cX10_laysCode 16 = .ok (.iload_n 1, 1) := by decide +kernel
theorem dX10_laysCode_17 : decode cX10_laysCode 17 = .ok (.aload_n 0, 1) := by decide +kernel
theorem dX10_laysCode_18 : decode cX10_laysCode 18 = .ok (.getfield 33, 3) := by decide +kernel
theorem dX10_laysCode_21 : decode cX10_laysCode 21 = .ok (.aload_n 0, 1) := by decide +kernel
theorem dX10_laysCode_22 : decode cX10_laysCode 22 = .ok (.iload_n 2, 1) := by decide +kernel
theorem dX10_laysCode_23 : decode cX10_laysCode 23 = .ok (.invokevirtual 308, 3) := by decide +kernel
theorem dX10_laysCode_26 : decode cX10_laysCode 26 = .ok (.iaload, 1) := by decide +kernel
theorem dX10_laysCode_27 : decode cX10_laysCode 27 = .ok (.iastore, 1) := by decide +kernel
theorem dX10_laysCode_28 : decode cX10_laysCode 28 = .ok (.iinc 1 1, 3) := by decide +kernel
theorem dX10_laysCode_31 : decode cX10_laysCode 31 = .ok (.iinc 2 1, 3) := by decide +kernel
theorem dX10_laysCode_34 : decode cX10_laysCode 34 = .ok (.goto (-30), 3) := by decide +kernel
theorem dX10_laysCode_37 : decode cX10_laysCode 37 = .ok (.iconst 0, 1) := by decide +kernel
theorem dX10_laysCode_38 : decode cX10_laysCode 38 = .ok (.istore_n 2, 1) := by decide +kernel
theorem dX10_laysCode_39 : decode cX10_laysCode 39 = .ok (.iload_n 2, 1) := by decide +kernel
theorem dX10_laysCode_40 : decode cX10_laysCode 40 = .ok (.aload_n 0, 1) := by decide +kernel
theorem dX10_laysCode_41 : decode cX10_laysCode 41 = .ok (.getfield 256, 3) := by decide +kernel
theorem dX10_laysCode_44 : decode cX10_laysCode 44 = .ok (.if_icmp .ge 55, 3) := by decide +kernel
theorem dX10_laysCode_47 : decode cX10_laysCode 47 = .ok (.iload_n 2, 1) := by decide +kernel
theorem dX10_laysCode_48 : decode cX10_laysCode 48 = .ok (.iconst 1, 1) := by decide +kernel
theorem dX10_laysCode_49 : decode cX10_laysCode 49 = .ok (.iadd, 1) := by decide +kernel
theorem dX10_laysCode_50 : decode cX10_laysCode 50 = .ok (.istore_n 3, 1) := by decide +kernel
theorem dX10_laysCode_51 : decode cX10_laysCode 51 = .ok (.iload_n 3, 1) := by decide +kernel
theorem dX10_laysCode_52 : decode cX10_laysCode 52 = .ok (.aload_n 0, 1) := by decide +kernel
theorem dX10_laysCode_53 : decode cX10_laysCode 53 = .ok (.getfield 256, 3) := by decide +kernel
theorem dX10_laysCode_56 : decode cX10_laysCode 56 = .ok (.if_icmp .ge 37, 3) := by decide +kernel
theorem dX10_laysCode_59 : decode cX10_laysCode 59 = .ok (.aload_n 0, 1) := by decide +kernel
theorem dX10_laysCode_60 : decode cX10_laysCode 60 = .ok (.getfield 54, 3) := by decide +kernel
theorem dX10_laysCode_63 : decode cX10_laysCode 63 = .ok (.iload_n 1, 1) := by decide +kernel
theorem dX10_laysCode_64 : decode cX10_laysCode 64 = .ok (.aload_n 0, 1) := by decide +kernel
theorem dX10_laysCode_65 : decode cX10_laysCode 65 = .ok (.getfield 36, 3) := by decide +kernel
theorem dX10_laysCode_68 : decode cX10_laysCode 68 = .ok (.bipush 7, 2) := by decide +kernel
theorem dX10_laysCode_70 : decode cX10_laysCode 70 = .ok (.aload_n 0, 1) := by decide +kernel
theorem dX10_laysCode_71 : decode cX10_laysCode 71 = .ok (.iload_n 2, 1) := by decide +kernel
theorem dX10_laysCode_72 : decode cX10_laysCode 72 = .ok (.invokevirtual 308, 3) := by decide +kernel
theorem dX10_laysCode_75 : decode cX10_laysCode 75 = .ok (.imul, 1) := by decide +kernel
theorem dX10_laysCode_76 : decode cX10_laysCode 76 = .ok (.aload_n 0, 1) := by decide +kernel
theorem dX10_laysCode_77 : decode cX10_laysCode 77 = .ok (.iload_n 3, 1) := by decide +kernel
theorem dX10_laysCode_78 : decode cX10_laysCode 78 = .ok (.invokevirtual 308, 3) := by decide +kernel
theorem dX10_laysCode_81 : decode cX10_laysCode 81 = .ok (.iadd, 1) := by decide +kernel
theorem dX10_laysCode_82 : decode cX10_laysCode 82 = .ok (.iaload, 1) := by decide +kernel
theorem dX10_laysCode_83 : decode cX10_laysCode 83 = .ok (.iastore, 1) := by decide +kernel
theorem dX10_laysCode_84 : decode cX10_laysCode 84 = .ok (.iinc 1 1, 3) := by decide +kernel
theorem dX10_laysCode_87 : decode cX10_laysCode 87 = .ok (.iinc 3 1, 3) := by decide +kernel
theorem dX10_laysCode_90 : decode cX10_laysCode 90 = .ok (.goto (-39), 3) := by decide +kernel
theorem dX10_laysCode_93 : decode cX10_laysCode 93 = .ok (.iinc 2 1, 3) := by decide +kernel
theorem dX10_laysCode_96 : decode cX10_laysCode 96 = .ok (.goto (-57), 3) := by decide +kernel
theorem dX10_laysCode_99 : decode cX10_laysCode 99 = .ok (.return_, 1) := by decide +kernel
theorem dX10_comparesBest_0 : decode cX10_comparesBest 0 = .ok (.iload_n 1, 1) := by decide +kernel
theorem dX10_comparesBest_1 : decode cX10_comparesBest 1 = .ok (.aload_n 0, 1) := by decide +kernel
theorem dX10_comparesBest_2 : decode cX10_comparesBest 2 = .ok (.getfield 311, 3) := by decide +kernel
theorem dX10_comparesBest_5 : decode cX10_comparesBest 5 = .ok (.if_icmp .ge 7, 3) := by decide +kernel
theorem dX10_comparesBest_8 : decode cX10_comparesBest 8 = .ok (.iload_n 1, 1) := by decide +kernel
theorem dX10_comparesBest_9 : decode cX10_comparesBest 9 = .ok (.goto 7, 3) := by decide +kernel
theorem dX10_comparesBest_12 : decode cX10_comparesBest 12 = .ok (.aload_n 0, 1) := by decide +kernel
theorem dX10_comparesBest_13 : decode cX10_comparesBest 13 = .ok (.getfield 311, 3) := by decide +kernel
theorem dX10_comparesBest_16 : decode cX10_comparesBest 16 = .ok (.istore_n 2, 1) := by decide +kernel
theorem dX10_comparesBest_17 : decode cX10_comparesBest 17 = .ok (.aload_n 0, 1) := by decide +kernel
theorem dX10_comparesBest_18 : decode cX10_comparesBest 18 = .ok (.getfield 51, 3) := by decide +kernel
theorem dX10_comparesBest_21 : decode cX10_comparesBest 21 = .ok (.iconst 0, 1) := by decide +kernel
theorem dX10_comparesBest_22 : decode cX10_comparesBest 22 = .ok (.aload_n 0, 1) := by decide +kernel
theorem dX10_comparesBest_23 : decode cX10_comparesBest 23 = .ok (.getfield 57, 3) := by decide +kernel
theorem dX10_comparesBest_26 : decode cX10_comparesBest 26 = .ok (.iconst 0, 1) := by decide +kernel
theorem dX10_comparesBest_27 : decode cX10_comparesBest 27 = .ok (.iload_n 2, 1) := by decide +kernel
theorem dX10_comparesBest_28 : decode cX10_comparesBest 28 = .ok (.iconst 1, 1) := by decide +kernel
theorem dX10_comparesBest_29 : decode cX10_comparesBest 29 = .ok (.iadd, 1) := by decide +kernel
theorem dX10_comparesBest_30 : decode cX10_comparesBest 30 = .ok (.invokestatic 262, 3) := by decide +kernel
theorem dX10_comparesBest_33 : decode cX10_comparesBest 33 = .ok (.istore_n 3, 1) := by decide +kernel
theorem dX10_comparesBest_34 : decode cX10_comparesBest 34 = .ok (.iload_n 3, 1) := by decide +kernel
theorem dX10_comparesBest_35 : decode cX10_comparesBest 35 = .ok (.ifCond .eq 7, 3) := by decide +kernel
theorem dX10_comparesBest_38 : decode cX10_comparesBest 38 = .ok (.iload_n 3, 1) := by decide +kernel
theorem dX10_comparesBest_39 : decode cX10_comparesBest 39 = .ok (.goto 20, 3) := by decide +kernel
theorem dX10_comparesBest_42 : decode cX10_comparesBest 42 = .ok (.aload_n 0, 1) := by decide +kernel
theorem dX10_comparesBest_43 : decode cX10_comparesBest 43 = .ok (.getfield 54, 3) := by decide +kernel
theorem dX10_comparesBest_46 : decode cX10_comparesBest 46 = .ok (.iconst 0, 1) := by decide +kernel
theorem dX10_comparesBest_47 : decode cX10_comparesBest 47 = .ok (.aload_n 0, 1) := by decide +kernel
theorem dX10_comparesBest_48 : decode cX10_comparesBest 48 = .ok (.getfield 60, 3) := by decide +kernel
theorem dX10_comparesBest_51 : decode cX10_comparesBest 51 = .ok (.iconst 0, 1) := by decide +kernel
theorem dX10_comparesBest_52 : decode cX10_comparesBest 52 = .ok (.aload_n 0, 1) := by decide +kernel
theorem dX10_comparesBest_53 : decode cX10_comparesBest 53 = .ok (.invokevirtual 314, 3) := by decide +kernel
theorem dX10_comparesBest_56 : decode cX10_comparesBest 56 = .ok (.invokestatic 262, 3) := by decide +kernel
theorem dX10_comparesBest_59 : decode cX10_comparesBest 59 = .ok (.ireturn, 1) := by decide +kernel
theorem dX10_isBest_0 : decode cX10_isBest 0 = .ok (.aload_n 0, 1) := by decide +kernel
theorem dX10_isBest_1 : decode cX10_isBest 1 = .ok (.iload_n 1, 1) := by decide +kernel
theorem dX10_isBest_2 : decode cX10_isBest 2 = .ok (.putfield 311, 3) := by decide +kernel
theorem dX10_isBest_5 : decode cX10_isBest 5 = .ok (.iconst 0, 1) := by decide +kernel
theorem dX10_isBest_6 : decode cX10_isBest 6 = .ok (.istore_n 2, 1) := by decide +kernel
theorem dX10_isBest_7 : decode cX10_isBest 7 = .ok (.iload_n 2, 1) := by decide +kernel
theorem dX10_isBest_8 : decode cX10_isBest 8 = .ok (.iload_n 1, 1) := by decide +kernel
theorem dX10_isBest_9 : decode cX10_isBest 9 = .ok (.if_icmp .gt 21, 3) := by decide +kernel
theorem dX10_isBest_12 : decode cX10_isBest 12 = .ok (.aload_n 0, 1) := by decide +kernel
theorem dX10_isBest_13 : decode cX10_isBest 13 = .ok (.getfield 57, 3) := by decide +kernel
theorem dX10_isBest_16 : decode cX10_isBest 16 = .ok (.iload_n 2, 1) := by decide +kernel
theorem dX10_isBest_17 : decode cX10_isBest 17 = .ok (.aload_n 0, 1) := by decide +kernel
theorem dX10_isBest_18 : decode cX10_isBest 18 = .ok (.getfield 51, 3) := by decide +kernel
theorem dX10_isBest_21 : decode cX10_isBest 21 = .ok (.iload_n 2, 1) := by decide +kernel
theorem dX10_isBest_22 : decode cX10_isBest 22 = .ok (.iaload, 1) := by decide +kernel
theorem dX10_isBest_23 : decode cX10_isBest 23 = .ok (.iastore, 1) := by decide +kernel
theorem dX10_isBest_24 : decode cX10_isBest 24 = .ok (.iinc 2 1, 3) := by decide +kernel
theorem dX10_isBest_27 : decode cX10_isBest 27 = .ok (.goto (-20), 3) := by decide +kernel
theorem dX10_isBest_30 : decode cX10_isBest 30 = .ok (.iconst 0, 1) := by decide +kernel
theorem dX10_isBest_31 : decode cX10_isBest 31 = .ok (.istore_n 2, 1) := by decide +kernel
theorem dX10_isBest_32 : decode cX10_isBest 32 = .ok (.iload_n 2, 1) := by decide +kernel
theorem dX10_isBest_33 : decode cX10_isBest 33 = .ok (.aload_n 0, 1) := by decide +kernel
theorem dX10_isBest_34 : decode cX10_isBest 34 = .ok (.invokevirtual 314, 3) := by decide +kernel
theorem dX10_isBest_37 : decode cX10_isBest 37 = .ok (.if_icmp .ge 21, 3) := by decide +kernel
theorem dX10_isBest_40 : decode cX10_isBest 40 = .ok (.aload_n 0, 1) := by decide +kernel
theorem dX10_isBest_41 : decode cX10_isBest 41 = .ok (.getfield 60, 3) := by decide +kernel
theorem dX10_isBest_44 : decode cX10_isBest 44 = .ok (.iload_n 2, 1) := by decide +kernel
theorem dX10_isBest_45 : decode cX10_isBest 45 = .ok (.aload_n 0, 1) := by decide +kernel
theorem dX10_isBest_46 : decode cX10_isBest 46 = .ok (.getfield 54, 3) := by decide +kernel
theorem dX10_isBest_49 : decode cX10_isBest 49 = .ok (.iload_n 2, 1) := by decide +kernel
theorem dX10_isBest_50 : decode cX10_isBest 50 = .ok (.iaload, 1) := by decide +kernel
theorem dX10_isBest_51 : decode cX10_isBest 51 = .ok (.iastore, 1) := by decide +kernel
theorem dX10_isBest_52 : decode cX10_isBest 52 = .ok (.iinc 2 1, 3) := by decide +kernel
theorem dX10_isBest_55 : decode cX10_isBest 55 = .ok (.goto (-23), 3) := by decide +kernel
theorem dX10_isBest_58 : decode cX10_isBest 58 = .ok (.iconst 0, 1) := by decide +kernel
theorem dX10_isBest_59 : decode cX10_isBest 59 = .ok (.istore_n 2, 1) := by decide +kernel
theorem dX10_isBest_60 : decode cX10_isBest 60 = .ok (.iload_n 2, 1) := by decide +kernel
theorem dX10_isBest_61 : decode cX10_isBest 61 = .ok (.aload_n 0, 1) := by decide +kernel
theorem dX10_isBest_62 : decode cX10_isBest 62 = .ok (.getfield 256, 3) := by decide +kernel
theorem dX10_isBest_65 : decode cX10_isBest 65 = .ok (.if_icmp .ge 20, 3) := by decide +kernel
theorem dX10_isBest_68 : decode cX10_isBest 68 = .ok (.aload_n 0, 1) := by decide +kernel
theorem dX10_isBest_69 : decode cX10_isBest 69 = .ok (.getfield 63, 3) := by decide +kernel
theorem dX10_isBest_72 : decode cX10_isBest 72 = .ok (.iload_n 2, 1) := by decide +kernel
theorem dX10_isBest_73 : decode cX10_isBest 73 = .ok (.aload_n 0, 1) := by decide +kernel
theorem dX10_isBest_74 : decode cX10_isBest 74 = .ok (.iload_n 2, 1) := by decide +kernel
theorem dX10_isBest_75 : decode cX10_isBest 75 = .ok (.invokevirtual 308, 3) := by decide +kernel
theorem dX10_isBest_78 : decode cX10_isBest 78 = .ok (.iastore, 1) := by decide +kernel
theorem dX10_isBest_79 : decode cX10_isBest 79 = .ok (.iinc 2 1, 3) := by decide +kernel
theorem dX10_isBest_82 : decode cX10_isBest 82 = .ok (.goto (-22), 3) := by decide +kernel
theorem dX10_isBest_85 : decode cX10_isBest 85 = .ok (.return_, 1) := by decide +kernel
theorem dX10_saves_0 : decode cX10_saves 0 = .ok (.iconst 0, 1) := by decide +kernel
theorem dX10_saves_1 : decode cX10_saves 1 = .ok (.istore_n 2, 1) := by decide +kernel
theorem dX10_saves_2 : decode cX10_saves 2 = .ok (.iload_n 2, 1) := by decide +kernel
theorem dX10_saves_3 : decode cX10_saves 3 = .ok (.aload_n 0, 1) := by decide +kernel
theorem dX10_saves_4 : decode cX10_saves 4 = .ok (.getfield 256, 3) := by decide +kernel
theorem dX10_saves_7 : decode cX10_saves 7 = .ok (.if_icmp .ge 26, 3) := by decide +kernel
theorem dX10_saves_10 : decode cX10_saves 10 = .ok (.aload_n 0, 1) := by decide +kernel
theorem dX10_saves_11 : decode cX10_saves 11 = .ok (.getfield 48, 3) := by decide +kernel
theorem dX10_saves_14 : decode cX10_saves 14 = .ok (.bipush 7, 2) := by decide +kernel
theorem dX10_saves_16 : decode cX10_saves 16 = .ok (.iload_n 1, 1) := by decide +kernel
theorem dX10_saves_17 : decode cX10_saves 17 = .ok (.imul, 1) := by decide +kernel
theorem dX10_saves_18 : decode cX10_saves 18 = .ok (.iload_n 2, 1) := by decide +kernel
theorem dX10_saves_19 : decode cX10_saves 19 = .ok (.iadd, 1) := by decide +kernel
theorem dX10_saves_20 : decode cX10_saves 20 = .ok (.aload_n 0, 1) := by decide +kernel
theorem dX10_saves_21 : decode cX10_saves 21 = .ok (.getfield 39, 3) := by decide +kernel
theorem dX10_saves_24 : decode cX10_saves 24 = .ok (.iload_n 2, 1) := by decide +kernel
theorem dX10_saves_25 : decode cX10_saves 25 = .ok (.iaload, 1) := by decide +kernel
theorem dX10_saves_26 : decode cX10_saves 26 = .ok (.iastore, 1) := by decide +kernel
theorem dX10_saves_27 : decode cX10_saves 27 = .ok (.iinc 2 1, 3) := by decide +kernel
theorem dX10_saves_30 : decode cX10_saves 30 = .ok (.goto (-28), 3) := by decide +kernel
theorem dX10_saves_33 : decode cX10_saves 33 = .ok (.return_, 1) := by decide +kernel
theorem dX10_comesBack_0 : decode cX10_comesBack 0 = .ok (.iconst 0, 1) := by decide +kernel
theorem dX10_comesBack_1 : decode cX10_comesBack 1 = .ok (.istore_n 3, 1) := by decide +kernel
theorem dX10_comesBack_2 : decode cX10_comesBack 2 = .ok (.iload_n 3, 1) := by decide +kernel
theorem dX10_comesBack_3 : decode cX10_comesBack 3 = .ok (.aload_n 0, 1) := by decide +kernel
theorem dX10_comesBack_4 : decode cX10_comesBack 4 = .ok (.getfield 256, 3) := by decide +kernel
theorem dX10_comesBack_7 : decode cX10_comesBack 7 = .ok (.if_icmp .ge 26, 3) := by decide +kernel
theorem dX10_comesBack_10 : decode cX10_comesBack 10 = .ok (.aload_n 0, 1) := by decide +kernel
theorem dX10_comesBack_11 : decode cX10_comesBack 11 = .ok (.getfield 39, 3) := by decide +kernel
theorem dX10_comesBack_14 : decode cX10_comesBack 14 = .ok (.iload_n 3, 1) := by decide +kernel
theorem dX10_comesBack_15 : decode cX10_comesBack 15 = .ok (.aload_n 0, 1) := by decide +kernel
theorem dX10_comesBack_16 : decode cX10_comesBack 16 = .ok (.getfield 48, 3) := by decide +kernel
theorem dX10_comesBack_19 : decode cX10_comesBack 19 = .ok (.bipush 7, 2) := by decide +kernel
theorem dX10_comesBack_21 : decode cX10_comesBack 21 = .ok (.iload_n 1, 1) := by decide +kernel
theorem dX10_comesBack_22 : decode cX10_comesBack 22 = .ok (.imul, 1) := by decide +kernel
theorem dX10_comesBack_23 : decode cX10_comesBack 23 = .ok (.iload_n 3, 1) := by decide +kernel
theorem dX10_comesBack_24 : decode cX10_comesBack 24 = .ok (.iadd, 1) := by decide +kernel
theorem dX10_comesBack_25 : decode cX10_comesBack 25 = .ok (.iaload, 1) := by decide +kernel
theorem dX10_comesBack_26 : decode cX10_comesBack 26 = .ok (.iastore, 1) := by decide +kernel
theorem dX10_comesBack_27 : decode cX10_comesBack 27 = .ok (.iinc 3 1, 3) := by decide +kernel
theorem dX10_comesBack_30 : decode cX10_comesBack 30 = .ok (.goto (-28), 3) := by decide +kernel
theorem dX10_comesBack_33 : decode cX10_comesBack 33 = .ok (.aload_n 0, 1) := by decide +kernel
theorem dX10_comesBack_34 : decode cX10_comesBack 34 = .ok (.iload_n 2, 1) := by decide +kernel
theorem dX10_comesBack_35 : decode cX10_comesBack 35 = .ok (.putfield 272, 3) := by decide +kernel
theorem dX10_comesBack_38 : decode cX10_comesBack 38 = .ok (.return_, 1) := by decide +kernel
theorem dX10_walks_0 : decode cX10_walks 0 = .ok (.aload_n 0, 1) := by decide +kernel
theorem dX10_walks_1 : decode cX10_walks 1 = .ok (.dup, 1) := by decide +kernel
theorem dX10_walks_2 : decode cX10_walks 2 = .ok (.getfield 317, 3) := by decide +kernel
theorem dX10_walks_5 : decode cX10_walks 5 = .ok (.iconst 1, 1) := by decide +kernel
theorem dX10_walks_6 : decode cX10_walks 6 = .ok (.iadd, 1) := by decide +kernel
theorem dX10_walks_7 : decode cX10_walks 7 = .ok (.putfield 317, 3) := by decide +kernel
theorem dX10_walks_10 : decode cX10_walks 10 = .ok (.aload_n 0, 1) := by decide +kernel
theorem dX10_walks_11 : decode cX10_walks 11 = .ok (.invokevirtual 287, 3) := by decide +kernel
theorem dX10_walks_14 : decode cX10_walks 14 = .ok (.istore_n 2, 1) := by decide +kernel
theorem dX10_walks_15 : decode cX10_walks 15 = .ok (.iload_n 2, 1) := by decide +kernel
theorem dX10_walks_16 : decode cX10_walks 16 = .ok (.iconst (-1), 1) := by decide +kernel
theorem dX10_walks_17 : decode cX10_walks 17 = .ok (.if_icmp .ne 88, 3) := by decide +kernel
theorem dX10_walks_20 : decode cX10_walks 20 = .ok (.aload_n 0, 1) := by decide +kernel
theorem dX10_walks_21 : decode cX10_walks 21 = .ok (.dup, 1) := by decide +kernel
theorem dX10_walks_22 : decode cX10_walks 22 = .ok (.getfield 320, 3) := by decide +kernel
theorem dX10_walks_25 : decode cX10_walks 25 = .ok (.iconst 1, 1) := by decide +kernel
theorem dX10_walks_26 : decode cX10_walks 26 = .ok (.iadd, 1) := by decide +kernel
theorem dX10_walks_27 : decode cX10_walks 27 = .ok (.putfield 320, 3) := by decide +kernel
theorem dX10_walks_30 : decode cX10_walks 30 = .ok (.aload_n 0, 1) := by decide +kernel
theorem dX10_walks_31 : decode cX10_walks 31 = .ok (.iload_n 1, 1) := by decide +kernel
theorem dX10_walks_32 : decode cX10_walks 32 = .ok (.aload_n 0, 1) := by decide +kernel
theorem dX10_walks_33 : decode cX10_walks 33 = .ok (.getfield 323, 3) := by decide +kernel
theorem dX10_walks_36 : decode cX10_walks 36 = .ok (.if_icmp .le 7, 3) := by decide +kernel
theorem dX10_walks_39 : decode cX10_walks 39 = .ok (.iload_n 1, 1) := by decide +kernel
theorem dX10_walks_40 : decode cX10_walks 40 = .ok (.goto 7, 3) := by decide +kernel
theorem dX10_walks_43 : decode cX10_walks 43 = .ok (.aload_n 0, 1) := by decide +kernel
theorem dX10_walks_44 : decode cX10_walks 44 = .ok (.getfield 323, 3) := by decide +kernel
theorem dX10_walks_47 : decode cX10_walks 47 = .ok (.putfield 323, 3) := by decide +kernel
theorem dX10_walks_50 : decode cX10_walks 50 = .ok (.aload_n 0, 1) := by decide +kernel
theorem dX10_walks_51 : decode cX10_walks 51 = .ok (.invokevirtual 326, 3) := by decide +kernel
theorem dX10_walks_54 : decode cX10_walks 54 = .ok (.aload_n 0, 1) := by decide +kernel
theorem dX10_walks_55 : decode cX10_walks 55 = .ok (.getfield 311, 3) := by decide +kernel
theorem dX10_walks_58 : decode cX10_walks 58 = .ok (.iconst (-1), 1) := by decide +kernel
theorem dX10_walks_59 : decode cX10_walks 59 = .ok (.if_icmp .ne 7, 3) := by decide +kernel
theorem dX10_walks_62 : decode cX10_walks 62 = .ok (.iconst (-1), 1) := by decide +kernel
theorem dX10_walks_63 : decode cX10_walks 63 = .ok (.goto 8, 3) := by decide +kernel
theorem dX10_walks_66 : decode cX10_walks 66 = .ok (.aload_n 0, 1) := by decide +kernel
theorem dX10_walks_67 : decode cX10_walks 67 = .ok (.iload_n 1, 1) := by decide +kernel
theorem dX10_walks_68 : decode cX10_walks 68 = .ok (.invokevirtual 329, 3) := by decide +kernel
theorem dX10_walks_71 : decode cX10_walks 71 = .ok (.istore_n 3, 1) := by decide +kernel
theorem dX10_walks_72 : decode cX10_walks 72 = .ok (.iload_n 3, 1) := by decide +kernel
theorem dX10_walks_73 : decode cX10_walks 73 = .ok (.ifCond .ge 13, 3) := by decide +kernel
theorem dX10_walks_76 : decode cX10_walks 76 = .ok (.aload_n 0, 1) := by decide +kernel
theorem dX10_walks_77 : decode cX10_walks 77 = .ok (.iload_n 1, 1) := by decide +kernel
theorem dX10_walks_78 : decode cX10_walks 78 = .ok (.invokevirtual 332, 3) := by decide +kernel
theorem dX10_walks_81 : decode cX10_walks 81 = .ok (.aload_n 0, 1) := by decide +kernel
theorem dX10_walks_82 : decode cX10_walks 82 = .ok (.iconst 0, 1) := by decide +kernel
theorem dX10_walks_83 : decode cX10_walks 83 = .ok (.putfield 335, 3) := by decide +kernel
theorem dX10_walks_86 : decode cX10_walks 86 = .ok (.aload_n 0, 1) := by decide +kernel
theorem dX10_walks_87 : decode cX10_walks 87 = .ok (.dup, 1) := by decide +kernel
theorem dX10_walks_88 : decode cX10_walks 88 = .ok (.getfield 335, 3) := by decide +kernel
theorem dX10_walks_91 : decode cX10_walks 91 = .ok (.iload_n 3, 1) := by decide +kernel
theorem dX10_walks_92 : decode cX10_walks 92 = .ok (.ifCond .gt 7, 3) := by decide +kernel
theorem dX10_walks_95 : decode cX10_walks 95 = .ok (.iconst 1, 1) := by decide +kernel
theorem dX10_walks_96 : decode cX10_walks 96 = .ok (.goto 4, 3) := by decide +kernel
theorem dX10_walks_99 : decode cX10_walks 99 = .ok (.iconst 0, 1) := by decide +kernel
theorem dX10_walks_100 : decode cX10_walks 100 = .ok (.iadd, 1) := by decide +kernel
theorem dX10_walks_101 : decode cX10_walks 101 = .ok (.putfield 335, 3) := by decide +kernel
theorem dX10_walks_104 : decode cX10_walks 104 = .ok (.return_, 1) := by decide +kernel
theorem dX10_walks_105 : decode cX10_walks 105 = .ok (.aload_n 0, 1) := by decide +kernel
theorem dX10_walks_106 : decode cX10_walks 106 = .ok (.iload_n 2, 1) := by decide +kernel
theorem dX10_walks_107 : decode cX10_walks 107 = .ok (.invokevirtual 290, 3) := by decide +kernel
theorem dX10_walks_110 : decode cX10_walks 110 = .ok (.istore_n 3, 1) := by decide +kernel
theorem dX10_walks_111 : decode cX10_walks 111 = .ok (.aload_n 0, 1) := by decide +kernel
theorem dX10_walks_112 : decode cX10_walks 112 = .ok (.getfield 272, 3) := by decide +kernel
theorem dX10_walks_115 : decode cX10_walks 115 = .ok (.istore 4, 2) := by decide +kernel
theorem dX10_walks_117 : decode cX10_walks 117 = .ok (.aload_n 0, 1) := by decide +kernel
theorem dX10_walks_118 : decode cX10_walks 118 = .ok (.iload_n 1, 1) := by decide +kernel
theorem dX10_walks_119 : decode cX10_walks 119 = .ok (.invokevirtual 338, 3) := by decide +kernel
theorem dX10_walks_122 : decode cX10_walks 122 = .ok (.iconst 0, 1) := by decide +kernel
theorem dX10_walks_123 : decode cX10_walks 123 = .ok (.istore 5, 2) := by decide +kernel
theorem dX10_walks_125 : decode cX10_walks 125 = .ok (.iload 5, 2) := by decide +kernel
theorem dX10_walks_127 : decode cX10_walks 127 = .ok (.aload_n 0, 1) := by decide +kernel
theorem dX10_walks_128 : decode cX10_walks 128 = .ok (.getfield 256, 3) := by decide +kernel
theorem dX10_walks_131 : decode cX10_walks 131 = .ok (.if_icmp .ge 54, 3) := by decide +kernel
theorem dX10_walks_134 : decode cX10_walks 134 = .ok (.iload_n 3, 1) := by decide +kernel
theorem dX10_walks_135 : decode cX10_walks 135 = .ok (.iload 5, 2) := by decide +kernel
theorem dX10_walks_137 : decode cX10_walks 137 = .ok (.invokestatic 182, 3) := by decide +kernel
theorem dX10_walks_140 : decode cX10_walks 140 = .ok (.ifCond .eq 39, 3) := by decide +kernel
theorem dX10_walks_143 : decode cX10_walks 143 = .ok (.aload_n 0, 1) := by decide +kernel
theorem dX10_walks_144 : decode cX10_walks 144 = .ok (.iload 5, 2) := by decide +kernel
theorem dX10_walks_146 : decode cX10_walks 146 = .ok (.invokevirtual 296, 3) := by decide +kernel
theorem dX10_walks_149 : decode cX10_walks 149 = .ok (.aload_n 0, 1) := by decide +kernel
theorem dX10_walks_150 : decode cX10_walks 150 = .ok (.getfield 51, 3) := by decide +kernel
theorem dX10_walks_153 : decode cX10_walks 153 = .ok (.iload_n 1, 1) := by decide +kernel
theorem dX10_walks_154 : decode cX10_walks 154 = .ok (.iconst 1, 1) := by decide +kernel
theorem dX10_walks_155 : decode cX10_walks 155 = .ok (.iadd, 1) := by decide +kernel
theorem dX10_walks_156 : decode cX10_walks 156 = .ok (.aload_n 0, 1) := by decide +kernel
theorem dX10_walks_157 : decode cX10_walks 157 = .ok (.aload_n 0, 1) := by decide +kernel
theorem dX10_walks_158 : decode cX10_walks 158 = .ok (.invokevirtual 284, 3) := by decide +kernel
theorem dX10_walks_161 : decode cX10_walks 161 = .ok (.invokevirtual 299, 3) := by decide +kernel
theorem dX10_walks_164 : decode cX10_walks 164 = .ok (.iastore, 1) := by decide +kernel
theorem dX10_walks_165 : decode cX10_walks 165 = .ok (.aload_n 0, 1) := by decide +kernel
theorem dX10_walks_166 : decode cX10_walks 166 = .ok (.iload_n 1, 1) := by decide +kernel
theorem dX10_walks_167 : decode cX10_walks 167 = .ok (.iconst 1, 1) := by decide +kernel
theorem dX10_walks_168 : decode cX10_walks 168 = .ok (.iadd, 1) := by decide +kernel
theorem dX10_walks_169 : decode cX10_walks 169 = .ok (.invokevirtual 341, 3) := by decide +kernel
theorem dX10_walks_172 : decode cX10_walks 172 = .ok (.aload_n 0, 1) := by decide +kernel
theorem dX10_walks_173 : decode cX10_walks 173 = .ok (.iload_n 1, 1) := by decide +kernel
theorem dX10_walks_174 : decode cX10_walks 174 = .ok (.iload 4, 2) := by decide +kernel
theorem dX10_walks_176 : decode cX10_walks 176 = .ok (.invokevirtual 344, 3) := by decide +kernel
theorem dX10_walks_179 : decode cX10_walks 179 = .ok (.iinc 5 1, 3) := by decide +kernel
theorem dX10_walks_182 : decode cX10_walks 182 = .ok (.goto (-57), 3) := by decide +kernel
theorem dX10_walks_185 : decode cX10_walks 185 = .ok (.return_, 1) := by decide +kernel
theorem dX10_walksAll_0 : decode cX10_walksAll 0 = .ok (.aload_n 0, 1) := by decide +kernel
theorem dX10_walksAll_1 : decode cX10_walksAll 1 = .ok (.iconst 0, 1) := by decide +kernel
theorem dX10_walksAll_2 : decode cX10_walksAll 2 = .ok (.putfield 317, 3) := by decide +kernel
theorem dX10_walksAll_5 : decode cX10_walksAll 5 = .ok (.aload_n 0, 1) := by decide +kernel
theorem dX10_walksAll_6 : decode cX10_walksAll 6 = .ok (.iconst 0, 1) := by decide +kernel
theorem dX10_walksAll_7 : decode cX10_walksAll 7 = .ok (.putfield 320, 3) := by decide +kernel
theorem dX10_walksAll_10 : decode cX10_walksAll 10 = .ok (.aload_n 0, 1) := by decide +kernel
theorem dX10_walksAll_11 : decode cX10_walksAll 11 = .ok (.iconst 0, 1) := by decide +kernel
theorem dX10_walksAll_12 : decode cX10_walksAll 12 = .ok (.putfield 323, 3) := by decide +kernel
theorem dX10_walksAll_15 : decode cX10_walksAll 15 = .ok (.aload_n 0, 1) := by decide +kernel
theorem dX10_walksAll_16 : decode cX10_walksAll 16 = .ok (.iconst 0, 1) := by decide +kernel
theorem dX10_walksAll_17 : decode cX10_walksAll 17 = .ok (.putfield 335, 3) := by decide +kernel
theorem dX10_walksAll_20 : decode cX10_walksAll 20 = .ok (.aload_n 0, 1) := by decide +kernel
theorem dX10_walksAll_21 : decode cX10_walksAll 21 = .ok (.iconst (-1), 1) := by decide +kernel
theorem dX10_walksAll_22 : decode cX10_walksAll 22 = .ok (.putfield 311, 3) := by decide +kernel
theorem dX10_walksAll_25 : decode cX10_walksAll 25 = .ok (.aload_n 0, 1) := by decide +kernel
theorem dX10_walksAll_26 : decode cX10_walksAll 26 = .ok (.getfield 51, 3) := by decide +kernel
theorem dX10_walksAll_29 : decode cX10_walksAll 29 = .ok (.iconst 0, 1) := by decide +kernel
theorem dX10_walksAll_30 : decode cX10_walksAll 30 = .ok (.aload_n 0, 1) := by decide +kernel
theorem dX10_walksAll_31 : decode cX10_walksAll 31 = .ok (.aload_n 0, 1) := by decide +kernel
theorem dX10_walksAll_32 : decode cX10_walksAll 32 = .ok (.invokevirtual 293, 3) := by decide +kernel
theorem dX10_walksAll_35 : decode cX10_walksAll 35 = .ok (.invokevirtual 299, 3) := by decide +kernel
theorem dX10_walksAll_38 : decode cX10_walksAll 38 = .ok (.iastore, 1) := by decide +kernel
theorem dX10_walksAll_39 : decode cX10_walksAll 39 = .ok (.aload_n 0, 1) := by decide +kernel
theorem dX10_walksAll_40 : decode cX10_walksAll 40 = .ok (.iconst 0, 1) := by decide +kernel
theorem dX10_walksAll_41 : decode cX10_walksAll 41 = .ok (.invokevirtual 341, 3) := by decide +kernel
theorem dX10_walksAll_44 : decode cX10_walksAll 44 = .ok (.return_, 1) := by decide +kernel
theorem dX10_tree_0 : decode cX10_tree 0 = .ok (.aload_n 0, 1) := by decide +kernel
theorem dX10_tree_1 : decode cX10_tree 1 = .ok (.invokevirtual 215, 3) := by decide +kernel
theorem dX10_tree_4 : decode cX10_tree 4 = .ok (.aload_n 0, 1) := by decide +kernel
theorem dX10_tree_5 : decode cX10_tree 5 = .ok (.iload_n 1, 1) := by decide +kernel
theorem dX10_tree_6 : decode cX10_tree 6 = .ok (.invokestatic 218, 3) := by decide +kernel
theorem dX10_tree_9 : decode cX10_tree 9 = .ok (.ifCond .eq 12, 3) := by decide +kernel
theorem dX10_tree_12 : decode cX10_tree 12 = .ok (.iload_n 2, 1) := by decide +kernel
theorem dX10_tree_13 : decode cX10_tree 13 = .ok (.iconst 0, 1) := by decide +kernel
theorem dX10_tree_14 : decode cX10_tree 14 = .ok (.iconst 4, 1) := by decide +kernel
theorem dX10_tree_15 : decode cX10_tree 15 = .ok (.invokestatic 156, 3) := by decide +kernel
theorem dX10_tree_18 : decode cX10_tree 18 = .ok (.ifCond .ne 7, 3) := by decide +kernel
theorem dX10_tree_21 : decode cX10_tree 21 = .ok (.iconst 1, 1) := by decide +kernel
theorem dX10_tree_22 : decode cX10_tree 22 = .ok (.goto 4, 3) := by decide +kernel
theorem dX10_tree_25 : decode cX10_tree 25 = .ok (.iconst 0, 1) := by decide +kernel
theorem dX10_tree_26 : decode cX10_tree 26 = .ok (.iconst 1, 1) := by decide +kernel
theorem dX10_tree_27 : decode cX10_tree 27 = .ok (.invokevirtual 221, 3) := by decide +kernel
theorem dX10_tree_30 : decode cX10_tree 30 = .ok (.ifCond .eq 5, 3) := by decide +kernel
theorem dX10_tree_33 : decode cX10_tree 33 = .ok (.iconst (-1), 1) := by decide +kernel
theorem dX10_tree_34 : decode cX10_tree 34 = .ok (.ireturn, 1) := by decide +kernel
theorem dX10_tree_35 : decode cX10_tree 35 = .ok (.aload_n 0, 1) := by decide +kernel
theorem dX10_tree_36 : decode cX10_tree 36 = .ok (.iload_n 1, 1) := by decide +kernel
theorem dX10_tree_37 : decode cX10_tree 37 = .ok (.invokevirtual 259, 3) := by decide +kernel
theorem dX10_tree_40 : decode cX10_tree 40 = .ok (.aload_n 0, 1) := by decide +kernel
theorem dX10_tree_41 : decode cX10_tree 41 = .ok (.invokevirtual 348, 3) := by decide +kernel
theorem dX10_tree_44 : decode cX10_tree 44 = .ok (.iload_n 2, 1) := by decide +kernel
theorem dX10_tree_45 : decode cX10_tree 45 = .ok (.tableswitch 53 0 3 #[31, 36, 41, 46], 31) := by decide +kernel
theorem dX10_tree_76 : decode cX10_tree 76 = .ok (.aload_n 0, 1) := by decide +kernel
theorem dX10_tree_77 : decode cX10_tree 77 = .ok (.getfield 317, 3) := by decide +kernel
theorem dX10_tree_80 : decode cX10_tree 80 = .ok (.ireturn, 1) := by decide +kernel
theorem dX10_tree_81 : decode cX10_tree 81 = .ok (.aload_n 0, 1) := by decide +kernel
theorem dX10_tree_82 : decode cX10_tree 82 = .ok (.getfield 320, 3) := by decide +kernel
theorem dX10_tree_85 : decode cX10_tree 85 = .ok (.ireturn, 1) := by decide +kernel
theorem dX10_tree_86 : decode cX10_tree 86 = .ok (.aload_n 0, 1) := by decide +kernel
theorem dX10_tree_87 : decode cX10_tree 87 = .ok (.getfield 323, 3) := by decide +kernel
theorem dX10_tree_90 : decode cX10_tree 90 = .ok (.ireturn, 1) := by decide +kernel
theorem dX10_tree_91 : decode cX10_tree 91 = .ok (.aload_n 0, 1) := by decide +kernel
theorem dX10_tree_92 : decode cX10_tree 92 = .ok (.getfield 51, 3) := by decide +kernel
theorem dX10_tree_95 : decode cX10_tree 95 = .ok (.iconst 0, 1) := by decide +kernel
theorem dX10_tree_96 : decode cX10_tree 96 = .ok (.iaload, 1) := by decide +kernel
theorem dX10_tree_97 : decode cX10_tree 97 = .ok (.ireturn, 1) := by decide +kernel
theorem dX10_tree_98 : decode cX10_tree 98 = .ok (.aload_n 0, 1) := by decide +kernel
theorem dX10_tree_99 : decode cX10_tree 99 = .ok (.getfield 335, 3) := by decide +kernel
theorem dX10_tree_102 : decode cX10_tree 102 = .ok (.ireturn, 1) := by decide +kernel
theorem dX10_name_0 : decode cX10_name 0 = .ok (.aload_n 0, 1) := by decide +kernel
theorem dX10_name_1 : decode cX10_name 1 = .ok (.invokevirtual 215, 3) := by decide +kernel
theorem dX10_name_4 : decode cX10_name 4 = .ok (.aload_n 0, 1) := by decide +kernel
theorem dX10_name_5 : decode cX10_name 5 = .ok (.iload_n 1, 1) := by decide +kernel
theorem dX10_name_6 : decode cX10_name 6 = .ok (.invokestatic 218, 3) := by decide +kernel
theorem dX10_name_9 : decode cX10_name 9 = .ok (.ifCond .ne 7, 3) := by decide +kernel
theorem dX10_name_12 : decode cX10_name 12 = .ok (.iconst 1, 1) := by decide +kernel
theorem dX10_name_13 : decode cX10_name 13 = .ok (.goto 4, 3) := by decide +kernel
theorem dX10_name_16 : decode cX10_name 16 = .ok (.iconst 0, 1) := by decide +kernel
theorem dX10_name_17 : decode cX10_name 17 = .ok (.iconst 1, 1) := by decide +kernel
theorem dX10_name_18 : decode cX10_name 18 = .ok (.invokevirtual 221, 3) := by decide +kernel
theorem dX10_name_21 : decode cX10_name 21 = .ok (.ifCond .eq 5, 3) := by decide +kernel
theorem dX10_name_24 : decode cX10_name 24 = .ok (.iconst (-1), 1) := by decide +kernel
theorem dX10_name_25 : decode cX10_name 25 = .ok (.ireturn, 1) := by decide +kernel
theorem dX10_name_26 : decode cX10_name 26 = .ok (.aload_n 0, 1) := by decide +kernel
theorem dX10_name_27 : decode cX10_name 27 = .ok (.iload_n 1, 1) := by decide +kernel
theorem dX10_name_28 : decode cX10_name 28 = .ok (.invokevirtual 259, 3) := by decide +kernel
theorem dX10_name_31 : decode cX10_name 31 = .ok (.aload_n 0, 1) := by decide +kernel
theorem dX10_name_32 : decode cX10_name 32 = .ok (.iload_n 2, 1) := by decide +kernel
theorem dX10_name_33 : decode cX10_name 33 = .ok (.iconst 0, 1) := by decide +kernel
theorem dX10_name_34 : decode cX10_name 34 = .ok (.aload_n 0, 1) := by decide +kernel
theorem dX10_name_35 : decode cX10_name 35 = .ok (.invokevirtual 314, 3) := by decide +kernel
theorem dX10_name_38 : decode cX10_name 38 = .ok (.iconst 1, 1) := by decide +kernel
theorem dX10_name_39 : decode cX10_name 39 = .ok (.isub, 1) := by decide +kernel
theorem dX10_name_40 : decode cX10_name 40 = .ok (.invokestatic 156, 3) := by decide +kernel
theorem dX10_name_43 : decode cX10_name 43 = .ok (.ifCond .ne 7, 3) := by decide +kernel
theorem dX10_name_46 : decode cX10_name 46 = .ok (.iconst 1, 1) := by decide +kernel
theorem dX10_name_47 : decode cX10_name 47 = .ok (.goto 4, 3) := by decide +kernel
theorem dX10_name_50 : decode cX10_name 50 = .ok (.iconst 0, 1) := by decide +kernel
theorem dX10_name_51 : decode cX10_name 51 = .ok (.bipush 6, 2) := by decide +kernel
theorem dX10_name_53 : decode cX10_name 53 = .ok (.invokevirtual 221, 3) := by decide +kernel
theorem dX10_name_56 : decode cX10_name 56 = .ok (.ifCond .eq 5, 3) := by decide +kernel
theorem dX10_name_59 : decode cX10_name 59 = .ok (.iconst (-1), 1) := by decide +kernel
theorem dX10_name_60 : decode cX10_name 60 = .ok (.ireturn, 1) := by decide +kernel
theorem dX10_name_61 : decode cX10_name 61 = .ok (.aload_n 0, 1) := by decide +kernel
theorem dX10_name_62 : decode cX10_name 62 = .ok (.invokevirtual 348, 3) := by decide +kernel
theorem dX10_name_65 : decode cX10_name 65 = .ok (.aload_n 0, 1) := by decide +kernel
theorem dX10_name_66 : decode cX10_name 66 = .ok (.getfield 60, 3) := by decide +kernel
theorem dX10_name_69 : decode cX10_name 69 = .ok (.iload_n 2, 1) := by decide +kernel
theorem dX10_name_70 : decode cX10_name 70 = .ok (.iaload, 1) := by decide +kernel
theorem dX10_name_71 : decode cX10_name 71 = .ok (.ireturn, 1) := by decide +kernel
theorem dX10_place_0 : decode cX10_place 0 = .ok (.aload_n 0, 1) := by decide +kernel
theorem dX10_place_1 : decode cX10_place 1 = .ok (.invokevirtual 215, 3) := by decide +kernel
theorem dX10_place_4 : decode cX10_place 4 = .ok (.aload_n 0, 1) := by decide +kernel
theorem dX10_place_5 : decode cX10_place 5 = .ok (.iload_n 1, 1) := by decide +kernel
theorem dX10_place_6 : decode cX10_place 6 = .ok (.invokestatic 218, 3) := by decide +kernel
theorem dX10_place_9 : decode cX10_place 9 = .ok (.ifCond .ne 7, 3) := by decide +kernel
theorem dX10_place_12 : decode cX10_place 12 = .ok (.iconst 1, 1) := by decide +kernel
theorem dX10_place_13 : decode cX10_place 13 = .ok (.goto 4, 3) := by decide +kernel
theorem dX10_place_16 : decode cX10_place 16 = .ok (.iconst 0, 1) := by decide +kernel
theorem dX10_place_17 : decode cX10_place 17 = .ok (.iconst 1, 1) := by decide +kernel
theorem dX10_place_18 : decode cX10_place 18 = .ok (.invokevirtual 221, 3) := by decide +kernel
theorem dX10_place_21 : decode cX10_place 21 = .ok (.ifCond .ne 32, 3) := by decide +kernel
theorem dX10_place_24 : decode cX10_place 24 = .ok (.aload_n 0, 1) := by decide +kernel
theorem dX10_place_25 : decode cX10_place 25 = .ok (.iload_n 2, 1) := by decide +kernel
theorem dX10_place_26 : decode cX10_place 26 = .ok (.iconst 0, 1) := by decide +kernel
theorem dX10_place_27 : decode cX10_place 27 = .ok (.aload_n 0, 1) := by decide +kernel
theorem dX10_place_28 : decode cX10_place 28 = .ok (.iload_n 1, 1) := by decide +kernel
theorem dX10_place_29 : decode cX10_place 29 = .ok (.invokevirtual 231, 3) := by decide +kernel
theorem dX10_place_32 : decode cX10_place 32 = .ok (.iconst 1, 1) := by decide +kernel
theorem dX10_place_33 : decode cX10_place 33 = .ok (.isub, 1) := by decide +kernel
theorem dX10_place_34 : decode cX10_place 34 = .ok (.invokestatic 156, 3) := by decide +kernel
theorem dX10_place_37 : decode cX10_place 37 = .ok (.ifCond .ne 7, 3) := by decide +kernel
theorem dX10_place_40 : decode cX10_place 40 = .ok (.iconst 1, 1) := by decide +kernel
theorem dX10_place_41 : decode cX10_place 41 = .ok (.goto 4, 3) := by decide +kernel
theorem dX10_place_44 : decode cX10_place 44 = .ok (.iconst 0, 1) := by decide +kernel
theorem dX10_place_45 : decode cX10_place 45 = .ok (.bipush 6, 2) := by decide +kernel
theorem dX10_place_47 : decode cX10_place 47 = .ok (.invokevirtual 221, 3) := by decide +kernel
theorem dX10_place_50 : decode cX10_place 50 = .ok (.ifCond .eq 5, 3) := by decide +kernel
theorem dX10_place_53 : decode cX10_place 53 = .ok (.iconst (-1), 1) := by decide +kernel
theorem dX10_place_54 : decode cX10_place 54 = .ok (.ireturn, 1) := by decide +kernel
theorem dX10_place_55 : decode cX10_place 55 = .ok (.aload_n 0, 1) := by decide +kernel
theorem dX10_place_56 : decode cX10_place 56 = .ok (.iload_n 1, 1) := by decide +kernel
theorem dX10_place_57 : decode cX10_place 57 = .ok (.invokevirtual 259, 3) := by decide +kernel
theorem dX10_place_60 : decode cX10_place 60 = .ok (.aload_n 0, 1) := by decide +kernel
theorem dX10_place_61 : decode cX10_place 61 = .ok (.invokevirtual 348, 3) := by decide +kernel
theorem dX10_place_64 : decode cX10_place 64 = .ok (.aload_n 0, 1) := by decide +kernel
theorem dX10_place_65 : decode cX10_place 65 = .ok (.getfield 63, 3) := by decide +kernel
theorem dX10_place_68 : decode cX10_place 68 = .ok (.iload_n 2, 1) := by decide +kernel
theorem dX10_place_69 : decode cX10_place 69 = .ok (.iaload, 1) := by decide +kernel
theorem dX10_place_70 : decode cX10_place 70 = .ok (.ireturn, 1) := by decide +kernel
theorem dX10_keepsName_0 : decode cX10_keepsName 0 = .ok (.aload_n 0, 1) := by decide +kernel
theorem dX10_keepsName_1 : decode cX10_keepsName 1 = .ok (.invokevirtual 348, 3) := by decide +kernel
theorem dX10_keepsName_4 : decode cX10_keepsName 4 = .ok (.iconst 0, 1) := by decide +kernel
theorem dX10_keepsName_5 : decode cX10_keepsName 5 = .ok (.istore_n 2, 1) := by decide +kernel
theorem dX10_keepsName_6 : decode cX10_keepsName 6 = .ok (.iload_n 2, 1) := by decide +kernel
theorem dX10_keepsName_7 : decode cX10_keepsName 7 = .ok (.bipush 28, 2) := by decide +kernel
theorem dX10_keepsName_9 : decode cX10_keepsName 9 = .ok (.if_icmp .ge 38, 3) := by decide +kernel
theorem dX10_keepsName_12 : decode cX10_keepsName 12 = .ok (.aload_n 0, 1) := by decide +kernel
theorem dX10_keepsName_13 : decode cX10_keepsName 13 = .ok (.getfield 66, 3) := by decide +kernel
theorem dX10_keepsName_16 : decode cX10_keepsName 16 = .ok (.bipush 28, 2) := by decide +kernel
theorem dX10_keepsName_18 : decode cX10_keepsName 18 = .ok (.iload_n 1, 1) := by decide +kernel
theorem dX10_keepsName_19 : decode cX10_keepsName 19 = .ok (.imul, 1) := by decide +kernel
theorem dX10_keepsName_20 : decode cX10_keepsName 20 = .ok (.iload_n 2, 1) := by decide +kernel
theorem dX10_keepsName_21 : decode cX10_keepsName 21 = .ok (.iadd, 1) := by decide +kernel
theorem dX10_keepsName_22 : decode cX10_keepsName 22 = .ok (.iload_n 2, 1) := by decide +kernel
theorem dX10_keepsName_23 : decode cX10_keepsName 23 = .ok (.aload_n 0, 1) := by decide +kernel
theorem dX10_keepsName_24 : decode cX10_keepsName 24 = .ok (.invokevirtual 314, 3) := by decide +kernel
theorem dX10_keepsName_27 : decode cX10_keepsName 27 = .ok (.if_icmp .ge 12, 3) := by decide +kernel
theorem dX10_keepsName_30 : decode cX10_keepsName 30 = .ok (.aload_n 0, 1) := by decide +kernel
theorem dX10_keepsName_31 : decode cX10_keepsName 31 = .ok (.getfield 60, 3) := by decide +kernel
theorem dX10_keepsName_34 : decode cX10_keepsName 34 = .ok (.iload_n 2, 1) := by decide +kernel
theorem dX10_keepsName_35 : decode cX10_keepsName 35 = .ok (.iaload, 1) := by decide +kernel
theorem dX10_keepsName_36 : decode cX10_keepsName 36 = .ok (.goto 4, 3) := by decide +kernel
theorem dX10_keepsName_39 : decode cX10_keepsName 39 = .ok (.iconst 0, 1) := by decide +kernel
theorem dX10_keepsName_40 : decode cX10_keepsName 40 = .ok (.iastore, 1) := by decide +kernel
theorem dX10_keepsName_41 : decode cX10_keepsName 41 = .ok (.iinc 2 1, 3) := by decide +kernel
theorem dX10_keepsName_44 : decode cX10_keepsName 44 = .ok (.goto (-38), 3) := by decide +kernel
theorem dX10_keepsName_47 : decode cX10_keepsName 47 = .ok (.return_, 1) := by decide +kernel
theorem dX10_less_0 : decode cX10_less 0 = .ok (.aload_n 0, 1) := by decide +kernel
theorem dX10_less_1 : decode cX10_less 1 = .ok (.invokevirtual 215, 3) := by decide +kernel
theorem dX10_less_4 : decode cX10_less 4 = .ok (.aload_n 0, 1) := by decide +kernel
theorem dX10_less_5 : decode cX10_less 5 = .ok (.iload_n 1, 1) := by decide +kernel
theorem dX10_less_6 : decode cX10_less 6 = .ok (.invokestatic 218, 3) := by decide +kernel
theorem dX10_less_9 : decode cX10_less 9 = .ok (.ifCond .eq 10, 3) := by decide +kernel
theorem dX10_less_12 : decode cX10_less 12 = .ok (.iload_n 2, 1) := by decide +kernel
theorem dX10_less_13 : decode cX10_less 13 = .ok (.invokestatic 218, 3) := by decide +kernel
theorem dX10_less_16 : decode cX10_less 16 = .ok (.ifCond .ne 7, 3) := by decide +kernel
theorem dX10_less_19 : decode cX10_less 19 = .ok (.iconst 1, 1) := by decide +kernel
theorem dX10_less_20 : decode cX10_less 20 = .ok (.goto 4, 3) := by decide +kernel
theorem dX10_less_23 : decode cX10_less 23 = .ok (.iconst 0, 1) := by decide +kernel
theorem dX10_less_24 : decode cX10_less 24 = .ok (.iconst 1, 1) := by decide +kernel
theorem dX10_less_25 : decode cX10_less 25 = .ok (.invokevirtual 221, 3) := by decide +kernel
theorem dX10_less_28 : decode cX10_less 28 = .ok (.ifCond .eq 5, 3) := by decide +kernel
theorem dX10_less_31 : decode cX10_less 31 = .ok (.iconst (-1), 1) := by decide +kernel
theorem dX10_less_32 : decode cX10_less 32 = .ok (.ireturn, 1) := by decide +kernel
theorem dX10_less_33 : decode cX10_less 33 = .ok (.aload_n 0, 1) := by decide +kernel
theorem dX10_less_34 : decode cX10_less 34 = .ok (.iload_n 1, 1) := by decide +kernel
theorem dX10_less_35 : decode cX10_less 35 = .ok (.invokevirtual 231, 3) := by decide +kernel
theorem dX10_less_38 : decode cX10_less 38 = .ok (.aload_n 0, 1) := by decide +kernel
theorem dX10_less_39 : decode cX10_less 39 = .ok (.iload_n 2, 1) := by decide +kernel
theorem dX10_less_40 : decode cX10_less 40 = .ok (.invokevirtual 231, 3) := by decide +kernel
theorem dX10_less_43 : decode cX10_less 43 = .ok (.if_icmp .eq 22, 3) := by decide +kernel
theorem dX10_less_46 : decode cX10_less 46 = .ok (.aload_n 0, 1) := by decide +kernel
theorem dX10_less_47 : decode cX10_less 47 = .ok (.iload_n 1, 1) := by decide +kernel
theorem dX10_less_48 : decode cX10_less 48 = .ok (.invokevirtual 231, 3) := by decide +kernel
theorem dX10_less_51 : decode cX10_less 51 = .ok (.aload_n 0, 1) := by decide +kernel
theorem dX10_less_52 : decode cX10_less 52 = .ok (.iload_n 2, 1) := by decide +kernel
theorem dX10_less_53 : decode cX10_less 53 = .ok (.invokevirtual 231, 3) := by decide +kernel
theorem dX10_less_56 : decode cX10_less 56 = .ok (.if_icmp .ge 7, 3) := by decide +kernel
theorem dX10_less_59 : decode cX10_less 59 = .ok (.iconst 0, 1) := by decide +kernel
theorem dX10_less_60 : decode cX10_less 60 = .ok (.goto 4, 3) := by decide +kernel
theorem dX10_less_63 : decode cX10_less 63 = .ok (.iconst 1, 1) := by decide +kernel
theorem dX10_less_64 : decode cX10_less 64 = .ok (.ireturn, 1) := by decide +kernel
theorem dX10_less_65 : decode cX10_less 65 = .ok (.aload_n 0, 1) := by decide +kernel
theorem dX10_less_66 : decode cX10_less 66 = .ok (.iload_n 1, 1) := by decide +kernel
theorem dX10_less_67 : decode cX10_less 67 = .ok (.invokevirtual 259, 3) := by decide +kernel
theorem dX10_less_70 : decode cX10_less 70 = .ok (.aload_n 0, 1) := by decide +kernel
theorem dX10_less_71 : decode cX10_less 71 = .ok (.iconst 0, 1) := by decide +kernel
theorem dX10_less_72 : decode cX10_less 72 = .ok (.invokevirtual 351, 3) := by decide +kernel
theorem dX10_less_75 : decode cX10_less 75 = .ok (.aload_n 0, 1) := by decide +kernel
theorem dX10_less_76 : decode cX10_less 76 = .ok (.iload_n 2, 1) := by decide +kernel
theorem dX10_less_77 : decode cX10_less 77 = .ok (.invokevirtual 259, 3) := by decide +kernel
theorem dX10_less_80 : decode cX10_less 80 = .ok (.aload_n 0, 1) := by decide +kernel
theorem dX10_less_81 : decode cX10_less 81 = .ok (.iconst 1, 1) := by decide +kernel
theorem dX10_less_82 : decode cX10_less 82 = .ok (.invokevirtual 351, 3) := by decide +kernel
theorem dX10_less_85 : decode cX10_less 85 = .ok (.aload_n 0, 1) := by decide +kernel
theorem dX10_less_86 : decode cX10_less 86 = .ok (.getfield 66, 3) := by decide +kernel
theorem dX10_less_89 : decode cX10_less 89 = .ok (.iconst 0, 1) := by decide +kernel
theorem dX10_less_90 : decode cX10_less 90 = .ok (.aload_n 0, 1) := by decide +kernel
theorem dX10_less_91 : decode cX10_less 91 = .ok (.getfield 66, 3) := by decide +kernel
theorem dX10_less_94 : decode cX10_less 94 = .ok (.bipush 28, 2) := by decide +kernel
theorem dX10_less_96 : decode cX10_less 96 = .ok (.bipush 28, 2) := by decide +kernel
theorem dX10_less_98 : decode cX10_less 98 = .ok (.invokestatic 262, 3) := by decide +kernel
theorem dX10_less_101 : decode cX10_less 101 = .ok (.istore_n 3, 1) := by decide +kernel
theorem dX10_less_102 : decode cX10_less 102 = .ok (.iload_n 3, 1) := by decide +kernel
theorem dX10_less_103 : decode cX10_less 103 = .ok (.ifCond .ge 7, 3) := by decide +kernel
theorem dX10_less_106 : decode cX10_less 106 = .ok (.iconst 0, 1) := by decide +kernel
theorem dX10_less_107 : decode cX10_less 107 = .ok (.goto 12, 3) := by decide +kernel
theorem dX10_less_110 : decode cX10_less 110 = .ok (.iload_n 3, 1) := by decide +kernel
theorem dX10_less_111 : decode cX10_less 111 = .ok (.ifCond .le 7, 3) := by decide +kernel
theorem dX10_less_114 : decode cX10_less 114 = .ok (.iconst 1, 1) := by decide +kernel
theorem dX10_less_115 : decode cX10_less 115 = .ok (.goto 4, 3) := by decide +kernel
theorem dX10_less_118 : decode cX10_less 118 = .ok (.iconst 2, 1) := by decide +kernel
theorem dX10_less_119 : decode cX10_less 119 = .ok (.ireturn, 1) := by decide +kernel
theorem dX10_isLikeFirst_0 : decode cX10_isLikeFirst 0 = .ok (.iload_n 1, 1) := by decide +kernel
theorem dX10_isLikeFirst_1 : decode cX10_isLikeFirst 1 = .ok (.aload_n 0, 1) := by decide +kernel
theorem dX10_isLikeFirst_2 : decode cX10_isLikeFirst 2 = .ok (.getfield 354, 3) := by decide +kernel
theorem dX10_isLikeFirst_5 : decode cX10_isLikeFirst 5 = .ok (.if_icmp .ne 46, 3) := by decide +kernel
theorem dX10_isLikeFirst_8 : decode cX10_isLikeFirst 8 = .ok (.aload_n 0, 1) := by decide +kernel
theorem dX10_isLikeFirst_9 : decode cX10_isLikeFirst 9 = .ok (.getfield 51, 3) := by decide +kernel
theorem dX10_isLikeFirst_12 : decode cX10_isLikeFirst 12 = .ok (.iconst 0, 1) := by decide +kernel
theorem dX10_isLikeFirst_13 : decode cX10_isLikeFirst 13 = .ok (.aload_n 0, 1) := by decide +kernel
theorem dX10_isLikeFirst_14 : decode cX10_isLikeFirst 14 = .ok (.getfield 72, 3) := by decide +kernel
theorem dX10_isLikeFirst_17 : decode cX10_isLikeFirst 17 = .ok (.iconst 0, 1) := by decide +kernel
theorem dX10_isLikeFirst_18 : decode cX10_isLikeFirst 18 = .ok (.iload_n 1, 1) := by decide +kernel
theorem dX10_isLikeFirst_19 : decode cX10_isLikeFirst 19 = .ok (.iconst 1, 1) := by decide +kernel
theorem dX10_isLikeFirst_20 : decode cX10_isLikeFirst 20 = .ok (.iadd, 1) := by decide +kernel
theorem dX10_isLikeFirst_21 : decode cX10_isLikeFirst 21 = .ok (.invokestatic 262, 3) := by decide +kernel
theorem dX10_isLikeFirst_24 : decode cX10_isLikeFirst 24 = .ok (.ifCond .ne 27, 3) := by decide +kernel
theorem dX10_isLikeFirst_27 : decode cX10_isLikeFirst 27 = .ok (.aload_n 0, 1) := by decide +kernel
theorem dX10_isLikeFirst_28 : decode cX10_isLikeFirst 28 = .ok (.getfield 54, 3) := by decide +kernel
theorem dX10_isLikeFirst_31 : decode cX10_isLikeFirst 31 = .ok (.iconst 0, 1) := by decide +kernel
theorem dX10_isLikeFirst_32 : decode cX10_isLikeFirst 32 = .ok (.aload_n 0, 1) := by decide +kernel
theorem dX10_isLikeFirst_33 : decode cX10_isLikeFirst 33 = .ok (.getfield 75, 3) := by decide +kernel
theorem dX10_isLikeFirst_36 : decode cX10_isLikeFirst 36 = .ok (.iconst 0, 1) := by decide +kernel
theorem dX10_isLikeFirst_37 : decode cX10_isLikeFirst 37 = .ok (.aload_n 0, 1) := by decide +kernel
theorem dX10_isLikeFirst_38 : decode cX10_isLikeFirst 38 = .ok (.invokevirtual 314, 3) := by decide +kernel
theorem dX10_isLikeFirst_41 : decode cX10_isLikeFirst 41 = .ok (.invokestatic 262, 3) := by decide +kernel
theorem dX10_isLikeFirst_44 : decode cX10_isLikeFirst 44 = .ok (.ifCond .ne 7, 3) := by decide +kernel
theorem dX10_isLikeFirst_47 : decode cX10_isLikeFirst 47 = .ok (.iconst 1, 1) := by decide +kernel
theorem dX10_isLikeFirst_48 : decode cX10_isLikeFirst 48 = .ok (.goto 4, 3) := by decide +kernel
theorem dX10_isLikeFirst_51 : decode cX10_isLikeFirst 51 = .ok (.iconst 0, 1) := by decide +kernel
theorem dX10_isLikeFirst_52 : decode cX10_isLikeFirst 52 = .ok (.ireturn, 1) := by decide +kernel
theorem dX10_isFirst_0 : decode cX10_isFirst 0 = .ok (.aload_n 0, 1) := by decide +kernel
theorem dX10_isFirst_1 : decode cX10_isFirst 1 = .ok (.iload_n 1, 1) := by decide +kernel
theorem dX10_isFirst_2 : decode cX10_isFirst 2 = .ok (.putfield 354, 3) := by decide +kernel
theorem dX10_isFirst_5 : decode cX10_isFirst 5 = .ok (.iconst 0, 1) := by decide +kernel
theorem dX10_isFirst_6 : decode cX10_isFirst 6 = .ok (.istore_n 2, 1) := by decide +kernel
theorem dX10_isFirst_7 : decode cX10_isFirst 7 = .ok (.iload_n 2, 1) := by decide +kernel
theorem dX10_isFirst_8 : decode cX10_isFirst 8 = .ok (.iload_n 1, 1) := by decide +kernel
theorem dX10_isFirst_9 : decode cX10_isFirst 9 = .ok (.if_icmp .gt 21, 3) := by decide +kernel
theorem dX10_isFirst_12 : decode cX10_isFirst 12 = .ok (.aload_n 0, 1) := by decide +kernel
theorem dX10_isFirst_13 : decode cX10_isFirst 13 = .ok (.getfield 72, 3) := by decide +kernel
theorem dX10_isFirst_16 : decode cX10_isFirst 16 = .ok (.iload_n 2, 1) := by decide +kernel
theorem dX10_isFirst_17 : decode cX10_isFirst 17 = .ok (.aload_n 0, 1) := by decide +kernel
theorem dX10_isFirst_18 : decode cX10_isFirst 18 = .ok (.getfield 51, 3) := by decide +kernel
theorem dX10_isFirst_21 : decode cX10_isFirst 21 = .ok (.iload_n 2, 1) := by decide +kernel
theorem dX10_isFirst_22 : decode cX10_isFirst 22 = .ok (.iaload, 1) := by decide +kernel
theorem dX10_isFirst_23 : decode cX10_isFirst 23 = .ok (.iastore, 1) := by decide +kernel
theorem dX10_isFirst_24 : decode cX10_isFirst 24 = .ok (.iinc 2 1, 3) := by decide +kernel
theorem dX10_isFirst_27 : decode cX10_isFirst 27 = .ok (.goto (-20), 3) := by decide +kernel
theorem dX10_isFirst_30 : decode cX10_isFirst 30 = .ok (.iconst 0, 1) := by decide +kernel
theorem dX10_isFirst_31 : decode cX10_isFirst 31 = .ok (.istore_n 2, 1) := by decide +kernel
theorem dX10_isFirst_32 : decode cX10_isFirst 32 = .ok (.iload_n 2, 1) := by decide +kernel
theorem dX10_isFirst_33 : decode cX10_isFirst 33 = .ok (.aload_n 0, 1) := by decide +kernel
theorem dX10_isFirst_34 : decode cX10_isFirst 34 = .ok (.invokevirtual 314, 3) := by decide +kernel
theorem dX10_isFirst_37 : decode cX10_isFirst 37 = .ok (.if_icmp .ge 21, 3) := by decide +kernel
theorem dX10_isFirst_40 : decode cX10_isFirst 40 = .ok (.aload_n 0, 1) := by decide +kernel
theorem dX10_isFirst_41 : decode cX10_isFirst 41 = .ok (.getfield 75, 3) := by decide +kernel
theorem dX10_isFirst_44 : decode cX10_isFirst 44 = .ok (.iload_n 2, 1) := by decide +kernel
theorem dX10_isFirst_45 : decode cX10_isFirst 45 = .ok (.aload_n 0, 1) := by decide +kernel
theorem dX10_isFirst_46 : decode cX10_isFirst 46 = .ok (.getfield 54, 3) := by decide +kernel
theorem dX10_isFirst_49 : decode cX10_isFirst 49 = .ok (.iload_n 2, 1) := by decide +kernel
theorem dX10_isFirst_50 : decode cX10_isFirst 50 = .ok (.iaload, 1) := by decide +kernel
theorem dX10_isFirst_51 : decode cX10_isFirst 51 = .ok (.iastore, 1) := by decide +kernel
theorem dX10_isFirst_52 : decode cX10_isFirst 52 = .ok (.iinc 2 1, 3) := by decide +kernel
theorem dX10_isFirst_55 : decode cX10_isFirst 55 = .ok (.goto (-23), 3) := by decide +kernel
theorem dX10_isFirst_58 : decode cX10_isFirst 58 = .ok (.iconst 0, 1) := by decide +kernel
theorem dX10_isFirst_59 : decode cX10_isFirst 59 = .ok (.istore_n 2, 1) := by decide +kernel
theorem dX10_isFirst_60 : decode cX10_isFirst 60 = .ok (.iload_n 2, 1) := by decide +kernel
theorem dX10_isFirst_61 : decode cX10_isFirst 61 = .ok (.aload_n 0, 1) := by decide +kernel
theorem dX10_isFirst_62 : decode cX10_isFirst 62 = .ok (.getfield 256, 3) := by decide +kernel
theorem dX10_isFirst_65 : decode cX10_isFirst 65 = .ok (.if_icmp .ge 20, 3) := by decide +kernel
theorem dX10_isFirst_68 : decode cX10_isFirst 68 = .ok (.aload_n 0, 1) := by decide +kernel
theorem dX10_isFirst_69 : decode cX10_isFirst 69 = .ok (.getfield 78, 3) := by decide +kernel
theorem dX10_isFirst_72 : decode cX10_isFirst 72 = .ok (.iload_n 2, 1) := by decide +kernel
theorem dX10_isFirst_73 : decode cX10_isFirst 73 = .ok (.aload_n 0, 1) := by decide +kernel
theorem dX10_isFirst_74 : decode cX10_isFirst 74 = .ok (.iload_n 2, 1) := by decide +kernel
theorem dX10_isFirst_75 : decode cX10_isFirst 75 = .ok (.invokevirtual 308, 3) := by decide +kernel
theorem dX10_isFirst_78 : decode cX10_isFirst 78 = .ok (.iastore, 1) := by decide +kernel
theorem dX10_isFirst_79 : decode cX10_isFirst 79 = .ok (.iinc 2 1, 3) := by decide +kernel
theorem dX10_isFirst_82 : decode cX10_isFirst 82 = .ok (.goto (-22), 3) := by decide +kernel
theorem dX10_isFirst_85 : decode cX10_isFirst 85 = .ok (.return_, 1) := by decide +kernel
theorem dX10_generates_0 : decode cX10_generates 0 = .ok (.iconst 0, 1) := by decide +kernel
theorem dX10_generates_1 : decode cX10_generates 1 = .ok (.istore_n 2, 1) := by decide +kernel
theorem dX10_generates_2 : decode cX10_generates 2 = .ok (.iconst 0, 1) := by decide +kernel
theorem dX10_generates_3 : decode cX10_generates 3 = .ok (.istore_n 3, 1) := by decide +kernel
theorem dX10_generates_4 : decode cX10_generates 4 = .ok (.iload_n 3, 1) := by decide +kernel
theorem dX10_generates_5 : decode cX10_generates 5 = .ok (.aload_n 0, 1) := by decide +kernel
theorem dX10_generates_6 : decode cX10_generates 6 = .ok (.getfield 256, 3) := by decide +kernel
theorem dX10_generates_9 : decode cX10_generates 9 = .ok (.if_icmp .ge 23, 3) := by decide +kernel
theorem dX10_generates_12 : decode cX10_generates 12 = .ok (.iload_n 2, 1) := by decide +kernel
theorem dX10_generates_13 : decode cX10_generates 13 = .ok (.aload_n 0, 1) := by decide +kernel
theorem dX10_generates_14 : decode cX10_generates 14 = .ok (.iload_n 3, 1) := by decide +kernel
theorem dX10_generates_15 : decode cX10_generates 15 = .ok (.invokevirtual 308, 3) := by decide +kernel
theorem dX10_generates_18 : decode cX10_generates 18 = .ok (.iconst 3, 1) := by decide +kernel
theorem dX10_generates_19 : decode cX10_generates 19 = .ok (.aload_n 1, 1) := by decide +kernel
theorem dX10_generates_20 : decode cX10_generates 20 = .ok (.iload_n 3, 1) := by decide +kernel
theorem dX10_generates_21 : decode cX10_generates 21 = .ok (.iaload, 1) := by decide +kernel
theorem dX10_generates_22 : decode cX10_generates 22 = .ok (.imul, 1) := by decide +kernel
theorem dX10_generates_23 : decode cX10_generates 23 = .ok (.ishl, 1) := by decide +kernel
theorem dX10_generates_24 : decode cX10_generates 24 = .ok (.ior, 1) := by decide +kernel
theorem dX10_generates_25 : decode cX10_generates 25 = .ok (.istore_n 2, 1) := by decide +kernel
theorem dX10_generates_26 : decode cX10_generates 26 = .ok (.iinc 3 1, 3) := by decide +kernel
theorem dX10_generates_29 : decode cX10_generates 29 = .ok (.goto (-25), 3) := by decide +kernel
theorem dX10_generates_32 : decode cX10_generates 32 = .ok (.aload_n 0, 1) := by decide +kernel
theorem dX10_generates_33 : decode cX10_generates 33 = .ok (.getfield 81, 3) := by decide +kernel
theorem dX10_generates_36 : decode cX10_generates 36 = .ok (.aload_n 0, 1) := by decide +kernel
theorem dX10_generates_37 : decode cX10_generates 37 = .ok (.getfield 357, 3) := by decide +kernel
theorem dX10_generates_40 : decode cX10_generates 40 = .ok (.iload_n 2, 1) := by decide +kernel
theorem dX10_generates_41 : decode cX10_generates 41 = .ok (.iastore, 1) := by decide +kernel
theorem dX10_generates_42 : decode cX10_generates 42 = .ok (.aload_n 0, 1) := by decide +kernel
theorem dX10_generates_43 : decode cX10_generates 43 = .ok (.dup, 1) := by decide +kernel
theorem dX10_generates_44 : decode cX10_generates 44 = .ok (.getfield 357, 3) := by decide +kernel
theorem dX10_generates_47 : decode cX10_generates 47 = .ok (.iconst 1, 1) := by decide +kernel
theorem dX10_generates_48 : decode cX10_generates 48 = .ok (.iadd, 1) := by decide +kernel
theorem dX10_generates_49 : decode cX10_generates 49 = .ok (.putfield 357, 3) := by decide +kernel
theorem dX10_generates_52 : decode cX10_generates 52 = .ok (.return_, 1) := by decide +kernel
theorem dX10_sentBy_0 : decode cX10_sentBy 0 = .ok (.iload_n 0, 1) := by decide +kernel
theorem dX10_sentBy_1 : decode cX10_sentBy 1 = .ok (.iconst 3, 1) := by decide +kernel
theorem dX10_sentBy_2 : decode cX10_sentBy 2 = .ok (.iload_n 1, 1) := by decide +kernel
theorem dX10_sentBy_3 : decode cX10_sentBy 3 = .ok (.imul, 1) := by decide +kernel
theorem dX10_sentBy_4 : decode cX10_sentBy 4 = .ok (.ishr, 1) := by decide +kernel
theorem dX10_sentBy_5 : decode cX10_sentBy 5 = .ok (.bipush 7, 2) := by decide +kernel
theorem dX10_sentBy_7 : decode cX10_sentBy 7 = .ok (.iand, 1) := by decide +kernel
theorem dX10_sentBy_8 : decode cX10_sentBy 8 = .ok (.ireturn, 1) := by decide +kernel
theorem dX10_comesToLeaf_0 : decode cX10_comesToLeaf 0 = .ok (.aload_n 0, 1) := by decide +kernel
theorem dX10_comesToLeaf_1 : decode cX10_comesToLeaf 1 = .ok (.dup, 1) := by decide +kernel
theorem dX10_comesToLeaf_2 : decode cX10_comesToLeaf 2 = .ok (.getfield 320, 3) := by decide +kernel
theorem dX10_comesToLeaf_5 : decode cX10_comesToLeaf 5 = .ok (.iconst 1, 1) := by decide +kernel
theorem dX10_comesToLeaf_6 : decode cX10_comesToLeaf 6 = .ok (.iadd, 1) := by decide +kernel
theorem dX10_comesToLeaf_7 : decode cX10_comesToLeaf 7 = .ok (.putfield 320, 3) := by decide +kernel
theorem dX10_comesToLeaf_10 : decode cX10_comesToLeaf 10 = .ok (.aload_n 0, 1) := by decide +kernel
theorem dX10_comesToLeaf_11 : decode cX10_comesToLeaf 11 = .ok (.invokevirtual 326, 3) := by decide +kernel
theorem dX10_comesToLeaf_14 : decode cX10_comesToLeaf 14 = .ok (.aload_n 0, 1) := by decide +kernel
theorem dX10_comesToLeaf_15 : decode cX10_comesToLeaf 15 = .ok (.getfield 354, 3) := by decide +kernel
theorem dX10_comesToLeaf_18 : decode cX10_comesToLeaf 18 = .ok (.iconst (-1), 1) := by decide +kernel
theorem dX10_comesToLeaf_19 : decode cX10_comesToLeaf 19 = .ok (.if_icmp .ne 24, 3) := by decide +kernel
theorem dX10_comesToLeaf_22 : decode cX10_comesToLeaf 22 = .ok (.aload_n 0, 1) := by decide +kernel
theorem dX10_comesToLeaf_23 : decode cX10_comesToLeaf 23 = .ok (.iload_n 1, 1) := by decide +kernel
theorem dX10_comesToLeaf_24 : decode cX10_comesToLeaf 24 = .ok (.invokevirtual 360, 3) := by decide +kernel
theorem dX10_comesToLeaf_27 : decode cX10_comesToLeaf 27 = .ok (.aload_n 0, 1) := by decide +kernel
theorem dX10_comesToLeaf_28 : decode cX10_comesToLeaf 28 = .ok (.iload_n 1, 1) := by decide +kernel
theorem dX10_comesToLeaf_29 : decode cX10_comesToLeaf 29 = .ok (.invokevirtual 332, 3) := by decide +kernel
theorem dX10_comesToLeaf_32 : decode cX10_comesToLeaf 32 = .ok (.aload_n 0, 1) := by decide +kernel
theorem dX10_comesToLeaf_33 : decode cX10_comesToLeaf 33 = .ok (.dup, 1) := by decide +kernel
theorem dX10_comesToLeaf_34 : decode cX10_comesToLeaf 34 = .ok (.getfield 363, 3) := by decide +kernel
theorem dX10_comesToLeaf_37 : decode cX10_comesToLeaf 37 = .ok (.iconst 1, 1) := by decide +kernel
theorem dX10_comesToLeaf_38 : decode cX10_comesToLeaf 38 = .ok (.iadd, 1) := by decide +kernel
theorem dX10_comesToLeaf_39 : decode cX10_comesToLeaf 39 = .ok (.putfield 363, 3) := by decide +kernel
theorem dX10_comesToLeaf_42 : decode cX10_comesToLeaf 42 = .ok (.return_, 1) := by decide +kernel
theorem dX10_comesToLeaf_43 : decode cX10_comesToLeaf 43 = .ok (.aload_n 0, 1) := by decide +kernel
theorem dX10_comesToLeaf_44 : decode cX10_comesToLeaf 44 = .ok (.iload_n 1, 1) := by decide +kernel
theorem dX10_comesToLeaf_45 : decode cX10_comesToLeaf 45 = .ok (.invokevirtual 366, 3) := by decide +kernel
theorem dX10_comesToLeaf_48 : decode cX10_comesToLeaf 48 = .ok (.ifCond .eq 12, 3) := by decide +kernel
theorem dX10_comesToLeaf_51 : decode cX10_comesToLeaf 51 = .ok (.aload_n 0, 1) := by decide +kernel
theorem dX10_comesToLeaf_52 : decode cX10_comesToLeaf 52 = .ok (.aload_n 0, 1) := by decide +kernel
theorem dX10_comesToLeaf_53 : decode cX10_comesToLeaf 53 = .ok (.getfield 78, 3) := by decide +kernel
theorem dX10_comesToLeaf_56 : decode cX10_comesToLeaf 56 = .ok (.invokevirtual 369, 3) := by decide +kernel
theorem dX10_comesToLeaf_59 : decode cX10_comesToLeaf 59 = .ok (.return_, 1) := by decide +kernel
theorem dX10_comesToLeaf_60 : decode cX10_comesToLeaf 60 = .ok (.aload_n 0, 1) := by decide +kernel
theorem dX10_comesToLeaf_61 : decode cX10_comesToLeaf 61 = .ok (.iload_n 1, 1) := by decide +kernel
theorem dX10_comesToLeaf_62 : decode cX10_comesToLeaf 62 = .ok (.invokevirtual 329, 3) := by decide +kernel
theorem dX10_comesToLeaf_65 : decode cX10_comesToLeaf 65 = .ok (.istore_n 2, 1) := by decide +kernel
theorem dX10_comesToLeaf_66 : decode cX10_comesToLeaf 66 = .ok (.iload_n 2, 1) := by decide +kernel
theorem dX10_comesToLeaf_67 : decode cX10_comesToLeaf 67 = .ok (.ifCond .ne 14, 3) := by decide +kernel
theorem dX10_comesToLeaf_70 : decode cX10_comesToLeaf 70 = .ok (.aload_n 0, 1) := by decide +kernel
theorem dX10_comesToLeaf_71 : decode cX10_comesToLeaf 71 = .ok (.aload_n 0, 1) := by decide +kernel
theorem dX10_comesToLeaf_72 : decode cX10_comesToLeaf 72 = .ok (.getfield 63, 3) := by decide +kernel
theorem dX10_comesToLeaf_75 : decode cX10_comesToLeaf 75 = .ok (.invokevirtual 369, 3) := by decide +kernel
theorem dX10_comesToLeaf_78 : decode cX10_comesToLeaf 78 = .ok (.goto 22, 3) := by decide +kernel
theorem dX10_comesToLeaf_81 : decode cX10_comesToLeaf 81 = .ok (.iload_n 2, 1) := by decide +kernel
theorem dX10_comesToLeaf_82 : decode cX10_comesToLeaf 82 = .ok (.ifCond .ge 18, 3) := by decide +kernel
theorem dX10_comesToLeaf_85 : decode cX10_comesToLeaf 85 = .ok (.aload_n 0, 1) := by decide +kernel
theorem dX10_comesToLeaf_86 : decode cX10_comesToLeaf 86 = .ok (.iload_n 1, 1) := by decide +kernel
theorem dX10_comesToLeaf_87 : decode cX10_comesToLeaf 87 = .ok (.invokevirtual 332, 3) := by decide +kernel
theorem dX10_comesToLeaf_90 : decode cX10_comesToLeaf 90 = .ok (.aload_n 0, 1) := by decide +kernel
theorem dX10_comesToLeaf_91 : decode cX10_comesToLeaf 91 = .ok (.dup, 1) := by decide +kernel
theorem dX10_comesToLeaf_92 : decode cX10_comesToLeaf 92 = .ok (.getfield 363, 3) := by decide +kernel
theorem dX10_comesToLeaf_95 : decode cX10_comesToLeaf 95 = .ok (.iconst 1, 1) := by decide +kernel
theorem dX10_comesToLeaf_96 : decode cX10_comesToLeaf 96 = .ok (.iadd, 1) := by decide +kernel
theorem dX10_comesToLeaf_97 : decode cX10_comesToLeaf 97 = .ok (.putfield 363, 3) := by decide +kernel
theorem dX10_comesToLeaf_100 : decode cX10_comesToLeaf 100 = .ok (.return_, 1) := by decide +kernel
theorem dX10_leavesPath_0 : decode cX10_leavesPath 0 = .ok (.iconst 0, 1) := by decide +kernel
theorem dX10_leavesPath_1 : decode cX10_leavesPath 1 = .ok (.istore_n 3, 1) := by decide +kernel
theorem dX10_leavesPath_2 : decode cX10_leavesPath 2 = .ok (.iload_n 3, 1) := by decide +kernel
theorem dX10_leavesPath_3 : decode cX10_leavesPath 3 = .ok (.iload_n 2, 1) := by decide +kernel
theorem dX10_leavesPath_4 : decode cX10_leavesPath 4 = .ok (.if_icmp .ge 30, 3) := by decide +kernel
theorem dX10_leavesPath_7 : decode cX10_leavesPath 7 = .ok (.iload_n 1, 1) := by decide +kernel
theorem dX10_leavesPath_8 : decode cX10_leavesPath 8 = .ok (.aload_n 0, 1) := by decide +kernel
theorem dX10_leavesPath_9 : decode cX10_leavesPath 9 = .ok (.getfield 69, 3) := by decide +kernel
theorem dX10_leavesPath_12 : decode cX10_leavesPath 12 = .ok (.iload_n 3, 1) := by decide +kernel
theorem dX10_leavesPath_13 : decode cX10_leavesPath 13 = .ok (.iaload, 1) := by decide +kernel
theorem dX10_leavesPath_14 : decode cX10_leavesPath 14 = .ok (.invokestatic 373, 3) := by decide +kernel
theorem dX10_leavesPath_17 : decode cX10_leavesPath 17 = .ok (.aload_n 0, 1) := by decide +kernel
theorem dX10_leavesPath_18 : decode cX10_leavesPath 18 = .ok (.getfield 69, 3) := by decide +kernel
theorem dX10_leavesPath_21 : decode cX10_leavesPath 21 = .ok (.iload_n 3, 1) := by decide +kernel
theorem dX10_leavesPath_22 : decode cX10_leavesPath 22 = .ok (.iaload, 1) := by decide +kernel
theorem dX10_leavesPath_23 : decode cX10_leavesPath 23 = .ok (.if_icmp .eq 5, 3) := by decide +kernel
theorem dX10_leavesPath_26 : decode cX10_leavesPath 26 = .ok (.iconst 0, 1) := by decide +kernel
theorem dX10_leavesPath_27 : decode cX10_leavesPath 27 = .ok (.ireturn, 1) := by decide +kernel
theorem dX10_leavesPath_28 : decode cX10_leavesPath 28 = .ok (.iinc 3 1, 3) := by decide +kernel
theorem dX10_leavesPath_31 : decode cX10_leavesPath 31 = .ok (.goto (-29), 3) := by decide +kernel
theorem dX10_leavesPath_34 : decode cX10_leavesPath 34 = .ok (.iconst 1, 1) := by decide +kernel
theorem dX10_leavesPath_35 : decode cX10_leavesPath 35 = .ok (.ireturn, 1) := by decide +kernel
theorem dX10_comesTo_0 : decode cX10_comesTo 0 = .ok (.iload_n 1, 1) := by decide +kernel
theorem dX10_comesTo_1 : decode cX10_comesTo 1 = .ok (.istore 4, 2) := by decide +kernel
theorem dX10_comesTo_3 : decode cX10_comesTo 3 = .ok (.iconst 1, 1) := by decide +kernel
theorem dX10_comesTo_4 : decode cX10_comesTo 4 = .ok (.istore 5, 2) := by decide +kernel
theorem dX10_comesTo_6 : decode cX10_comesTo 6 = .ok (.iload 5, 2) := by decide +kernel
theorem dX10_comesTo_8 : decode cX10_comesTo 8 = .ok (.ifCond .eq 75, 3) := by decide +kernel
theorem dX10_comesTo_11 : decode cX10_comesTo 11 = .ok (.iload 4, 2) := by decide +kernel
theorem dX10_comesTo_13 : decode cX10_comesTo 13 = .ok (.istore 6, 2) := by decide +kernel
theorem dX10_comesTo_15 : decode cX10_comesTo 15 = .ok (.iconst 0, 1) := by decide +kernel
theorem dX10_comesTo_16 : decode cX10_comesTo 16 = .ok (.istore 7, 2) := by decide +kernel
theorem dX10_comesTo_18 : decode cX10_comesTo 18 = .ok (.iload 7, 2) := by decide +kernel
theorem dX10_comesTo_20 : decode cX10_comesTo 20 = .ok (.aload_n 0, 1) := by decide +kernel
theorem dX10_comesTo_21 : decode cX10_comesTo 21 = .ok (.getfield 357, 3) := by decide +kernel
theorem dX10_comesTo_24 : decode cX10_comesTo 24 = .ok (.if_icmp .ge 42, 3) := by decide +kernel
theorem dX10_comesTo_27 : decode cX10_comesTo 27 = .ok (.aload_n 0, 1) := by decide +kernel
theorem dX10_comesTo_28 : decode cX10_comesTo 28 = .ok (.aload_n 0, 1) := by decide +kernel
theorem dX10_comesTo_29 : decode cX10_comesTo 29 = .ok (.getfield 81, 3) := by decide +kernel
theorem dX10_comesTo_32 : decode cX10_comesTo 32 = .ok (.iload 7, 2) := by decide +kernel
theorem dX10_comesTo_34 : decode cX10_comesTo 34 = .ok (.iaload, 1) := by decide +kernel
theorem dX10_comesTo_35 : decode cX10_comesTo 35 = .ok (.iload_n 3, 1) := by decide +kernel
theorem dX10_comesTo_36 : decode cX10_comesTo 36 = .ok (.invokevirtual 376, 3) := by decide +kernel
theorem dX10_comesTo_39 : decode cX10_comesTo 39 = .ok (.ifCond .eq 21, 3) := by decide +kernel
theorem dX10_comesTo_42 : decode cX10_comesTo 42 = .ok (.iload 4, 2) := by decide +kernel
theorem dX10_comesTo_44 : decode cX10_comesTo 44 = .ok (.aload_n 0, 1) := by decide +kernel
theorem dX10_comesTo_45 : decode cX10_comesTo 45 = .ok (.aload_n 0, 1) := by decide +kernel
theorem dX10_comesTo_46 : decode cX10_comesTo 46 = .ok (.getfield 81, 3) := by decide +kernel
theorem dX10_comesTo_49 : decode cX10_comesTo 49 = .ok (.iload 7, 2) := by decide +kernel
theorem dX10_comesTo_51 : decode cX10_comesTo 51 = .ok (.iaload, 1) := by decide +kernel
theorem dX10_comesTo_52 : decode cX10_comesTo 52 = .ok (.iload 4, 2) := by decide +kernel
theorem dX10_comesTo_54 : decode cX10_comesTo 54 = .ok (.invokevirtual 379, 3) := by decide +kernel
theorem dX10_comesTo_57 : decode cX10_comesTo 57 = .ok (.ior, 1) := by decide +kernel
theorem dX10_comesTo_58 : decode cX10_comesTo 58 = .ok (.istore 4, 2) := by decide +kernel
theorem dX10_comesTo_60 : decode cX10_comesTo 60 = .ok (.iinc 7 1, 3) := by decide +kernel
theorem dX10_comesTo_63 : decode cX10_comesTo 63 = .ok (.goto (-45), 3) := by decide +kernel
theorem dX10_comesTo_66 : decode cX10_comesTo 66 = .ok (.iload 4, 2) := by decide +kernel
theorem dX10_comesTo_68 : decode cX10_comesTo 68 = .ok (.iload 6, 2) := by decide +kernel
theorem dX10_comesTo_70 : decode cX10_comesTo 70 = .ok (.if_icmp .eq 7, 3) := by decide +kernel
theorem dX10_comesTo_73 : decode cX10_comesTo 73 = .ok (.iconst 1, 1) := by decide +kernel
theorem dX10_comesTo_74 : decode cX10_comesTo 74 = .ok (.goto 4, 3) := by decide +kernel
theorem dX10_comesTo_77 : decode cX10_comesTo 77 = .ok (.iconst 0, 1) := by decide +kernel
theorem dX10_comesTo_78 : decode cX10_comesTo 78 = .ok (.istore 5, 2) := by decide +kernel
theorem dX10_comesTo_80 : decode cX10_comesTo 80 = .ok (.goto (-74), 3) := by decide +kernel
theorem dX10_comesTo_83 : decode cX10_comesTo 83 = .ok (.iload 4, 2) := by decide +kernel
theorem dX10_comesTo_85 : decode cX10_comesTo 85 = .ok (.iload_n 2, 1) := by decide +kernel
theorem dX10_comesTo_86 : decode cX10_comesTo 86 = .ok (.invokestatic 182, 3) := by decide +kernel
theorem dX10_comesTo_89 : decode cX10_comesTo 89 = .ok (.ireturn, 1) := by decide +kernel
theorem dX10_sentSet_0 : decode cX10_sentSet 0 = .ok (.iconst 0, 1) := by decide +kernel
theorem dX10_sentSet_1 : decode cX10_sentSet 1 = .ok (.istore_n 3, 1) := by decide +kernel
theorem dX10_sentSet_2 : decode cX10_sentSet 2 = .ok (.iconst 0, 1) := by decide +kernel
theorem dX10_sentSet_3 : decode cX10_sentSet 3 = .ok (.istore 4, 2) := by decide +kernel
theorem dX10_sentSet_5 : decode cX10_sentSet 5 = .ok (.iload 4, 2) := by decide +kernel
theorem dX10_sentSet_7 : decode cX10_sentSet 7 = .ok (.aload_n 0, 1) := by decide +kernel
theorem dX10_sentSet_8 : decode cX10_sentSet 8 = .ok (.getfield 256, 3) := by decide +kernel
theorem dX10_sentSet_11 : decode cX10_sentSet 11 = .ok (.if_icmp .ge 33, 3) := by decide +kernel
theorem dX10_sentSet_14 : decode cX10_sentSet 14 = .ok (.iload_n 3, 1) := by decide +kernel
theorem dX10_sentSet_15 : decode cX10_sentSet 15 = .ok (.iload_n 2, 1) := by decide +kernel
theorem dX10_sentSet_16 : decode cX10_sentSet 16 = .ok (.iload 4, 2) := by decide +kernel
theorem dX10_sentSet_18 : decode cX10_sentSet 18 = .ok (.invokestatic 182, 3) := by decide +kernel
theorem dX10_sentSet_21 : decode cX10_sentSet 21 = .ok (.ifCond .eq 14, 3) := by decide +kernel
theorem dX10_sentSet_24 : decode cX10_sentSet 24 = .ok (.iconst 1, 1) := by decide +kernel
theorem dX10_sentSet_25 : decode cX10_sentSet 25 = .ok (.iload_n 1, 1) := by decide +kernel
theorem dX10_sentSet_26 : decode cX10_sentSet 26 = .ok (.iload 4, 2) := by decide +kernel
theorem dX10_sentSet_28 : decode cX10_sentSet 28 = .ok (.invokestatic 373, 3) := by decide +kernel
theorem dX10_sentSet_31 : decode cX10_sentSet 31 = .ok (.ishl, 1) := by decide +kernel
theorem dX10_sentSet_32 : decode cX10_sentSet 32 = .ok (.goto 4, 3) := by decide +kernel
theorem dX10_sentSet_35 : decode cX10_sentSet 35 = .ok (.iconst 0, 1) := by decide +kernel
theorem dX10_sentSet_36 : decode cX10_sentSet 36 = .ok (.ior, 1) := by decide +kernel
theorem dX10_sentSet_37 : decode cX10_sentSet 37 = .ok (.istore_n 3, 1) := by decide +kernel
theorem dX10_sentSet_38 : decode cX10_sentSet 38 = .ok (.iinc 4 1, 3) := by decide +kernel
theorem dX10_sentSet_41 : decode cX10_sentSet 41 = .ok (.goto (-36), 3) := by decide +kernel
theorem dX10_sentSet_44 : decode cX10_sentSet 44 = .ok (.iload_n 3, 1) := by decide +kernel
theorem dX10_sentSet_45 : decode cX10_sentSet 45 = .ok (.ireturn, 1) := by decide +kernel
theorem dX10_isCut_0 : decode cX10_isCut 0 = .ok (.aload_n 0, 1) := by decide +kernel
theorem dX10_isCut_1 : decode cX10_isCut 1 = .ok (.getfield 311, 3) := by decide +kernel
theorem dX10_isCut_4 : decode cX10_isCut 4 = .ok (.iconst (-1), 1) := by decide +kernel
theorem dX10_isCut_5 : decode cX10_isCut 5 = .ok (.if_icmp .eq 11, 3) := by decide +kernel
theorem dX10_isCut_8 : decode cX10_isCut 8 = .ok (.aload_n 0, 1) := by decide +kernel
theorem dX10_isCut_9 : decode cX10_isCut 9 = .ok (.getfield 311, 3) := by decide +kernel
theorem dX10_isCut_12 : decode cX10_isCut 12 = .ok (.iload_n 1, 1) := by decide +kernel
theorem dX10_isCut_13 : decode cX10_isCut 13 = .ok (.if_icmp .ge 5, 3) := by decide +kernel
theorem dX10_isCut_16 : decode cX10_isCut 16 = .ok (.iconst 0, 1) := by decide +kernel
theorem dX10_isCut_17 : decode cX10_isCut 17 = .ok (.ireturn, 1) := by decide +kernel
theorem dX10_isCut_18 : decode cX10_isCut 18 = .ok (.aload_n 0, 1) := by decide +kernel
theorem dX10_isCut_19 : decode cX10_isCut 19 = .ok (.getfield 51, 3) := by decide +kernel
theorem dX10_isCut_22 : decode cX10_isCut 22 = .ok (.iconst 0, 1) := by decide +kernel
theorem dX10_isCut_23 : decode cX10_isCut 23 = .ok (.aload_n 0, 1) := by decide +kernel
theorem dX10_isCut_24 : decode cX10_isCut 24 = .ok (.getfield 57, 3) := by decide +kernel
theorem dX10_isCut_27 : decode cX10_isCut 27 = .ok (.iconst 0, 1) := by decide +kernel
theorem dX10_isCut_28 : decode cX10_isCut 28 = .ok (.iload_n 1, 1) := by decide +kernel
theorem dX10_isCut_29 : decode cX10_isCut 29 = .ok (.invokestatic 262, 3) := by decide +kernel
theorem dX10_isCut_32 : decode cX10_isCut 32 = .ok (.ifCond .ne 22, 3) := by decide +kernel
theorem dX10_isCut_35 : decode cX10_isCut 35 = .ok (.aload_n 0, 1) := by decide +kernel
theorem dX10_isCut_36 : decode cX10_isCut 36 = .ok (.getfield 51, 3) := by decide +kernel
theorem dX10_isCut_39 : decode cX10_isCut 39 = .ok (.iload_n 1, 1) := by decide +kernel
theorem dX10_isCut_40 : decode cX10_isCut 40 = .ok (.iaload, 1) := by decide +kernel
theorem dX10_isCut_41 : decode cX10_isCut 41 = .ok (.aload_n 0, 1) := by decide +kernel
theorem dX10_isCut_42 : decode cX10_isCut 42 = .ok (.getfield 57, 3) := by decide +kernel
theorem dX10_isCut_45 : decode cX10_isCut 45 = .ok (.iload_n 1, 1) := by decide +kernel
theorem dX10_isCut_46 : decode cX10_isCut 46 = .ok (.iaload, 1) := by decide +kernel
theorem dX10_isCut_47 : decode cX10_isCut 47 = .ok (.if_icmp .le 7, 3) := by decide +kernel
theorem dX10_isCut_50 : decode cX10_isCut 50 = .ok (.iconst 1, 1) := by decide +kernel
theorem dX10_isCut_51 : decode cX10_isCut 51 = .ok (.goto 4, 3) := by decide +kernel
theorem dX10_isCut_54 : decode cX10_isCut 54 = .ok (.iconst 0, 1) := by decide +kernel
theorem dX10_isCut_55 : decode cX10_isCut 55 = .ok (.ireturn, 1) := by decide +kernel
theorem dX10_searches_0 : decode cX10_searches 0 = .ok (.aload_n 0, 1) := by decide +kernel
theorem dX10_searches_1 : decode cX10_searches 1 = .ok (.dup, 1) := by decide +kernel
theorem dX10_searches_2 : decode cX10_searches 2 = .ok (.getfield 317, 3) := by decide +kernel
theorem dX10_searches_5 : decode cX10_searches 5 = .ok (.iconst 1, 1) := by decide +kernel
theorem dX10_searches_6 : decode cX10_searches 6 = .ok (.iadd, 1) := by decide +kernel
theorem dX10_searches_7 : decode cX10_searches 7 = .ok (.putfield 317, 3) := by decide +kernel
theorem dX10_searches_10 : decode cX10_searches 10 = .ok (.aload_n 0, 1) := by decide +kernel
theorem dX10_searches_11 : decode cX10_searches 11 = .ok (.invokevirtual 287, 3) := by decide +kernel
theorem dX10_searches_14 : decode cX10_searches 14 = .ok (.istore_n 2, 1) := by decide +kernel
theorem dX10_searches_15 : decode cX10_searches 15 = .ok (.iload_n 2, 1) := by decide +kernel
theorem dX10_searches_16 : decode cX10_searches 16 = .ok (.iconst (-1), 1) := by decide +kernel
theorem dX10_searches_17 : decode cX10_searches 17 = .ok (.if_icmp .ne 9, 3) := by decide +kernel
theorem dX10_searches_20 : decode cX10_searches 20 = .ok (.aload_n 0, 1) := by decide +kernel
theorem dX10_searches_21 : decode cX10_searches 21 = .ok (.iload_n 1, 1) := by decide +kernel
theorem dX10_searches_22 : decode cX10_searches 22 = .ok (.invokevirtual 382, 3) := by decide +kernel
theorem dX10_searches_25 : decode cX10_searches 25 = .ok (.return_, 1) := by decide +kernel
theorem dX10_searches_26 : decode cX10_searches 26 = .ok (.aload_n 0, 1) := by decide +kernel
theorem dX10_searches_27 : decode cX10_searches 27 = .ok (.iload_n 2, 1) := by decide +kernel
theorem dX10_searches_28 : decode cX10_searches 28 = .ok (.invokevirtual 290, 3) := by decide +kernel
theorem dX10_searches_31 : decode cX10_searches 31 = .ok (.istore_n 3, 1) := by decide +kernel
theorem dX10_searches_32 : decode cX10_searches 32 = .ok (.aload_n 0, 1) := by decide +kernel
theorem dX10_searches_33 : decode cX10_searches 33 = .ok (.getfield 272, 3) := by decide +kernel
theorem dX10_searches_36 : decode cX10_searches 36 = .ok (.istore 4, 2) := by decide +kernel
theorem dX10_searches_38 : decode cX10_searches 38 = .ok (.iconst 0, 1) := by decide +kernel
theorem dX10_searches_39 : decode cX10_searches 39 = .ok (.istore 5, 2) := by decide +kernel
theorem dX10_searches_41 : decode cX10_searches 41 = .ok (.aload_n 0, 1) := by decide +kernel
theorem dX10_searches_42 : decode cX10_searches 42 = .ok (.iload_n 1, 1) := by decide +kernel
theorem dX10_searches_43 : decode cX10_searches 43 = .ok (.invokevirtual 338, 3) := by decide +kernel
theorem dX10_searches_46 : decode cX10_searches 46 = .ok (.iconst 0, 1) := by decide +kernel
theorem dX10_searches_47 : decode cX10_searches 47 = .ok (.istore 6, 2) := by decide +kernel
theorem dX10_searches_49 : decode cX10_searches 49 = .ok (.iload 6, 2) := by decide +kernel
theorem dX10_searches_51 : decode cX10_searches 51 = .ok (.aload_n 0, 1) := by decide +kernel
theorem dX10_searches_52 : decode cX10_searches 52 = .ok (.getfield 256, 3) := by decide +kernel
theorem dX10_searches_55 : decode cX10_searches 55 = .ok (.if_icmp .ge 122, 3) := by decide +kernel
theorem dX10_searches_58 : decode cX10_searches 58 = .ok (.iload_n 3, 1) := by decide +kernel
theorem dX10_searches_59 : decode cX10_searches 59 = .ok (.iload 6, 2) := by decide +kernel
theorem dX10_searches_61 : decode cX10_searches 61 = .ok (.invokestatic 182, 3) := by decide +kernel
theorem dX10_searches_64 : decode cX10_searches 64 = .ok (.ifCond .ne 6, 3) := by decide +kernel
theorem dX10_searches_67 : decode cX10_searches 67 = .ok (.goto 104, 3) := by decide +kernel
theorem dX10_searches_70 : decode cX10_searches 70 = .ok (.aload_n 0, 1) := by decide +kernel
theorem dX10_searches_71 : decode cX10_searches 71 = .ok (.iload 5, 2) := by decide +kernel
theorem dX10_searches_73 : decode cX10_searches 73 = .ok (.iload 6, 2) := by decide +kernel
theorem dX10_searches_75 : decode cX10_searches 75 = .ok (.iload_n 1, 1) := by decide +kernel
theorem dX10_searches_76 : decode cX10_searches 76 = .ok (.invokevirtual 385, 3) := by decide +kernel
theorem dX10_searches_79 : decode cX10_searches 79 = .ok (.ifCond .eq 16, 3) := by decide +kernel
theorem dX10_searches_82 : decode cX10_searches 82 = .ok (.aload_n 0, 1) := by decide +kernel
theorem dX10_searches_83 : decode cX10_searches 83 = .ok (.dup, 1) := by decide +kernel
theorem dX10_searches_84 : decode cX10_searches 84 = .ok (.getfield 388, 3) := by decide +kernel
theorem dX10_searches_87 : decode cX10_searches 87 = .ok (.iconst 1, 1) := by decide +kernel
theorem dX10_searches_88 : decode cX10_searches 88 = .ok (.iadd, 1) := by decide +kernel
theorem dX10_searches_89 : decode cX10_searches 89 = .ok (.putfield 388, 3) := by decide +kernel
theorem dX10_searches_92 : decode cX10_searches 92 = .ok (.goto 79, 3) := by decide +kernel
theorem dX10_searches_95 : decode cX10_searches 95 = .ok (.iload 5, 2) := by decide +kernel
theorem dX10_searches_97 : decode cX10_searches 97 = .ok (.iconst 1, 1) := by decide +kernel
theorem dX10_searches_98 : decode cX10_searches 98 = .ok (.iload 6, 2) := by decide +kernel
theorem dX10_searches_100 : decode cX10_searches 100 = .ok (.ishl, 1) := by decide +kernel
theorem dX10_searches_101 : decode cX10_searches 101 = .ok (.ior, 1) := by decide +kernel
theorem dX10_searches_102 : decode cX10_searches 102 = .ok (.istore 5, 2) := by decide +kernel
theorem dX10_searches_104 : decode cX10_searches 104 = .ok (.aload_n 0, 1) := by decide +kernel
theorem dX10_searches_105 : decode cX10_searches 105 = .ok (.getfield 69, 3) := by decide +kernel
theorem dX10_searches_108 : decode cX10_searches 108 = .ok (.iload_n 1, 1) := by decide +kernel
theorem dX10_searches_109 : decode cX10_searches 109 = .ok (.iload 6, 2) := by decide +kernel
theorem dX10_searches_111 : decode cX10_searches 111 = .ok (.iastore, 1) := by decide +kernel
theorem dX10_searches_112 : decode cX10_searches 112 = .ok (.aload_n 0, 1) := by decide +kernel
theorem dX10_searches_113 : decode cX10_searches 113 = .ok (.iload 6, 2) := by decide +kernel
theorem dX10_searches_115 : decode cX10_searches 115 = .ok (.invokevirtual 296, 3) := by decide +kernel
theorem dX10_searches_118 : decode cX10_searches 118 = .ok (.aload_n 0, 1) := by decide +kernel
theorem dX10_searches_119 : decode cX10_searches 119 = .ok (.getfield 51, 3) := by decide +kernel
theorem dX10_searches_122 : decode cX10_searches 122 = .ok (.iload_n 1, 1) := by decide +kernel
theorem dX10_searches_123 : decode cX10_searches 123 = .ok (.iconst 1, 1) := by decide +kernel
theorem dX10_searches_124 : decode cX10_searches 124 = .ok (.iadd, 1) := by decide +kernel
theorem dX10_searches_125 : decode cX10_searches 125 = .ok (.aload_n 0, 1) := by decide +kernel
theorem dX10_searches_126 : decode cX10_searches 126 = .ok (.aload_n 0, 1) := by decide +kernel
theorem dX10_searches_127 : decode cX10_searches 127 = .ok (.invokevirtual 284, 3) := by decide +kernel
theorem dX10_searches_130 : decode cX10_searches 130 = .ok (.invokevirtual 299, 3) := by decide +kernel
theorem dX10_searches_133 : decode cX10_searches 133 = .ok (.iastore, 1) := by decide +kernel
theorem dX10_searches_134 : decode cX10_searches 134 = .ok (.aload_n 0, 1) := by decide +kernel
theorem dX10_searches_135 : decode cX10_searches 135 = .ok (.iload_n 1, 1) := by decide +kernel
theorem dX10_searches_136 : decode cX10_searches 136 = .ok (.iconst 1, 1) := by decide +kernel
theorem dX10_searches_137 : decode cX10_searches 137 = .ok (.iadd, 1) := by decide +kernel
theorem dX10_searches_138 : decode cX10_searches 138 = .ok (.invokevirtual 391, 3) := by decide +kernel
theorem dX10_searches_141 : decode cX10_searches 141 = .ok (.ifCond .eq 16, 3) := by decide +kernel
theorem dX10_searches_144 : decode cX10_searches 144 = .ok (.aload_n 0, 1) := by decide +kernel
theorem dX10_searches_145 : decode cX10_searches 145 = .ok (.dup, 1) := by decide +kernel
theorem dX10_searches_146 : decode cX10_searches 146 = .ok (.getfield 394, 3) := by decide +kernel
theorem dX10_searches_149 : decode cX10_searches 149 = .ok (.iconst 1, 1) := by decide +kernel
theorem dX10_searches_150 : decode cX10_searches 150 = .ok (.iadd, 1) := by decide +kernel
theorem dX10_searches_151 : decode cX10_searches 151 = .ok (.putfield 394, 3) := by decide +kernel
theorem dX10_searches_154 : decode cX10_searches 154 = .ok (.goto 10, 3) := by decide +kernel
theorem dX10_searches_157 : decode cX10_searches 157 = .ok (.aload_n 0, 1) := by decide +kernel
theorem dX10_searches_158 : decode cX10_searches 158 = .ok (.iload_n 1, 1) := by decide +kernel
theorem dX10_searches_159 : decode cX10_searches 159 = .ok (.iconst 1, 1) := by decide +kernel
theorem dX10_searches_160 : decode cX10_searches 160 = .ok (.iadd, 1) := by decide +kernel
theorem dX10_searches_161 : decode cX10_searches 161 = .ok (.invokevirtual 397, 3) := by decide +kernel
theorem dX10_searches_164 : decode cX10_searches 164 = .ok (.aload_n 0, 1) := by decide +kernel
theorem dX10_searches_165 : decode cX10_searches 165 = .ok (.iload_n 1, 1) := by decide +kernel
theorem dX10_searches_166 : decode cX10_searches 166 = .ok (.iload 4, 2) := by decide +kernel
theorem dX10_searches_168 : decode cX10_searches 168 = .ok (.invokevirtual 344, 3) := by decide +kernel
theorem dX10_searches_171 : decode cX10_searches 171 = .ok (.iinc 6 1, 3) := by decide +kernel
theorem dX10_searches_174 : decode cX10_searches 174 = .ok (.goto (-125), 3) := by decide +kernel
theorem dX10_searches_177 : decode cX10_searches 177 = .ok (.return_, 1) := by decide +kernel
theorem dX10_searchesAll_0 : decode cX10_searchesAll 0 = .ok (.aload_n 0, 1) := by decide +kernel
theorem dX10_searchesAll_1 : decode cX10_searchesAll 1 = .ok (.iconst 0, 1) := by decide +kernel
theorem dX10_searchesAll_2 : decode cX10_searchesAll 2 = .ok (.putfield 317, 3) := by decide +kernel
theorem dX10_searchesAll_5 : decode cX10_searchesAll 5 = .ok (.aload_n 0, 1) := by decide +kernel
theorem dX10_searchesAll_6 : decode cX10_searchesAll 6 = .ok (.iconst 0, 1) := by decide +kernel
theorem dX10_searchesAll_7 : decode cX10_searchesAll 7 = .ok (.putfield 320, 3) := by decide +kernel
theorem dX10_searchesAll_10 : decode cX10_searchesAll 10 = .ok (.aload_n 0, 1) := by decide +kernel
theorem dX10_searchesAll_11 : decode cX10_searchesAll 11 = .ok (.iconst 0, 1) := by decide +kernel
theorem dX10_searchesAll_12 : decode cX10_searchesAll 12 = .ok (.putfield 394, 3) := by decide +kernel
theorem dX10_searchesAll_15 : decode cX10_searchesAll 15 = .ok (.aload_n 0, 1) := by decide +kernel
theorem dX10_searchesAll_16 : decode cX10_searchesAll 16 = .ok (.iconst 0, 1) := by decide +kernel
theorem dX10_searchesAll_17 : decode cX10_searchesAll 17 = .ok (.putfield 388, 3) := by decide +kernel
theorem dX10_searchesAll_20 : decode cX10_searchesAll 20 = .ok (.aload_n 0, 1) := by decide +kernel
theorem dX10_searchesAll_21 : decode cX10_searchesAll 21 = .ok (.iconst 0, 1) := by decide +kernel
theorem dX10_searchesAll_22 : decode cX10_searchesAll 22 = .ok (.putfield 363, 3) := by decide +kernel
theorem dX10_searchesAll_25 : decode cX10_searchesAll 25 = .ok (.aload_n 0, 1) := by decide +kernel
theorem dX10_searchesAll_26 : decode cX10_searchesAll 26 = .ok (.iconst 0, 1) := by decide +kernel
theorem dX10_searchesAll_27 : decode cX10_searchesAll 27 = .ok (.putfield 357, 3) := by decide +kernel
theorem dX10_searchesAll_30 : decode cX10_searchesAll 30 = .ok (.aload_n 0, 1) := by decide +kernel
theorem dX10_searchesAll_31 : decode cX10_searchesAll 31 = .ok (.iconst (-1), 1) := by decide +kernel
theorem dX10_searchesAll_32 : decode cX10_searchesAll 32 = .ok (.putfield 354, 3) := by decide +kernel
theorem dX10_searchesAll_35 : decode cX10_searchesAll 35 = .ok (.aload_n 0, 1) := by decide +kernel
theorem dX10_searchesAll_36 : decode cX10_searchesAll 36 = .ok (.iconst (-1), 1) := by decide +kernel
theorem dX10_searchesAll_37 : decode cX10_searchesAll 37 = .ok (.putfield 311, 3) := by decide +kernel
theorem dX10_searchesAll_40 : decode cX10_searchesAll 40 = .ok (.aload_n 0, 1) := by decide +kernel
theorem dX10_searchesAll_41 : decode cX10_searchesAll 41 = .ok (.getfield 51, 3) := by decide +kernel
theorem dX10_searchesAll_44 : decode cX10_searchesAll 44 = .ok (.iconst 0, 1) := by decide +kernel
theorem dX10_searchesAll_45 : decode cX10_searchesAll 45 = .ok (.aload_n 0, 1) := by decide +kernel
theorem dX10_searchesAll_46 : decode cX10_searchesAll 46 = .ok (.aload_n 0, 1) := by decide +kernel
theorem dX10_searchesAll_47 : decode cX10_searchesAll 47 = .ok (.invokevirtual 293, 3) := by decide +kernel
theorem dX10_searchesAll_50 : decode cX10_searchesAll 50 = .ok (.invokevirtual 299, 3) := by decide +kernel
theorem dX10_searchesAll_53 : decode cX10_searchesAll 53 = .ok (.iastore, 1) := by decide +kernel
theorem dX10_searchesAll_54 : decode cX10_searchesAll 54 = .ok (.aload_n 0, 1) := by decide +kernel
theorem dX10_searchesAll_55 : decode cX10_searchesAll 55 = .ok (.iconst 0, 1) := by decide +kernel
theorem dX10_searchesAll_56 : decode cX10_searchesAll 56 = .ok (.invokevirtual 397, 3) := by decide +kernel
theorem dX10_searchesAll_59 : decode cX10_searchesAll 59 = .ok (.return_, 1) := by decide +kernel
theorem dX10_search_0 : decode cX10_search 0 = .ok (.aload_n 0, 1) := by decide +kernel
theorem dX10_search_1 : decode cX10_search 1 = .ok (.invokevirtual 215, 3) := by decide +kernel
theorem dX10_search_4 : decode cX10_search 4 = .ok (.aload_n 0, 1) := by decide +kernel
theorem dX10_search_5 : decode cX10_search 5 = .ok (.iload_n 1, 1) := by decide +kernel
theorem dX10_search_6 : decode cX10_search 6 = .ok (.invokestatic 218, 3) := by decide +kernel
theorem dX10_search_9 : decode cX10_search 9 = .ok (.ifCond .eq 12, 3) := by decide +kernel
theorem dX10_search_12 : decode cX10_search 12 = .ok (.iload_n 2, 1) := by decide +kernel
theorem dX10_search_13 : decode cX10_search 13 = .ok (.iconst 0, 1) := by decide +kernel
theorem dX10_search_14 : decode cX10_search 14 = .ok (.iconst 5, 1) := by decide +kernel
theorem dX10_search_15 : decode cX10_search 15 = .ok (.invokestatic 156, 3) := by decide +kernel
theorem dX10_search_18 : decode cX10_search 18 = .ok (.ifCond .ne 7, 3) := by decide +kernel
theorem dX10_search_21 : decode cX10_search 21 = .ok (.iconst 1, 1) := by decide +kernel
theorem dX10_search_22 : decode cX10_search 22 = .ok (.goto 4, 3) := by decide +kernel
theorem dX10_search_25 : decode cX10_search 25 = .ok (.iconst 0, 1) := by decide +kernel
theorem dX10_search_26 : decode cX10_search 26 = .ok (.iconst 1, 1) := by decide +kernel
theorem dX10_search_27 : decode cX10_search 27 = .ok (.invokevirtual 221, 3) := by decide +kernel
theorem dX10_search_30 : decode cX10_search 30 = .ok (.ifCond .eq 5, 3) := by decide +kernel
theorem dX10_search_33 : decode cX10_search 33 = .ok (.iconst (-1), 1) := by decide +kernel
theorem dX10_search_34 : decode cX10_search 34 = .ok (.ireturn, 1) := by decide +kernel
theorem dX10_search_35 : decode cX10_search 35 = .ok (.aload_n 0, 1) := by decide +kernel
theorem dX10_search_36 : decode cX10_search 36 = .ok (.iload_n 1, 1) := by decide +kernel
theorem dX10_search_37 : decode cX10_search 37 = .ok (.invokevirtual 259, 3) := by decide +kernel
theorem dX10_search_40 : decode cX10_search 40 = .ok (.aload_n 0, 1) := by decide +kernel
theorem dX10_search_41 : decode cX10_search 41 = .ok (.invokevirtual 400, 3) := by decide +kernel
theorem dX10_search_44 : decode cX10_search 44 = .ok (.iload_n 2, 1) := by decide +kernel
theorem dX10_search_45 : decode cX10_search 45 = .ok (.tableswitch 60 0 4 #[35, 40, 45, 50, 55], 35) := by decide +kernel
theorem dX10_search_80 : decode cX10_search 80 = .ok (.aload_n 0, 1) := by decide +kernel
theorem dX10_search_81 : decode cX10_search 81 = .ok (.getfield 317, 3) := by decide +kernel
theorem dX10_search_84 : decode cX10_search 84 = .ok (.ireturn, 1) := by decide +kernel
theorem dX10_search_85 : decode cX10_search 85 = .ok (.aload_n 0, 1) := by decide +kernel
theorem dX10_search_86 : decode cX10_search 86 = .ok (.getfield 320, 3) := by decide +kernel
theorem dX10_search_89 : decode cX10_search 89 = .ok (.ireturn, 1) := by decide +kernel
theorem dX10_search_90 : decode cX10_search 90 = .ok (.aload_n 0, 1) := by decide +kernel
theorem dX10_search_91 : decode cX10_search 91 = .ok (.getfield 394, 3) := by decide +kernel
theorem dX10_search_94 : decode cX10_search 94 = .ok (.ireturn, 1) := by decide +kernel
theorem dX10_search_95 : decode cX10_search 95 = .ok (.aload_n 0, 1) := by decide +kernel
theorem dX10_search_96 : decode cX10_search 96 = .ok (.getfield 388, 3) := by decide +kernel
theorem dX10_search_99 : decode cX10_search 99 = .ok (.ireturn, 1) := by decide +kernel
theorem dX10_search_100 : decode cX10_search 100 = .ok (.aload_n 0, 1) := by decide +kernel
theorem dX10_search_101 : decode cX10_search 101 = .ok (.getfield 357, 3) := by decide +kernel
theorem dX10_search_104 : decode cX10_search 104 = .ok (.ireturn, 1) := by decide +kernel
theorem dX10_search_105 : decode cX10_search 105 = .ok (.aload_n 0, 1) := by decide +kernel
theorem dX10_search_106 : decode cX10_search 106 = .ok (.getfield 363, 3) := by decide +kernel
theorem dX10_search_109 : decode cX10_search 109 = .ok (.ireturn, 1) := by decide +kernel
theorem dX10_generator_0 : decode cX10_generator 0 = .ok (.aload_n 0, 1) := by decide +kernel
theorem dX10_generator_1 : decode cX10_generator 1 = .ok (.invokevirtual 215, 3) := by decide +kernel
theorem dX10_generator_4 : decode cX10_generator 4 = .ok (.aload_n 0, 1) := by decide +kernel
theorem dX10_generator_5 : decode cX10_generator 5 = .ok (.aload_n 0, 1) := by decide +kernel
theorem dX10_generator_6 : decode cX10_generator 6 = .ok (.iload_n 1, 1) := by decide +kernel
theorem dX10_generator_7 : decode cX10_generator 7 = .ok (.iload_n 3, 1) := by decide +kernel
theorem dX10_generator_8 : decode cX10_generator 8 = .ok (.invokevirtual 253, 3) := by decide +kernel
theorem dX10_generator_11 : decode cX10_generator 11 = .ok (.ifCond .ne 7, 3) := by decide +kernel
theorem dX10_generator_14 : decode cX10_generator 14 = .ok (.iconst 1, 1) := by decide +kernel
theorem dX10_generator_15 : decode cX10_generator 15 = .ok (.goto 4, 3) := by decide +kernel
theorem dX10_generator_18 : decode cX10_generator 18 = .ok (.iconst 0, 1) := by decide +kernel
theorem dX10_generator_19 : decode cX10_generator 19 = .ok (.iconst 1, 1) := by decide +kernel
theorem dX10_generator_20 : decode cX10_generator 20 = .ok (.invokevirtual 221, 3) := by decide +kernel
theorem dX10_generator_23 : decode cX10_generator 23 = .ok (.ifCond .eq 5, 3) := by decide +kernel
theorem dX10_generator_26 : decode cX10_generator 26 = .ok (.iconst (-1), 1) := by decide +kernel
theorem dX10_generator_27 : decode cX10_generator 27 = .ok (.ireturn, 1) := by decide +kernel
theorem dX10_generator_28 : decode cX10_generator 28 = .ok (.aload_n 0, 1) := by decide +kernel
theorem dX10_generator_29 : decode cX10_generator 29 = .ok (.iload_n 1, 1) := by decide +kernel
theorem dX10_generator_30 : decode cX10_generator 30 = .ok (.invokevirtual 259, 3) := by decide +kernel
theorem dX10_generator_33 : decode cX10_generator 33 = .ok (.aload_n 0, 1) := by decide +kernel
theorem dX10_generator_34 : decode cX10_generator 34 = .ok (.invokevirtual 400, 3) := by decide +kernel
theorem dX10_generator_37 : decode cX10_generator 37 = .ok (.aload_n 0, 1) := by decide +kernel
theorem dX10_generator_38 : decode cX10_generator 38 = .ok (.iload_n 2, 1) := by decide +kernel
theorem dX10_generator_39 : decode cX10_generator 39 = .ok (.iconst 0, 1) := by decide +kernel
theorem dX10_generator_40 : decode cX10_generator 40 = .ok (.aload_n 0, 1) := by decide +kernel
theorem dX10_generator_41 : decode cX10_generator 41 = .ok (.getfield 357, 3) := by decide +kernel
theorem dX10_generator_44 : decode cX10_generator 44 = .ok (.iconst 1, 1) := by decide +kernel
theorem dX10_generator_45 : decode cX10_generator 45 = .ok (.isub, 1) := by decide +kernel
theorem dX10_generator_46 : decode cX10_generator 46 = .ok (.invokestatic 156, 3) := by decide +kernel
theorem dX10_generator_49 : decode cX10_generator 49 = .ok (.ifCond .ne 7, 3) := by decide +kernel
theorem dX10_generator_52 : decode cX10_generator 52 = .ok (.iconst 1, 1) := by decide +kernel
theorem dX10_generator_53 : decode cX10_generator 53 = .ok (.goto 4, 3) := by decide +kernel
theorem dX10_generator_56 : decode cX10_generator 56 = .ok (.iconst 0, 1) := by decide +kernel
theorem dX10_generator_57 : decode cX10_generator 57 = .ok (.bipush 6, 2) := by decide +kernel
theorem dX10_generator_59 : decode cX10_generator 59 = .ok (.invokevirtual 221, 3) := by decide +kernel
theorem dX10_generator_62 : decode cX10_generator 62 = .ok (.ifCond .eq 5, 3) := by decide +kernel
theorem dX10_generator_65 : decode cX10_generator 65 = .ok (.iconst (-1), 1) := by decide +kernel
theorem dX10_generator_66 : decode cX10_generator 66 = .ok (.ireturn, 1) := by decide +kernel
theorem dX10_generator_67 : decode cX10_generator 67 = .ok (.aload_n 0, 1) := by decide +kernel
theorem dX10_generator_68 : decode cX10_generator 68 = .ok (.getfield 81, 3) := by decide +kernel
theorem dX10_generator_71 : decode cX10_generator 71 = .ok (.iload_n 2, 1) := by decide +kernel
theorem dX10_generator_72 : decode cX10_generator 72 = .ok (.iaload, 1) := by decide +kernel
theorem dX10_generator_73 : decode cX10_generator 73 = .ok (.iload_n 3, 1) := by decide +kernel
theorem dX10_generator_74 : decode cX10_generator 74 = .ok (.invokestatic 373, 3) := by decide +kernel
theorem dX10_generator_77 : decode cX10_generator 77 = .ok (.ireturn, 1) := by decide +kernel
theorem dX10_laysOther_0 : decode cX10_laysOther 0 = .ok (.aload_n 0, 1) := by decide +kernel
theorem dX10_laysOther_1 : decode cX10_laysOther 1 = .ok (.aload_n 0, 1) := by decide +kernel
theorem dX10_laysOther_2 : decode cX10_laysOther 2 = .ok (.getfield 256, 3) := by decide +kernel
theorem dX10_laysOther_5 : decode cX10_laysOther 5 = .ok (.putfield 403, 3) := by decide +kernel
theorem dX10_laysOther_8 : decode cX10_laysOther 8 = .ok (.iconst 0, 1) := by decide +kernel
theorem dX10_laysOther_9 : decode cX10_laysOther 9 = .ok (.istore_n 1, 1) := by decide +kernel
theorem dX10_laysOther_10 : decode cX10_laysOther 10 = .ok (.iload_n 1, 1) := by decide +kernel
theorem dX10_laysOther_11 : decode cX10_laysOther 11 = .ok (.aload_n 0, 1) := by decide +kernel
theorem dX10_laysOther_12 : decode cX10_laysOther 12 = .ok (.getfield 256, 3) := by decide +kernel
theorem dX10_laysOther_15 : decode cX10_laysOther 15 = .ok (.if_icmp .ge 59, 3) := by decide +kernel
theorem dX10_laysOther_18 : decode cX10_laysOther 18 = .ok (.aload_n 0, 1) := by decide +kernel
theorem dX10_laysOther_19 : decode cX10_laysOther 19 = .ok (.getfield 84, 3) := by decide +kernel
theorem dX10_laysOther_22 : decode cX10_laysOther 22 = .ok (.iload_n 1, 1) := by decide +kernel
theorem dX10_laysOther_23 : decode cX10_laysOther 23 = .ok (.aload_n 0, 1) := by decide +kernel
theorem dX10_laysOther_24 : decode cX10_laysOther 24 = .ok (.getfield 33, 3) := by decide +kernel
theorem dX10_laysOther_27 : decode cX10_laysOther 27 = .ok (.iload_n 1, 1) := by decide +kernel
theorem dX10_laysOther_28 : decode cX10_laysOther 28 = .ok (.iaload, 1) := by decide +kernel
theorem dX10_laysOther_29 : decode cX10_laysOther 29 = .ok (.iastore, 1) := by decide +kernel
theorem dX10_laysOther_30 : decode cX10_laysOther 30 = .ok (.iconst 0, 1) := by decide +kernel
theorem dX10_laysOther_31 : decode cX10_laysOther 31 = .ok (.istore_n 2, 1) := by decide +kernel
theorem dX10_laysOther_32 : decode cX10_laysOther 32 = .ok (.iload_n 2, 1) := by decide +kernel
theorem dX10_laysOther_33 : decode cX10_laysOther 33 = .ok (.aload_n 0, 1) := by decide +kernel
theorem dX10_laysOther_34 : decode cX10_laysOther 34 = .ok (.getfield 256, 3) := by decide +kernel
theorem dX10_laysOther_37 : decode cX10_laysOther 37 = .ok (.if_icmp .ge 31, 3) := by decide +kernel
theorem dX10_laysOther_40 : decode cX10_laysOther 40 = .ok (.aload_n 0, 1) := by decide +kernel
theorem dX10_laysOther_41 : decode cX10_laysOther 41 = .ok (.getfield 87, 3) := by decide +kernel
theorem dX10_laysOther_44 : decode cX10_laysOther 44 = .ok (.bipush 7, 2) := by decide +kernel
theorem dX10_laysOther_46 : decode cX10_laysOther 46 = .ok (.iload_n 1, 1) := by decide +kernel
theorem dX10_laysOther_47 : decode cX10_laysOther 47 = .ok (.imul, 1) := by decide +kernel
theorem dX10_laysOther_48 : decode cX10_laysOther 48 = .ok (.iload_n 2, 1) := by decide +kernel
theorem dX10_laysOther_49 : decode cX10_laysOther 49 = .ok (.iadd, 1) := by decide +kernel
theorem dX10_laysOther_50 : decode cX10_laysOther 50 = .ok (.aload_n 0, 1) := by decide +kernel
theorem dX10_laysOther_51 : decode cX10_laysOther 51 = .ok (.getfield 36, 3) := by decide +kernel
theorem dX10_laysOther_54 : decode cX10_laysOther 54 = .ok (.bipush 7, 2) := by decide +kernel
theorem dX10_laysOther_56 : decode cX10_laysOther 56 = .ok (.iload_n 1, 1) := by decide +kernel
theorem dX10_laysOther_57 : decode cX10_laysOther 57 = .ok (.imul, 1) := by decide +kernel
theorem dX10_laysOther_58 : decode cX10_laysOther 58 = .ok (.iload_n 2, 1) := by decide +kernel
theorem dX10_laysOther_59 : decode cX10_laysOther 59 = .ok (.iadd, 1) := by decide +kernel
theorem dX10_laysOther_60 : decode cX10_laysOther 60 = .ok (.iaload, 1) := by decide +kernel
theorem dX10_laysOther_61 : decode cX10_laysOther 61 = .ok (.iastore, 1) := by decide +kernel
theorem dX10_laysOther_62 : decode cX10_laysOther 62 = .ok (.iinc 2 1, 3) := by decide +kernel
theorem dX10_laysOther_65 : decode cX10_laysOther 65 = .ok (.goto (-33), 3) := by decide +kernel
theorem dX10_laysOther_68 : decode cX10_laysOther 68 = .ok (.iinc 1 1, 3) := by decide +kernel
theorem dX10_laysOther_71 : decode cX10_laysOther 71 = .ok (.goto (-61), 3) := by decide +kernel
theorem dX10_laysOther_74 : decode cX10_laysOther 74 = .ok (.return_, 1) := by decide +kernel
theorem dX10_fits_0 : decode cX10_fits 0 = .ok (.aload_n 0, 1) := by decide +kernel
theorem dX10_fits_1 : decode cX10_fits 1 = .ok (.getfield 33, 3) := by decide +kernel
theorem dX10_fits_4 : decode cX10_fits 4 = .ok (.iload_n 1, 1) := by decide +kernel
theorem dX10_fits_5 : decode cX10_fits 5 = .ok (.iaload, 1) := by decide +kernel
theorem dX10_fits_6 : decode cX10_fits 6 = .ok (.aload_n 0, 1) := by decide +kernel
theorem dX10_fits_7 : decode cX10_fits 7 = .ok (.getfield 84, 3) := by decide +kernel
theorem dX10_fits_10 : decode cX10_fits 10 = .ok (.iload_n 2, 1) := by decide +kernel
theorem dX10_fits_11 : decode cX10_fits 11 = .ok (.iaload, 1) := by decide +kernel
theorem dX10_fits_12 : decode cX10_fits 12 = .ok (.if_icmp .eq 5, 3) := by decide +kernel
theorem dX10_fits_15 : decode cX10_fits 15 = .ok (.iconst 0, 1) := by decide +kernel
theorem dX10_fits_16 : decode cX10_fits 16 = .ok (.ireturn, 1) := by decide +kernel
theorem dX10_fits_17 : decode cX10_fits 17 = .ok (.iconst 0, 1) := by decide +kernel
theorem dX10_fits_18 : decode cX10_fits 18 = .ok (.istore_n 3, 1) := by decide +kernel
theorem dX10_fits_19 : decode cX10_fits 19 = .ok (.iload_n 3, 1) := by decide +kernel
theorem dX10_fits_20 : decode cX10_fits 20 = .ok (.iload_n 1, 1) := by decide +kernel
theorem dX10_fits_21 : decode cX10_fits 21 = .ok (.if_icmp .ge 51, 3) := by decide +kernel
theorem dX10_fits_24 : decode cX10_fits 24 = .ok (.aload_n 0, 1) := by decide +kernel
theorem dX10_fits_25 : decode cX10_fits 25 = .ok (.getfield 90, 3) := by decide +kernel
theorem dX10_fits_28 : decode cX10_fits 28 = .ok (.iload_n 3, 1) := by decide +kernel
theorem dX10_fits_29 : decode cX10_fits 29 = .ok (.iaload, 1) := by decide +kernel
theorem dX10_fits_30 : decode cX10_fits 30 = .ok (.iload_n 2, 1) := by decide +kernel
theorem dX10_fits_31 : decode cX10_fits 31 = .ok (.if_icmp .eq 33, 3) := by decide +kernel
theorem dX10_fits_34 : decode cX10_fits 34 = .ok (.aload_n 0, 1) := by decide +kernel
theorem dX10_fits_35 : decode cX10_fits 35 = .ok (.getfield 36, 3) := by decide +kernel
theorem dX10_fits_38 : decode cX10_fits 38 = .ok (.bipush 7, 2) := by decide +kernel
theorem dX10_fits_40 : decode cX10_fits 40 = .ok (.iload_n 1, 1) := by decide +kernel
theorem dX10_fits_41 : decode cX10_fits 41 = .ok (.imul, 1) := by decide +kernel
theorem dX10_fits_42 : decode cX10_fits 42 = .ok (.iload_n 3, 1) := by decide +kernel
theorem dX10_fits_43 : decode cX10_fits 43 = .ok (.iadd, 1) := by decide +kernel
theorem dX10_fits_44 : decode cX10_fits 44 = .ok (.iaload, 1) := by decide +kernel
theorem dX10_fits_45 : decode cX10_fits 45 = .ok (.aload_n 0, 1) := by decide +kernel
theorem dX10_fits_46 : decode cX10_fits 46 = .ok (.getfield 87, 3) := by decide +kernel
theorem dX10_fits_49 : decode cX10_fits 49 = .ok (.bipush 7, 2) := by decide +kernel
theorem dX10_fits_51 : decode cX10_fits 51 = .ok (.iload_n 2, 1) := by decide +kernel
theorem dX10_fits_52 : decode cX10_fits 52 = .ok (.imul, 1) := by decide +kernel
theorem dX10_fits_53 : decode cX10_fits 53 = .ok (.aload_n 0, 1) := by decide +kernel
theorem dX10_fits_54 : decode cX10_fits 54 = .ok (.getfield 90, 3) := by decide +kernel
theorem dX10_fits_57 : decode cX10_fits 57 = .ok (.iload_n 3, 1) := by decide +kernel
theorem dX10_fits_58 : decode cX10_fits 58 = .ok (.iaload, 1) := by decide +kernel
theorem dX10_fits_59 : decode cX10_fits 59 = .ok (.iadd, 1) := by decide +kernel
theorem dX10_fits_60 : decode cX10_fits 60 = .ok (.iaload, 1) := by decide +kernel
theorem dX10_fits_61 : decode cX10_fits 61 = .ok (.if_icmp .eq 5, 3) := by decide +kernel
theorem dX10_fits_64 : decode cX10_fits 64 = .ok (.iconst 0, 1) := by decide +kernel
theorem dX10_fits_65 : decode cX10_fits 65 = .ok (.ireturn, 1) := by decide +kernel
theorem dX10_fits_66 : decode cX10_fits 66 = .ok (.iinc 3 1, 3) := by decide +kernel
theorem dX10_fits_69 : decode cX10_fits 69 = .ok (.goto (-50), 3) := by decide +kernel
theorem dX10_fits_72 : decode cX10_fits 72 = .ok (.iconst 1, 1) := by decide +kernel
theorem dX10_fits_73 : decode cX10_fits 73 = .ok (.ireturn, 1) := by decide +kernel
theorem dX10_mapsFrom_0 : decode cX10_mapsFrom 0 = .ok (.iload_n 1, 1) := by decide +kernel
theorem dX10_mapsFrom_1 : decode cX10_mapsFrom 1 = .ok (.aload_n 0, 1) := by decide +kernel
theorem dX10_mapsFrom_2 : decode cX10_mapsFrom 2 = .ok (.getfield 256, 3) := by decide +kernel
theorem dX10_mapsFrom_5 : decode cX10_mapsFrom 5 = .ok (.if_icmp .ne 126, 3) := by decide +kernel
theorem dX10_mapsFrom_8 : decode cX10_mapsFrom 8 = .ok (.iconst 1, 1) := by decide +kernel
theorem dX10_mapsFrom_9 : decode cX10_mapsFrom 9 = .ok (.istore_n 2, 1) := by decide +kernel
theorem dX10_mapsFrom_10 : decode cX10_mapsFrom 10 = .ok (.iconst 0, 1) := by decide +kernel
theorem dX10_mapsFrom_11 : decode cX10_mapsFrom 11 = .ok (.istore_n 3, 1) := by decide +kernel
theorem dX10_mapsFrom_12 : decode cX10_mapsFrom 12 = .ok (.iload_n 3, 1) := by decide +kernel
theorem dX10_mapsFrom_13 : decode cX10_mapsFrom 13 = .ok (.aload_n 0, 1) := by decide +kernel
theorem dX10_mapsFrom_14 : decode cX10_mapsFrom 14 = .ok (.getfield 256, 3) := by decide +kernel
theorem dX10_mapsFrom_17 : decode cX10_mapsFrom 17 = .ok (.if_icmp .ge 85, 3) := by decide +kernel
theorem dX10_mapsFrom_20 : decode cX10_mapsFrom 20 = .ok (.iload_n 2, 1) := by decide +kernel
theorem dX10_mapsFrom_21 : decode cX10_mapsFrom 21 = .ok (.ifCond .eq 28, 3) := by decide +kernel
theorem dX10_mapsFrom_24 : decode cX10_mapsFrom 24 = .ok (.aload_n 0, 1) := by decide +kernel
theorem dX10_mapsFrom_25 : decode cX10_mapsFrom 25 = .ok (.getfield 406, 3) := by decide +kernel
theorem dX10_mapsFrom_28 : decode cX10_mapsFrom 28 = .ok (.iload_n 3, 1) := by decide +kernel
theorem dX10_mapsFrom_29 : decode cX10_mapsFrom 29 = .ok (.invokestatic 182, 3) := by decide +kernel
theorem dX10_mapsFrom_32 : decode cX10_mapsFrom 32 = .ok (.ifCond .eq 13, 3) := by decide +kernel
theorem dX10_mapsFrom_35 : decode cX10_mapsFrom 35 = .ok (.aload_n 0, 1) := by decide +kernel
theorem dX10_mapsFrom_36 : decode cX10_mapsFrom 36 = .ok (.getfield 90, 3) := by decide +kernel
theorem dX10_mapsFrom_39 : decode cX10_mapsFrom 39 = .ok (.iload_n 3, 1) := by decide +kernel
theorem dX10_mapsFrom_40 : decode cX10_mapsFrom 40 = .ok (.iaload, 1) := by decide +kernel
theorem dX10_mapsFrom_41 : decode cX10_mapsFrom 41 = .ok (.iload_n 3, 1) := by decide +kernel
theorem dX10_mapsFrom_42 : decode cX10_mapsFrom 42 = .ok (.if_icmp .ne 7, 3) := by decide +kernel
theorem dX10_mapsFrom_45 : decode cX10_mapsFrom 45 = .ok (.iconst 1, 1) := by decide +kernel
theorem dX10_mapsFrom_46 : decode cX10_mapsFrom 46 = .ok (.goto 4, 3) := by decide +kernel
theorem dX10_mapsFrom_49 : decode cX10_mapsFrom 49 = .ok (.iconst 0, 1) := by decide +kernel
theorem dX10_mapsFrom_50 : decode cX10_mapsFrom 50 = .ok (.istore_n 2, 1) := by decide +kernel
theorem dX10_mapsFrom_51 : decode cX10_mapsFrom 51 = .ok (.aload_n 0, 1) := by decide +kernel
theorem dX10_mapsFrom_52 : decode cX10_mapsFrom 52 = .ok (.getfield 96, 3) := by decide +kernel
theorem dX10_mapsFrom_55 : decode cX10_mapsFrom 55 = .ok (.iload_n 3, 1) := by decide +kernel
theorem dX10_mapsFrom_56 : decode cX10_mapsFrom 56 = .ok (.dup2, 1) := by decide +kernel
theorem dX10_mapsFrom_57 : decode cX10_mapsFrom 57 = .ok (.iaload, 1) := by decide +kernel
theorem dX10_mapsFrom_58 : decode cX10_mapsFrom 58 = .ok (.iconst 1, 1) := by decide +kernel
theorem dX10_mapsFrom_59 : decode cX10_mapsFrom 59 = .ok (.aload_n 0, 1) := by decide +kernel
theorem dX10_mapsFrom_60 : decode cX10_mapsFrom 60 = .ok (.getfield 90, 3) := by decide +kernel
theorem dX10_mapsFrom_63 : decode cX10_mapsFrom 63 = .ok (.iload_n 3, 1) := by decide +kernel
theorem dX10_mapsFrom_64 : decode cX10_mapsFrom 64 = .ok (.iaload, 1) := by decide +kernel
theorem dX10_mapsFrom_65 : decode cX10_mapsFrom 65 = .ok (.ishl, 1) := by decide +kernel
theorem dX10_mapsFrom_66 : decode cX10_mapsFrom 66 = .ok (.ior, 1) := by decide +kernel
theorem dX10_mapsFrom_67 : decode cX10_mapsFrom 67 = .ok (.iastore, 1) := by decide +kernel
theorem dX10_mapsFrom_68 : decode cX10_mapsFrom 68 = .ok (.aload_n 0, 1) := by decide +kernel
theorem dX10_mapsFrom_69 : decode cX10_mapsFrom 69 = .ok (.getfield 93, 3) := by decide +kernel
theorem dX10_mapsFrom_72 : decode cX10_mapsFrom 72 = .ok (.iload_n 3, 1) := by decide +kernel
theorem dX10_mapsFrom_73 : decode cX10_mapsFrom 73 = .ok (.aload_n 0, 1) := by decide +kernel
theorem dX10_mapsFrom_74 : decode cX10_mapsFrom 74 = .ok (.getfield 409, 3) := by decide +kernel
theorem dX10_mapsFrom_77 : decode cX10_mapsFrom 77 = .ok (.ifCond .ne 12, 3) := by decide +kernel
theorem dX10_mapsFrom_80 : decode cX10_mapsFrom 80 = .ok (.aload_n 0, 1) := by decide +kernel
theorem dX10_mapsFrom_81 : decode cX10_mapsFrom 81 = .ok (.getfield 90, 3) := by decide +kernel
theorem dX10_mapsFrom_84 : decode cX10_mapsFrom 84 = .ok (.iload_n 3, 1) := by decide +kernel
theorem dX10_mapsFrom_85 : decode cX10_mapsFrom 85 = .ok (.iaload, 1) := by decide +kernel
theorem dX10_mapsFrom_86 : decode cX10_mapsFrom 86 = .ok (.goto 9, 3) := by decide +kernel
theorem dX10_mapsFrom_89 : decode cX10_mapsFrom 89 = .ok (.aload_n 0, 1) := by decide +kernel
theorem dX10_mapsFrom_90 : decode cX10_mapsFrom 90 = .ok (.getfield 93, 3) := by decide +kernel
theorem dX10_mapsFrom_93 : decode cX10_mapsFrom 93 = .ok (.iload_n 3, 1) := by decide +kernel
theorem dX10_mapsFrom_94 : decode cX10_mapsFrom 94 = .ok (.iaload, 1) := by decide +kernel
theorem dX10_mapsFrom_95 : decode cX10_mapsFrom 95 = .ok (.iastore, 1) := by decide +kernel
theorem dX10_mapsFrom_96 : decode cX10_mapsFrom 96 = .ok (.iinc 3 1, 3) := by decide +kernel
theorem dX10_mapsFrom_99 : decode cX10_mapsFrom 99 = .ok (.goto (-87), 3) := by decide +kernel
theorem dX10_mapsFrom_102 : decode cX10_mapsFrom 102 = .ok (.aload_n 0, 1) := by decide +kernel
theorem dX10_mapsFrom_103 : decode cX10_mapsFrom 103 = .ok (.dup, 1) := by decide +kernel
theorem dX10_mapsFrom_104 : decode cX10_mapsFrom 104 = .ok (.getfield 409, 3) := by decide +kernel
theorem dX10_mapsFrom_107 : decode cX10_mapsFrom 107 = .ok (.iconst 1, 1) := by decide +kernel
theorem dX10_mapsFrom_108 : decode cX10_mapsFrom 108 = .ok (.iadd, 1) := by decide +kernel
theorem dX10_mapsFrom_109 : decode cX10_mapsFrom 109 = .ok (.putfield 409, 3) := by decide +kernel
theorem dX10_mapsFrom_112 : decode cX10_mapsFrom 112 = .ok (.aload_n 0, 1) := by decide +kernel
theorem dX10_mapsFrom_113 : decode cX10_mapsFrom 113 = .ok (.dup, 1) := by decide +kernel
theorem dX10_mapsFrom_114 : decode cX10_mapsFrom 114 = .ok (.getfield 412, 3) := by decide +kernel
theorem dX10_mapsFrom_117 : decode cX10_mapsFrom 117 = .ok (.iload_n 2, 1) := by decide +kernel
theorem dX10_mapsFrom_118 : decode cX10_mapsFrom 118 = .ok (.ifCond .eq 7, 3) := by decide +kernel
theorem dX10_mapsFrom_121 : decode cX10_mapsFrom 121 = .ok (.iconst 1, 1) := by decide +kernel
theorem dX10_mapsFrom_122 : decode cX10_mapsFrom 122 = .ok (.goto 4, 3) := by decide +kernel
theorem dX10_mapsFrom_125 : decode cX10_mapsFrom 125 = .ok (.iconst 0, 1) := by decide +kernel
theorem dX10_mapsFrom_126 : decode cX10_mapsFrom 126 = .ok (.iadd, 1) := by decide +kernel
theorem dX10_mapsFrom_127 : decode cX10_mapsFrom 127 = .ok (.putfield 412, 3) := by decide +kernel
theorem dX10_mapsFrom_130 : decode cX10_mapsFrom 130 = .ok (.return_, 1) := by decide +kernel
theorem dX10_mapsFrom_131 : decode cX10_mapsFrom 131 = .ok (.iconst 0, 1) := by decide +kernel
theorem dX10_mapsFrom_132 : decode cX10_mapsFrom 132 = .ok (.istore_n 2, 1) := by decide +kernel
theorem dX10_mapsFrom_133 : decode cX10_mapsFrom 133 = .ok (.iload_n 2, 1) := by decide +kernel
theorem dX10_mapsFrom_134 : decode cX10_mapsFrom 134 = .ok (.aload_n 0, 1) := by decide +kernel
theorem dX10_mapsFrom_135 : decode cX10_mapsFrom 135 = .ok (.getfield 256, 3) := by decide +kernel
theorem dX10_mapsFrom_138 : decode cX10_mapsFrom 138 = .ok (.if_icmp .ge 32, 3) := by decide +kernel
theorem dX10_mapsFrom_141 : decode cX10_mapsFrom 141 = .ok (.aload_n 0, 1) := by decide +kernel
theorem dX10_mapsFrom_142 : decode cX10_mapsFrom 142 = .ok (.iload_n 1, 1) := by decide +kernel
theorem dX10_mapsFrom_143 : decode cX10_mapsFrom 143 = .ok (.iload_n 2, 1) := by decide +kernel
theorem dX10_mapsFrom_144 : decode cX10_mapsFrom 144 = .ok (.invokevirtual 415, 3) := by decide +kernel
theorem dX10_mapsFrom_147 : decode cX10_mapsFrom 147 = .ok (.ifCond .eq 17, 3) := by decide +kernel
theorem dX10_mapsFrom_150 : decode cX10_mapsFrom 150 = .ok (.aload_n 0, 1) := by decide +kernel
theorem dX10_mapsFrom_151 : decode cX10_mapsFrom 151 = .ok (.getfield 90, 3) := by decide +kernel
theorem dX10_mapsFrom_154 : decode cX10_mapsFrom 154 = .ok (.iload_n 1, 1) := by decide +kernel
theorem dX10_mapsFrom_155 : decode cX10_mapsFrom 155 = .ok (.iload_n 2, 1) := by decide +kernel
theorem dX10_mapsFrom_156 : decode cX10_mapsFrom 156 = .ok (.iastore, 1) := by decide +kernel
theorem dX10_mapsFrom_157 : decode cX10_mapsFrom 157 = .ok (.aload_n 0, 1) := by decide +kernel
theorem dX10_mapsFrom_158 : decode cX10_mapsFrom 158 = .ok (.iload_n 1, 1) := by decide +kernel
theorem dX10_mapsFrom_159 : decode cX10_mapsFrom 159 = .ok (.iconst 1, 1) := by decide +kernel
theorem dX10_mapsFrom_160 : decode cX10_mapsFrom 160 = .ok (.iadd, 1) := by decide +kernel
theorem dX10_mapsFrom_161 : decode cX10_mapsFrom 161 = .ok (.invokevirtual 418, 3) := by decide +kernel
theorem dX10_mapsFrom_164 : decode cX10_mapsFrom 164 = .ok (.iinc 2 1, 3) := by decide +kernel
theorem dX10_mapsFrom_167 : decode cX10_mapsFrom 167 = .ok (.goto (-34), 3) := by decide +kernel
theorem dX10_mapsFrom_170 : decode cX10_mapsFrom 170 = .ok (.return_, 1) := by decide +kernel
theorem dX10_mapsAll_0 : decode cX10_mapsAll 0 = .ok (.aload_n 0, 1) := by decide +kernel
theorem dX10_mapsAll_1 : decode cX10_mapsAll 1 = .ok (.iconst 0, 1) := by decide +kernel
theorem dX10_mapsAll_2 : decode cX10_mapsAll 2 = .ok (.putfield 409, 3) := by decide +kernel
theorem dX10_mapsAll_5 : decode cX10_mapsAll 5 = .ok (.aload_n 0, 1) := by decide +kernel
theorem dX10_mapsAll_6 : decode cX10_mapsAll 6 = .ok (.iconst 0, 1) := by decide +kernel
theorem dX10_mapsAll_7 : decode cX10_mapsAll 7 = .ok (.putfield 412, 3) := by decide +kernel
theorem dX10_mapsAll_10 : decode cX10_mapsAll 10 = .ok (.aload_n 0, 1) := by decide +kernel
theorem dX10_mapsAll_11 : decode cX10_mapsAll 11 = .ok (.iload_n 1, 1) := by decide +kernel
theorem dX10_mapsAll_12 : decode cX10_mapsAll 12 = .ok (.putfield 406, 3) := by decide +kernel
theorem dX10_mapsAll_15 : decode cX10_mapsAll 15 = .ok (.iconst 0, 1) := by decide +kernel
theorem dX10_mapsAll_16 : decode cX10_mapsAll 16 = .ok (.istore_n 2, 1) := by decide +kernel
theorem dX10_mapsAll_17 : decode cX10_mapsAll 17 = .ok (.iload_n 2, 1) := by decide +kernel
theorem dX10_mapsAll_18 : decode cX10_mapsAll 18 = .ok (.bipush 7, 2) := by decide +kernel
theorem dX10_mapsAll_20 : decode cX10_mapsAll 20 = .ok (.if_icmp .ge 16, 3) := by decide +kernel
theorem dX10_mapsAll_23 : decode cX10_mapsAll 23 = .ok (.aload_n 0, 1) := by decide +kernel
theorem dX10_mapsAll_24 : decode cX10_mapsAll 24 = .ok (.getfield 96, 3) := by decide +kernel
theorem dX10_mapsAll_27 : decode cX10_mapsAll 27 = .ok (.iload_n 2, 1) := by decide +kernel
theorem dX10_mapsAll_28 : decode cX10_mapsAll 28 = .ok (.iconst 0, 1) := by decide +kernel
theorem dX10_mapsAll_29 : decode cX10_mapsAll 29 = .ok (.iastore, 1) := by decide +kernel
theorem dX10_mapsAll_30 : decode cX10_mapsAll 30 = .ok (.iinc 2 1, 3) := by decide +kernel
theorem dX10_mapsAll_33 : decode cX10_mapsAll 33 = .ok (.goto (-16), 3) := by decide +kernel
theorem dX10_mapsAll_36 : decode cX10_mapsAll 36 = .ok (.aload_n 0, 1) := by decide +kernel
theorem dX10_mapsAll_37 : decode cX10_mapsAll 37 = .ok (.getfield 256, 3) := by decide +kernel
theorem dX10_mapsAll_40 : decode cX10_mapsAll 40 = .ok (.aload_n 0, 1) := by decide +kernel
theorem dX10_mapsAll_41 : decode cX10_mapsAll 41 = .ok (.getfield 403, 3) := by decide +kernel
theorem dX10_mapsAll_44 : decode cX10_mapsAll 44 = .ok (.if_icmp .ne 8, 3) := by decide +kernel
theorem dX10_mapsAll_47 : decode cX10_mapsAll 47 = .ok (.aload_n 0, 1) := by decide +kernel
theorem dX10_mapsAll_48 : decode cX10_mapsAll 48 = .ok (.iconst 0, 1) := by decide +kernel
theorem dX10_mapsAll_49 : decode cX10_mapsAll 49 = .ok (.invokevirtual 418, 3) := by decide +kernel
theorem dX10_mapsAll_52 : decode cX10_mapsAll 52 = .ok (.return_, 1) := by decide +kernel
theorem dX10_laysMaps_0 : decode cX10_laysMaps 0 = .ok (.aload_n 0, 1) := by decide +kernel
theorem dX10_laysMaps_1 : decode cX10_laysMaps 1 = .ok (.iload_n 2, 1) := by decide +kernel
theorem dX10_laysMaps_2 : decode cX10_laysMaps 2 = .ok (.invokevirtual 259, 3) := by decide +kernel
theorem dX10_laysMaps_5 : decode cX10_laysMaps 5 = .ok (.aload_n 0, 1) := by decide +kernel
theorem dX10_laysMaps_6 : decode cX10_laysMaps 6 = .ok (.invokevirtual 421, 3) := by decide +kernel
theorem dX10_laysMaps_9 : decode cX10_laysMaps 9 = .ok (.aload_n 0, 1) := by decide +kernel
theorem dX10_laysMaps_10 : decode cX10_laysMaps 10 = .ok (.iload_n 1, 1) := by decide +kernel
theorem dX10_laysMaps_11 : decode cX10_laysMaps 11 = .ok (.invokevirtual 259, 3) := by decide +kernel
theorem dX10_laysMaps_14 : decode cX10_laysMaps 14 = .ok (.aload_n 0, 1) := by decide +kernel
theorem dX10_laysMaps_15 : decode cX10_laysMaps 15 = .ok (.iload_n 3, 1) := by decide +kernel
theorem dX10_laysMaps_16 : decode cX10_laysMaps 16 = .ok (.invokevirtual 424, 3) := by decide +kernel
theorem dX10_laysMaps_19 : decode cX10_laysMaps 19 = .ok (.return_, 1) := by decide +kernel
theorem dX10_symmetries_0 : decode cX10_symmetries 0 = .ok (.aload_n 0, 1) := by decide +kernel
theorem dX10_symmetries_1 : decode cX10_symmetries 1 = .ok (.invokevirtual 215, 3) := by decide +kernel
theorem dX10_symmetries_4 : decode cX10_symmetries 4 = .ok (.aload_n 0, 1) := by decide +kernel
theorem dX10_symmetries_5 : decode cX10_symmetries 5 = .ok (.iload_n 1, 1) := by decide +kernel
theorem dX10_symmetries_6 : decode cX10_symmetries 6 = .ok (.invokestatic 218, 3) := by decide +kernel
theorem dX10_symmetries_9 : decode cX10_symmetries 9 = .ok (.ifCond .eq 12, 3) := by decide +kernel
theorem dX10_symmetries_12 : decode cX10_symmetries 12 = .ok (.iload_n 2, 1) := by decide +kernel
theorem dX10_symmetries_13 : decode cX10_symmetries 13 = .ok (.iconst 0, 1) := by decide +kernel
theorem dX10_symmetries_14 : decode cX10_symmetries 14 = .ok (.iconst 2, 1) := by decide +kernel
theorem dX10_symmetries_15 : decode cX10_symmetries 15 = .ok (.invokestatic 156, 3) := by decide +kernel
theorem dX10_symmetries_18 : decode cX10_symmetries 18 = .ok (.ifCond .ne 7, 3) := by decide +kernel
theorem dX10_symmetries_21 : decode cX10_symmetries 21 = .ok (.iconst 1, 1) := by decide +kernel
theorem dX10_symmetries_22 : decode cX10_symmetries 22 = .ok (.goto 4, 3) := by decide +kernel
theorem dX10_symmetries_25 : decode cX10_symmetries 25 = .ok (.iconst 0, 1) := by decide +kernel
theorem dX10_symmetries_26 : decode cX10_symmetries 26 = .ok (.iconst 1, 1) := by decide +kernel
theorem dX10_symmetries_27 : decode cX10_symmetries 27 = .ok (.invokevirtual 221, 3) := by decide +kernel
theorem dX10_symmetries_30 : decode cX10_symmetries 30 = .ok (.ifCond .eq 5, 3) := by decide +kernel
theorem dX10_symmetries_33 : decode cX10_symmetries 33 = .ok (.iconst (-1), 1) := by decide +kernel
theorem dX10_symmetries_34 : decode cX10_symmetries 34 = .ok (.ireturn, 1) := by decide +kernel
theorem dX10_symmetries_35 : decode cX10_symmetries 35 = .ok (.aload_n 0, 1) := by decide +kernel
theorem dX10_symmetries_36 : decode cX10_symmetries 36 = .ok (.iload_n 1, 1) := by decide +kernel
theorem dX10_symmetries_37 : decode cX10_symmetries 37 = .ok (.iload_n 1, 1) := by decide +kernel
theorem dX10_symmetries_38 : decode cX10_symmetries 38 = .ok (.iconst 0, 1) := by decide +kernel
theorem dX10_symmetries_39 : decode cX10_symmetries 39 = .ok (.invokevirtual 427, 3) := by decide +kernel
theorem dX10_symmetries_42 : decode cX10_symmetries 42 = .ok (.iload_n 2, 1) := by decide +kernel
theorem dX10_symmetries_43 : decode cX10_symmetries 43 = .ok (.ifCond .ne 8, 3) := by decide +kernel
theorem dX10_symmetries_46 : decode cX10_symmetries 46 = .ok (.aload_n 0, 1) := by decide +kernel
theorem dX10_symmetries_47 : decode cX10_symmetries 47 = .ok (.getfield 409, 3) := by decide +kernel
theorem dX10_symmetries_50 : decode cX10_symmetries 50 = .ok (.ireturn, 1) := by decide +kernel
theorem dX10_symmetries_51 : decode cX10_symmetries 51 = .ok (.iconst 0, 1) := by decide +kernel
theorem dX10_symmetries_52 : decode cX10_symmetries 52 = .ok (.istore_n 3, 1) := by decide +kernel
theorem dX10_symmetries_53 : decode cX10_symmetries 53 = .ok (.iconst 0, 1) := by decide +kernel
theorem dX10_symmetries_54 : decode cX10_symmetries 54 = .ok (.istore 4, 2) := by decide +kernel
theorem dX10_symmetries_56 : decode cX10_symmetries 56 = .ok (.iconst 0, 1) := by decide +kernel
theorem dX10_symmetries_57 : decode cX10_symmetries 57 = .ok (.istore 5, 2) := by decide +kernel
theorem dX10_symmetries_59 : decode cX10_symmetries 59 = .ok (.iload 5, 2) := by decide +kernel
theorem dX10_symmetries_61 : decode cX10_symmetries 61 = .ok (.aload_n 0, 1) := by decide +kernel
theorem dX10_symmetries_62 : decode cX10_symmetries 62 = .ok (.getfield 256, 3) := by decide +kernel
theorem dX10_symmetries_65 : decode cX10_symmetries 65 = .ok (.if_icmp .ge 58, 3) := by decide +kernel
theorem dX10_symmetries_68 : decode cX10_symmetries 68 = .ok (.iload_n 3, 1) := by decide +kernel
theorem dX10_symmetries_69 : decode cX10_symmetries 69 = .ok (.aload_n 0, 1) := by decide +kernel
theorem dX10_symmetries_70 : decode cX10_symmetries 70 = .ok (.getfield 96, 3) := by decide +kernel
theorem dX10_symmetries_73 : decode cX10_symmetries 73 = .ok (.iload 5, 2) := by decide +kernel
theorem dX10_symmetries_75 : decode cX10_symmetries 75 = .ok (.iaload, 1) := by decide +kernel
theorem dX10_symmetries_76 : decode cX10_symmetries 76 = .ok (.iconst 1, 1) := by decide +kernel
theorem dX10_symmetries_77 : decode cX10_symmetries 77 = .ok (.iload 5, 2) := by decide +kernel
theorem dX10_symmetries_79 : decode cX10_symmetries 79 = .ok (.ishl, 1) := by decide +kernel
theorem dX10_symmetries_80 : decode cX10_symmetries 80 = .ok (.iconst 1, 1) := by decide +kernel
theorem dX10_symmetries_81 : decode cX10_symmetries 81 = .ok (.isub, 1) := by decide +kernel
theorem dX10_symmetries_82 : decode cX10_symmetries 82 = .ok (.iand, 1) := by decide +kernel
theorem dX10_symmetries_83 : decode cX10_symmetries 83 = .ok (.ifCond .ne 7, 3) := by decide +kernel
theorem dX10_symmetries_86 : decode cX10_symmetries 86 = .ok (.iconst 1, 1) := by decide +kernel
theorem dX10_symmetries_87 : decode cX10_symmetries 87 = .ok (.goto 4, 3) := by decide +kernel
theorem dX10_symmetries_90 : decode cX10_symmetries 90 = .ok (.iconst 0, 1) := by decide +kernel
theorem dX10_symmetries_91 : decode cX10_symmetries 91 = .ok (.iadd, 1) := by decide +kernel
theorem dX10_symmetries_92 : decode cX10_symmetries 92 = .ok (.istore_n 3, 1) := by decide +kernel
theorem dX10_symmetries_93 : decode cX10_symmetries 93 = .ok (.iload 4, 2) := by decide +kernel
theorem dX10_symmetries_95 : decode cX10_symmetries 95 = .ok (.aload_n 0, 1) := by decide +kernel
theorem dX10_symmetries_96 : decode cX10_symmetries 96 = .ok (.getfield 96, 3) := by decide +kernel
theorem dX10_symmetries_99 : decode cX10_symmetries 99 = .ok (.iload 5, 2) := by decide +kernel
theorem dX10_symmetries_101 : decode cX10_symmetries 101 = .ok (.iaload, 1) := by decide +kernel
theorem dX10_symmetries_102 : decode cX10_symmetries 102 = .ok (.iconst 1, 1) := by decide +kernel
theorem dX10_symmetries_103 : decode cX10_symmetries 103 = .ok (.iload 5, 2) := by decide +kernel
theorem dX10_symmetries_105 : decode cX10_symmetries 105 = .ok (.ishl, 1) := by decide +kernel
theorem dX10_symmetries_106 : decode cX10_symmetries 106 = .ok (.if_icmp .ne 7, 3) := by decide +kernel
theorem dX10_symmetries_109 : decode cX10_symmetries 109 = .ok (.iconst 1, 1) := by decide +kernel
theorem dX10_symmetries_110 : decode cX10_symmetries 110 = .ok (.goto 4, 3) := by decide +kernel
theorem dX10_symmetries_113 : decode cX10_symmetries 113 = .ok (.iconst 0, 1) := by decide +kernel
theorem dX10_symmetries_114 : decode cX10_symmetries 114 = .ok (.iadd, 1) := by decide +kernel
theorem dX10_symmetries_115 : decode cX10_symmetries 115 = .ok (.istore 4, 2) := by decide +kernel
theorem dX10_symmetries_117 : decode cX10_symmetries 117 = .ok (.iinc 5 1, 3) := by decide +kernel
theorem dX10_symmetries_120 : decode cX10_symmetries 120 = .ok (.goto (-61), 3) := by decide +kernel
theorem dX10_symmetries_123 : decode cX10_symmetries 123 = .ok (.iload_n 2, 1) := by decide +kernel
theorem dX10_symmetries_124 : decode cX10_symmetries 124 = .ok (.iconst 1, 1) := by decide +kernel
theorem dX10_symmetries_125 : decode cX10_symmetries 125 = .ok (.if_icmp .ne 7, 3) := by decide +kernel
theorem dX10_symmetries_128 : decode cX10_symmetries 128 = .ok (.iload_n 3, 1) := by decide +kernel
theorem dX10_symmetries_129 : decode cX10_symmetries 129 = .ok (.goto 5, 3) := by decide +kernel
theorem dX10_symmetries_132 : decode cX10_symmetries 132 = .ok (.iload 4, 2) := by decide +kernel
theorem dX10_symmetries_134 : decode cX10_symmetries 134 = .ok (.ireturn, 1) := by decide +kernel
theorem dX10_orbit_0 : decode cX10_orbit 0 = .ok (.aload_n 0, 1) := by decide +kernel
theorem dX10_orbit_1 : decode cX10_orbit 1 = .ok (.invokevirtual 215, 3) := by decide +kernel
theorem dX10_orbit_4 : decode cX10_orbit 4 = .ok (.aload_n 0, 1) := by decide +kernel
theorem dX10_orbit_5 : decode cX10_orbit 5 = .ok (.aload_n 0, 1) := by decide +kernel
theorem dX10_orbit_6 : decode cX10_orbit 6 = .ok (.iload_n 1, 1) := by decide +kernel
theorem dX10_orbit_7 : decode cX10_orbit 7 = .ok (.iload_n 2, 1) := by decide +kernel
theorem dX10_orbit_8 : decode cX10_orbit 8 = .ok (.invokevirtual 253, 3) := by decide +kernel
theorem dX10_orbit_11 : decode cX10_orbit 11 = .ok (.ifCond .ne 7, 3) := by decide +kernel
theorem dX10_orbit_14 : decode cX10_orbit 14 = .ok (.iconst 1, 1) := by decide +kernel
theorem dX10_orbit_15 : decode cX10_orbit 15 = .ok (.goto 4, 3) := by decide +kernel
theorem dX10_orbit_18 : decode cX10_orbit 18 = .ok (.iconst 0, 1) := by decide +kernel
theorem dX10_orbit_19 : decode cX10_orbit 19 = .ok (.iconst 1, 1) := by decide +kernel
theorem dX10_orbit_20 : decode cX10_orbit 20 = .ok (.invokevirtual 221, 3) := by decide +kernel
theorem dX10_orbit_23 : decode cX10_orbit 23 = .ok (.ifCond .eq 5, 3) := by decide +kernel
theorem dX10_orbit_26 : decode cX10_orbit 26 = .ok (.iconst (-1), 1) := by decide +kernel
theorem dX10_orbit_27 : decode cX10_orbit 27 = .ok (.ireturn, 1) := by decide +kernel
theorem dX10_orbit_28 : decode cX10_orbit 28 = .ok (.aload_n 0, 1) := by decide +kernel
theorem dX10_orbit_29 : decode cX10_orbit 29 = .ok (.iload_n 1, 1) := by decide +kernel
theorem dX10_orbit_30 : decode cX10_orbit 30 = .ok (.iload_n 1, 1) := by decide +kernel
theorem dX10_orbit_31 : decode cX10_orbit 31 = .ok (.iconst 0, 1) := by decide +kernel
theorem dX10_orbit_32 : decode cX10_orbit 32 = .ok (.invokevirtual 427, 3) := by decide +kernel
theorem dX10_orbit_35 : decode cX10_orbit 35 = .ok (.aload_n 0, 1) := by decide +kernel
theorem dX10_orbit_36 : decode cX10_orbit 36 = .ok (.getfield 96, 3) := by decide +kernel
theorem dX10_orbit_39 : decode cX10_orbit 39 = .ok (.iload_n 2, 1) := by decide +kernel
theorem dX10_orbit_40 : decode cX10_orbit 40 = .ok (.iaload, 1) := by decide +kernel
theorem dX10_orbit_41 : decode cX10_orbit 41 = .ok (.ireturn, 1) := by decide +kernel
theorem dX10_leave_0 : decode cX10_leave 0 = .ok (.aload_n 0, 1) := by decide +kernel
theorem dX10_leave_1 : decode cX10_leave 1 = .ok (.invokevirtual 215, 3) := by decide +kernel
theorem dX10_leave_4 : decode cX10_leave 4 = .ok (.aload_n 0, 1) := by decide +kernel
theorem dX10_leave_5 : decode cX10_leave 5 = .ok (.iload_n 1, 1) := by decide +kernel
theorem dX10_leave_6 : decode cX10_leave 6 = .ok (.invokestatic 218, 3) := by decide +kernel
theorem dX10_leave_9 : decode cX10_leave 9 = .ok (.ifCond .ne 7, 3) := by decide +kernel
theorem dX10_leave_12 : decode cX10_leave 12 = .ok (.iconst 1, 1) := by decide +kernel
theorem dX10_leave_13 : decode cX10_leave 13 = .ok (.goto 4, 3) := by decide +kernel
theorem dX10_leave_16 : decode cX10_leave 16 = .ok (.iconst 0, 1) := by decide +kernel
theorem dX10_leave_17 : decode cX10_leave 17 = .ok (.iconst 1, 1) := by decide +kernel
theorem dX10_leave_18 : decode cX10_leave 18 = .ok (.invokevirtual 221, 3) := by decide +kernel
theorem dX10_leave_21 : decode cX10_leave 21 = .ok (.ifCond .ne 25, 3) := by decide +kernel
theorem dX10_leave_24 : decode cX10_leave 24 = .ok (.aload_n 0, 1) := by decide +kernel
theorem dX10_leave_25 : decode cX10_leave 25 = .ok (.aload_n 0, 1) := by decide +kernel
theorem dX10_leave_26 : decode cX10_leave 26 = .ok (.iload_n 1, 1) := by decide +kernel
theorem dX10_leave_27 : decode cX10_leave 27 = .ok (.iload_n 2, 1) := by decide +kernel
theorem dX10_leave_28 : decode cX10_leave 28 = .ok (.invokevirtual 302, 3) := by decide +kernel
theorem dX10_leave_31 : decode cX10_leave 31 = .ok (.ifCond .ne 7, 3) := by decide +kernel
theorem dX10_leave_34 : decode cX10_leave 34 = .ok (.iconst 1, 1) := by decide +kernel
theorem dX10_leave_35 : decode cX10_leave 35 = .ok (.goto 4, 3) := by decide +kernel
theorem dX10_leave_38 : decode cX10_leave 38 = .ok (.iconst 0, 1) := by decide +kernel
theorem dX10_leave_39 : decode cX10_leave 39 = .ok (.iconst 2, 1) := by decide +kernel
theorem dX10_leave_40 : decode cX10_leave 40 = .ok (.invokevirtual 221, 3) := by decide +kernel
theorem dX10_leave_43 : decode cX10_leave 43 = .ok (.ifCond .eq 5, 3) := by decide +kernel
theorem dX10_leave_46 : decode cX10_leave 46 = .ok (.iconst (-1), 1) := by decide +kernel
theorem dX10_leave_47 : decode cX10_leave 47 = .ok (.ireturn, 1) := by decide +kernel
theorem dX10_leave_48 : decode cX10_leave 48 = .ok (.aload_n 0, 1) := by decide +kernel
theorem dX10_leave_49 : decode cX10_leave 49 = .ok (.iload_n 1, 1) := by decide +kernel
theorem dX10_leave_50 : decode cX10_leave 50 = .ok (.iload_n 1, 1) := by decide +kernel
theorem dX10_leave_51 : decode cX10_leave 51 = .ok (.iload_n 2, 1) := by decide +kernel
theorem dX10_leave_52 : decode cX10_leave 52 = .ok (.invokevirtual 427, 3) := by decide +kernel
theorem dX10_leave_55 : decode cX10_leave 55 = .ok (.aload_n 0, 1) := by decide +kernel
theorem dX10_leave_56 : decode cX10_leave 56 = .ok (.getfield 412, 3) := by decide +kernel
theorem dX10_leave_59 : decode cX10_leave 59 = .ok (.ireturn, 1) := by decide +kernel
theorem dX10_maps_0 : decode cX10_maps 0 = .ok (.aload_n 0, 1) := by decide +kernel
theorem dX10_maps_1 : decode cX10_maps 1 = .ok (.invokevirtual 215, 3) := by decide +kernel
theorem dX10_maps_4 : decode cX10_maps 4 = .ok (.aload_n 0, 1) := by decide +kernel
theorem dX10_maps_5 : decode cX10_maps 5 = .ok (.iload_n 1, 1) := by decide +kernel
theorem dX10_maps_6 : decode cX10_maps 6 = .ok (.invokestatic 218, 3) := by decide +kernel
theorem dX10_maps_9 : decode cX10_maps 9 = .ok (.ifCond .eq 10, 3) := by decide +kernel
theorem dX10_maps_12 : decode cX10_maps 12 = .ok (.iload_n 2, 1) := by decide +kernel
theorem dX10_maps_13 : decode cX10_maps 13 = .ok (.invokestatic 218, 3) := by decide +kernel
theorem dX10_maps_16 : decode cX10_maps 16 = .ok (.ifCond .ne 7, 3) := by decide +kernel
theorem dX10_maps_19 : decode cX10_maps 19 = .ok (.iconst 1, 1) := by decide +kernel
theorem dX10_maps_20 : decode cX10_maps 20 = .ok (.goto 4, 3) := by decide +kernel
theorem dX10_maps_23 : decode cX10_maps 23 = .ok (.iconst 0, 1) := by decide +kernel
theorem dX10_maps_24 : decode cX10_maps 24 = .ok (.iconst 1, 1) := by decide +kernel
theorem dX10_maps_25 : decode cX10_maps 25 = .ok (.invokevirtual 221, 3) := by decide +kernel
theorem dX10_maps_28 : decode cX10_maps 28 = .ok (.ifCond .eq 5, 3) := by decide +kernel
theorem dX10_maps_31 : decode cX10_maps 31 = .ok (.iconst (-1), 1) := by decide +kernel
theorem dX10_maps_32 : decode cX10_maps 32 = .ok (.ireturn, 1) := by decide +kernel
theorem dX10_maps_33 : decode cX10_maps 33 = .ok (.aload_n 0, 1) := by decide +kernel
theorem dX10_maps_34 : decode cX10_maps 34 = .ok (.iload_n 1, 1) := by decide +kernel
theorem dX10_maps_35 : decode cX10_maps 35 = .ok (.iload_n 2, 1) := by decide +kernel
theorem dX10_maps_36 : decode cX10_maps 36 = .ok (.iconst 0, 1) := by decide +kernel
theorem dX10_maps_37 : decode cX10_maps 37 = .ok (.invokevirtual 427, 3) := by decide +kernel
theorem dX10_maps_40 : decode cX10_maps 40 = .ok (.aload_n 0, 1) := by decide +kernel
theorem dX10_maps_41 : decode cX10_maps 41 = .ok (.getfield 409, 3) := by decide +kernel
theorem dX10_maps_44 : decode cX10_maps 44 = .ok (.ireturn, 1) := by decide +kernel
theorem dX10_map_0 : decode cX10_map 0 = .ok (.aload_n 0, 1) := by decide +kernel
theorem dX10_map_1 : decode cX10_map 1 = .ok (.invokevirtual 215, 3) := by decide +kernel
theorem dX10_map_4 : decode cX10_map 4 = .ok (.aload_n 0, 1) := by decide +kernel
theorem dX10_map_5 : decode cX10_map 5 = .ok (.aload_n 0, 1) := by decide +kernel
theorem dX10_map_6 : decode cX10_map 6 = .ok (.iload_n 1, 1) := by decide +kernel
theorem dX10_map_7 : decode cX10_map 7 = .ok (.iload_n 3, 1) := by decide +kernel
theorem dX10_map_8 : decode cX10_map 8 = .ok (.invokevirtual 253, 3) := by decide +kernel
theorem dX10_map_11 : decode cX10_map 11 = .ok (.ifCond .eq 10, 3) := by decide +kernel
theorem dX10_map_14 : decode cX10_map 14 = .ok (.iload_n 2, 1) := by decide +kernel
theorem dX10_map_15 : decode cX10_map 15 = .ok (.invokestatic 218, 3) := by decide +kernel
theorem dX10_map_18 : decode cX10_map 18 = .ok (.ifCond .ne 7, 3) := by decide +kernel
theorem dX10_map_21 : decode cX10_map 21 = .ok (.iconst 1, 1) := by decide +kernel
theorem dX10_map_22 : decode cX10_map 22 = .ok (.goto 4, 3) := by decide +kernel
theorem dX10_map_25 : decode cX10_map 25 = .ok (.iconst 0, 1) := by decide +kernel
theorem dX10_map_26 : decode cX10_map 26 = .ok (.iconst 1, 1) := by decide +kernel
theorem dX10_map_27 : decode cX10_map 27 = .ok (.invokevirtual 221, 3) := by decide +kernel
theorem dX10_map_30 : decode cX10_map 30 = .ok (.ifCond .eq 5, 3) := by decide +kernel
theorem dX10_map_33 : decode cX10_map 33 = .ok (.iconst (-1), 1) := by decide +kernel
theorem dX10_map_34 : decode cX10_map 34 = .ok (.ireturn, 1) := by decide +kernel
theorem dX10_map_35 : decode cX10_map 35 = .ok (.aload_n 0, 1) := by decide +kernel
theorem dX10_map_36 : decode cX10_map 36 = .ok (.iload_n 1, 1) := by decide +kernel
theorem dX10_map_37 : decode cX10_map 37 = .ok (.iload_n 2, 1) := by decide +kernel
theorem dX10_map_38 : decode cX10_map 38 = .ok (.iconst 0, 1) := by decide +kernel
theorem dX10_map_39 : decode cX10_map 39 = .ok (.invokevirtual 427, 3) := by decide +kernel
theorem dX10_map_42 : decode cX10_map 42 = .ok (.aload_n 0, 1) := by decide +kernel
theorem dX10_map_43 : decode cX10_map 43 = .ok (.aload_n 0, 1) := by decide +kernel
theorem dX10_map_44 : decode cX10_map 44 = .ok (.getfield 409, 3) := by decide +kernel
theorem dX10_map_47 : decode cX10_map 47 = .ok (.ifCond .ne 7, 3) := by decide +kernel
theorem dX10_map_50 : decode cX10_map 50 = .ok (.iconst 1, 1) := by decide +kernel
theorem dX10_map_51 : decode cX10_map 51 = .ok (.goto 4, 3) := by decide +kernel
theorem dX10_map_54 : decode cX10_map 54 = .ok (.iconst 0, 1) := by decide +kernel
theorem dX10_map_55 : decode cX10_map 55 = .ok (.bipush 6, 2) := by decide +kernel
theorem dX10_map_57 : decode cX10_map 57 = .ok (.invokevirtual 221, 3) := by decide +kernel
theorem dX10_map_60 : decode cX10_map 60 = .ok (.ifCond .eq 5, 3) := by decide +kernel
theorem dX10_map_63 : decode cX10_map 63 = .ok (.iconst (-1), 1) := by decide +kernel
theorem dX10_map_64 : decode cX10_map 64 = .ok (.ireturn, 1) := by decide +kernel
theorem dX10_map_65 : decode cX10_map 65 = .ok (.aload_n 0, 1) := by decide +kernel
theorem dX10_map_66 : decode cX10_map 66 = .ok (.getfield 93, 3) := by decide +kernel
theorem dX10_map_69 : decode cX10_map 69 = .ok (.iload_n 3, 1) := by decide +kernel
theorem dX10_map_70 : decode cX10_map 70 = .ok (.iaload, 1) := by decide +kernel
theorem dX10_map_71 : decode cX10_map 71 = .ok (.ireturn, 1) := by decide +kernel
theorem dX10_changesFrom_0 : decode cX10_changesFrom 0 = .ok (.iload_n 3, 1) := by decide +kernel
theorem dX10_changesFrom_1 : decode cX10_changesFrom 1 = .ok (.aload_n 0, 1) := by decide +kernel
theorem dX10_changesFrom_2 : decode cX10_changesFrom 2 = .ok (.getfield 430, 3) := by decide +kernel
theorem dX10_changesFrom_5 : decode cX10_changesFrom 5 = .ok (.if_icmp .lt 4, 3) := by decide +kernel
theorem dX10_changesFrom_8 : decode cX10_changesFrom 8 = .ok (.return_, 1) := by decide +kernel
theorem dX10_changesFrom_9 : decode cX10_changesFrom 9 = .ok (.iload_n 1, 1) := by decide +kernel
theorem dX10_changesFrom_10 : decode cX10_changesFrom 10 = .ok (.aload_n 0, 1) := by decide +kernel
theorem dX10_changesFrom_11 : decode cX10_changesFrom 11 = .ok (.getfield 256, 3) := by decide +kernel
theorem dX10_changesFrom_14 : decode cX10_changesFrom 14 = .ok (.if_icmp .ne 9, 3) := by decide +kernel
theorem dX10_changesFrom_17 : decode cX10_changesFrom 17 = .ok (.aload_n 0, 1) := by decide +kernel
theorem dX10_changesFrom_18 : decode cX10_changesFrom 18 = .ok (.iload_n 3, 1) := by decide +kernel
theorem dX10_changesFrom_19 : decode cX10_changesFrom 19 = .ok (.putfield 430, 3) := by decide +kernel
theorem dX10_changesFrom_22 : decode cX10_changesFrom 22 = .ok (.return_, 1) := by decide +kernel
theorem dX10_changesFrom_23 : decode cX10_changesFrom 23 = .ok (.iconst 0, 1) := by decide +kernel
theorem dX10_changesFrom_24 : decode cX10_changesFrom 24 = .ok (.istore 4, 2) := by decide +kernel
theorem dX10_changesFrom_26 : decode cX10_changesFrom 26 = .ok (.iload 4, 2) := by decide +kernel
theorem dX10_changesFrom_28 : decode cX10_changesFrom 28 = .ok (.aload_n 0, 1) := by decide +kernel
theorem dX10_changesFrom_29 : decode cX10_changesFrom 29 = .ok (.getfield 256, 3) := by decide +kernel
theorem dX10_changesFrom_32 : decode cX10_changesFrom 32 = .ok (.if_icmp .ge 127, 3) := by decide +kernel
theorem dX10_changesFrom_35 : decode cX10_changesFrom 35 = .ok (.iload_n 2, 1) := by decide +kernel
theorem dX10_changesFrom_36 : decode cX10_changesFrom 36 = .ok (.iload 4, 2) := by decide +kernel
theorem dX10_changesFrom_38 : decode cX10_changesFrom 38 = .ok (.invokestatic 182, 3) := by decide +kernel
theorem dX10_changesFrom_41 : decode cX10_changesFrom 41 = .ok (.ifCond .eq 6, 3) := by decide +kernel
theorem dX10_changesFrom_44 : decode cX10_changesFrom 44 = .ok (.goto 109, 3) := by decide +kernel
theorem dX10_changesFrom_47 : decode cX10_changesFrom 47 = .ok (.aload_n 0, 1) := by decide +kernel
theorem dX10_changesFrom_48 : decode cX10_changesFrom 48 = .ok (.getfield 33, 3) := by decide +kernel
theorem dX10_changesFrom_51 : decode cX10_changesFrom 51 = .ok (.iload_n 1, 1) := by decide +kernel
theorem dX10_changesFrom_52 : decode cX10_changesFrom 52 = .ok (.iaload, 1) := by decide +kernel
theorem dX10_changesFrom_53 : decode cX10_changesFrom 53 = .ok (.aload_n 0, 1) := by decide +kernel
theorem dX10_changesFrom_54 : decode cX10_changesFrom 54 = .ok (.getfield 84, 3) := by decide +kernel
theorem dX10_changesFrom_57 : decode cX10_changesFrom 57 = .ok (.iload 4, 2) := by decide +kernel
theorem dX10_changesFrom_59 : decode cX10_changesFrom 59 = .ok (.iaload, 1) := by decide +kernel
theorem dX10_changesFrom_60 : decode cX10_changesFrom 60 = .ok (.if_icmp .ne 7, 3) := by decide +kernel
theorem dX10_changesFrom_63 : decode cX10_changesFrom 63 = .ok (.iconst 0, 1) := by decide +kernel
theorem dX10_changesFrom_64 : decode cX10_changesFrom 64 = .ok (.goto 4, 3) := by decide +kernel
theorem dX10_changesFrom_67 : decode cX10_changesFrom 67 = .ok (.iconst 1, 1) := by decide +kernel
theorem dX10_changesFrom_68 : decode cX10_changesFrom 68 = .ok (.istore 5, 2) := by decide +kernel
theorem dX10_changesFrom_70 : decode cX10_changesFrom 70 = .ok (.iconst 0, 1) := by decide +kernel
theorem dX10_changesFrom_71 : decode cX10_changesFrom 71 = .ok (.istore 6, 2) := by decide +kernel
theorem dX10_changesFrom_73 : decode cX10_changesFrom 73 = .ok (.iload 6, 2) := by decide +kernel
theorem dX10_changesFrom_75 : decode cX10_changesFrom 75 = .ok (.iload_n 1, 1) := by decide +kernel
theorem dX10_changesFrom_76 : decode cX10_changesFrom 76 = .ok (.if_icmp .ge 52, 3) := by decide +kernel
theorem dX10_changesFrom_79 : decode cX10_changesFrom 79 = .ok (.iload 5, 2) := by decide +kernel
theorem dX10_changesFrom_81 : decode cX10_changesFrom 81 = .ok (.aload_n 0, 1) := by decide +kernel
theorem dX10_changesFrom_82 : decode cX10_changesFrom 82 = .ok (.getfield 36, 3) := by decide +kernel
theorem dX10_changesFrom_85 : decode cX10_changesFrom 85 = .ok (.bipush 7, 2) := by decide +kernel
theorem dX10_changesFrom_87 : decode cX10_changesFrom 87 = .ok (.iload_n 1, 1) := by decide +kernel
theorem dX10_changesFrom_88 : decode cX10_changesFrom 88 = .ok (.imul, 1) := by decide +kernel
theorem dX10_changesFrom_89 : decode cX10_changesFrom 89 = .ok (.iload 6, 2) := by decide +kernel
theorem dX10_changesFrom_91 : decode cX10_changesFrom 91 = .ok (.iadd, 1) := by decide +kernel
theorem dX10_changesFrom_92 : decode cX10_changesFrom 92 = .ok (.iaload, 1) := by decide +kernel
theorem dX10_changesFrom_93 : decode cX10_changesFrom 93 = .ok (.aload_n 0, 1) := by decide +kernel
theorem dX10_changesFrom_94 : decode cX10_changesFrom 94 = .ok (.getfield 87, 3) := by decide +kernel
theorem dX10_changesFrom_97 : decode cX10_changesFrom 97 = .ok (.bipush 7, 2) := by decide +kernel
theorem dX10_changesFrom_99 : decode cX10_changesFrom 99 = .ok (.iload 4, 2) := by decide +kernel
theorem dX10_changesFrom_101 : decode cX10_changesFrom 101 = .ok (.imul, 1) := by decide +kernel
theorem dX10_changesFrom_102 : decode cX10_changesFrom 102 = .ok (.aload_n 0, 1) := by decide +kernel
theorem dX10_changesFrom_103 : decode cX10_changesFrom 103 = .ok (.getfield 90, 3) := by decide +kernel
theorem dX10_changesFrom_106 : decode cX10_changesFrom 106 = .ok (.iload 6, 2) := by decide +kernel
theorem dX10_changesFrom_108 : decode cX10_changesFrom 108 = .ok (.iaload, 1) := by decide +kernel
theorem dX10_changesFrom_109 : decode cX10_changesFrom 109 = .ok (.iadd, 1) := by decide +kernel
theorem dX10_changesFrom_110 : decode cX10_changesFrom 110 = .ok (.iaload, 1) := by decide +kernel
theorem dX10_changesFrom_111 : decode cX10_changesFrom 111 = .ok (.if_icmp .ne 7, 3) := by decide +kernel
theorem dX10_changesFrom_114 : decode cX10_changesFrom 114 = .ok (.iconst 0, 1) := by decide +kernel
theorem dX10_changesFrom_115 : decode cX10_changesFrom 115 = .ok (.goto 4, 3) := by decide +kernel
theorem dX10_changesFrom_118 : decode cX10_changesFrom 118 = .ok (.iconst 1, 1) := by decide +kernel
theorem dX10_changesFrom_119 : decode cX10_changesFrom 119 = .ok (.iadd, 1) := by decide +kernel
theorem dX10_changesFrom_120 : decode cX10_changesFrom 120 = .ok (.istore 5, 2) := by decide +kernel
theorem dX10_changesFrom_122 : decode cX10_changesFrom 122 = .ok (.iinc 6 1, 3) := by decide +kernel
theorem dX10_changesFrom_125 : decode cX10_changesFrom 125 = .ok (.goto (-52), 3) := by decide +kernel
theorem dX10_changesFrom_128 : decode cX10_changesFrom 128 = .ok (.aload_n 0, 1) := by decide +kernel
theorem dX10_changesFrom_129 : decode cX10_changesFrom 129 = .ok (.getfield 90, 3) := by decide +kernel
theorem dX10_changesFrom_132 : decode cX10_changesFrom 132 = .ok (.iload_n 1, 1) := by decide +kernel
theorem dX10_changesFrom_133 : decode cX10_changesFrom 133 = .ok (.iload 4, 2) := by decide +kernel
theorem dX10_changesFrom_135 : decode cX10_changesFrom 135 = .ok (.iastore, 1) := by decide +kernel
theorem dX10_changesFrom_136 : decode cX10_changesFrom 136 = .ok (.aload_n 0, 1) := by decide +kernel
theorem dX10_changesFrom_137 : decode cX10_changesFrom 137 = .ok (.iload_n 1, 1) := by decide +kernel
theorem dX10_changesFrom_138 : decode cX10_changesFrom 138 = .ok (.iconst 1, 1) := by decide +kernel
theorem dX10_changesFrom_139 : decode cX10_changesFrom 139 = .ok (.iadd, 1) := by decide +kernel
theorem dX10_changesFrom_140 : decode cX10_changesFrom 140 = .ok (.iload_n 2, 1) := by decide +kernel
theorem dX10_changesFrom_141 : decode cX10_changesFrom 141 = .ok (.iconst 1, 1) := by decide +kernel
theorem dX10_changesFrom_142 : decode cX10_changesFrom 142 = .ok (.iload 4, 2) := by decide +kernel
theorem dX10_changesFrom_144 : decode cX10_changesFrom 144 = .ok (.ishl, 1) := by decide +kernel
theorem dX10_changesFrom_145 : decode cX10_changesFrom 145 = .ok (.ior, 1) := by decide +kernel
theorem dX10_changesFrom_146 : decode cX10_changesFrom 146 = .ok (.iload_n 3, 1) := by decide +kernel
theorem dX10_changesFrom_147 : decode cX10_changesFrom 147 = .ok (.iload 5, 2) := by decide +kernel
theorem dX10_changesFrom_149 : decode cX10_changesFrom 149 = .ok (.iadd, 1) := by decide +kernel
theorem dX10_changesFrom_150 : decode cX10_changesFrom 150 = .ok (.invokevirtual 433, 3) := by decide +kernel
theorem dX10_changesFrom_153 : decode cX10_changesFrom 153 = .ok (.iinc 4 1, 3) := by decide +kernel
theorem dX10_changesFrom_156 : decode cX10_changesFrom 156 = .ok (.goto (-130), 3) := by decide +kernel
theorem dX10_changesFrom_159 : decode cX10_changesFrom 159 = .ok (.return_, 1) := by decide +kernel
theorem dX10_changes_0 : decode cX10_changes 0 = .ok (.aload_n 0, 1) := by decide +kernel
theorem dX10_changes_1 : decode cX10_changes 1 = .ok (.invokevirtual 215, 3) := by decide +kernel
theorem dX10_changes_4 : decode cX10_changes 4 = .ok (.aload_n 0, 1) := by decide +kernel
theorem dX10_changes_5 : decode cX10_changes 5 = .ok (.iload_n 1, 1) := by decide +kernel
theorem dX10_changes_6 : decode cX10_changes 6 = .ok (.invokestatic 218, 3) := by decide +kernel
theorem dX10_changes_9 : decode cX10_changes 9 = .ok (.ifCond .eq 10, 3) := by decide +kernel
theorem dX10_changes_12 : decode cX10_changes 12 = .ok (.iload_n 2, 1) := by decide +kernel
theorem dX10_changes_13 : decode cX10_changes 13 = .ok (.invokestatic 218, 3) := by decide +kernel
theorem dX10_changes_16 : decode cX10_changes 16 = .ok (.ifCond .ne 7, 3) := by decide +kernel
theorem dX10_changes_19 : decode cX10_changes 19 = .ok (.iconst 1, 1) := by decide +kernel
theorem dX10_changes_20 : decode cX10_changes 20 = .ok (.goto 4, 3) := by decide +kernel
theorem dX10_changes_23 : decode cX10_changes 23 = .ok (.iconst 0, 1) := by decide +kernel
theorem dX10_changes_24 : decode cX10_changes 24 = .ok (.iconst 1, 1) := by decide +kernel
theorem dX10_changes_25 : decode cX10_changes 25 = .ok (.invokevirtual 221, 3) := by decide +kernel
theorem dX10_changes_28 : decode cX10_changes 28 = .ok (.ifCond .ne 29, 3) := by decide +kernel
theorem dX10_changes_31 : decode cX10_changes 31 = .ok (.aload_n 0, 1) := by decide +kernel
theorem dX10_changes_32 : decode cX10_changes 32 = .ok (.aload_n 0, 1) := by decide +kernel
theorem dX10_changes_33 : decode cX10_changes 33 = .ok (.iload_n 1, 1) := by decide +kernel
theorem dX10_changes_34 : decode cX10_changes 34 = .ok (.invokevirtual 231, 3) := by decide +kernel
theorem dX10_changes_37 : decode cX10_changes 37 = .ok (.aload_n 0, 1) := by decide +kernel
theorem dX10_changes_38 : decode cX10_changes 38 = .ok (.iload_n 2, 1) := by decide +kernel
theorem dX10_changes_39 : decode cX10_changes 39 = .ok (.invokevirtual 231, 3) := by decide +kernel
theorem dX10_changes_42 : decode cX10_changes 42 = .ok (.if_icmp .eq 7, 3) := by decide +kernel
theorem dX10_changes_45 : decode cX10_changes 45 = .ok (.iconst 1, 1) := by decide +kernel
theorem dX10_changes_46 : decode cX10_changes 46 = .ok (.goto 4, 3) := by decide +kernel
theorem dX10_changes_49 : decode cX10_changes 49 = .ok (.iconst 0, 1) := by decide +kernel
theorem dX10_changes_50 : decode cX10_changes 50 = .ok (.iconst 5, 1) := by decide +kernel
theorem dX10_changes_51 : decode cX10_changes 51 = .ok (.invokevirtual 221, 3) := by decide +kernel
theorem dX10_changes_54 : decode cX10_changes 54 = .ok (.ifCond .eq 5, 3) := by decide +kernel
theorem dX10_changes_57 : decode cX10_changes 57 = .ok (.iconst (-1), 1) := by decide +kernel
theorem dX10_changes_58 : decode cX10_changes 58 = .ok (.ireturn, 1) := by decide +kernel
theorem dX10_changes_59 : decode cX10_changes 59 = .ok (.aload_n 0, 1) := by decide +kernel
theorem dX10_changes_60 : decode cX10_changes 60 = .ok (.iload_n 2, 1) := by decide +kernel
theorem dX10_changes_61 : decode cX10_changes 61 = .ok (.invokevirtual 259, 3) := by decide +kernel
theorem dX10_changes_64 : decode cX10_changes 64 = .ok (.aload_n 0, 1) := by decide +kernel
theorem dX10_changes_65 : decode cX10_changes 65 = .ok (.invokevirtual 421, 3) := by decide +kernel
theorem dX10_changes_68 : decode cX10_changes 68 = .ok (.aload_n 0, 1) := by decide +kernel
theorem dX10_changes_69 : decode cX10_changes 69 = .ok (.iload_n 1, 1) := by decide +kernel
theorem dX10_changes_70 : decode cX10_changes 70 = .ok (.invokevirtual 259, 3) := by decide +kernel
theorem dX10_changes_73 : decode cX10_changes 73 = .ok (.aload_n 0, 1) := by decide +kernel
theorem dX10_changes_74 : decode cX10_changes 74 = .ok (.bipush 99, 2) := by decide +kernel
theorem dX10_changes_76 : decode cX10_changes 76 = .ok (.putfield 430, 3) := by decide +kernel
theorem dX10_changes_79 : decode cX10_changes 79 = .ok (.aload_n 0, 1) := by decide +kernel
theorem dX10_changes_80 : decode cX10_changes 80 = .ok (.iconst 0, 1) := by decide +kernel
theorem dX10_changes_81 : decode cX10_changes 81 = .ok (.iconst 0, 1) := by decide +kernel
theorem dX10_changes_82 : decode cX10_changes 82 = .ok (.iconst 0, 1) := by decide +kernel
theorem dX10_changes_83 : decode cX10_changes 83 = .ok (.invokevirtual 433, 3) := by decide +kernel
theorem dX10_changes_86 : decode cX10_changes 86 = .ok (.aload_n 0, 1) := by decide +kernel
theorem dX10_changes_87 : decode cX10_changes 87 = .ok (.getfield 430, 3) := by decide +kernel
theorem dX10_changes_90 : decode cX10_changes 90 = .ok (.ireturn, 1) := by decide +kernel
theorem dX10_areColoursAlike_0 : decode cX10_areColoursAlike 0 = .ok (.iconst 0, 1) := by decide +kernel
theorem dX10_areColoursAlike_1 : decode cX10_areColoursAlike 1 = .ok (.istore_n 1, 1) := by decide +kernel
theorem dX10_areColoursAlike_2 : decode cX10_areColoursAlike 2 = .ok (.iload_n 1, 1) := by decide +kernel
theorem dX10_areColoursAlike_3 : decode cX10_areColoursAlike 3 = .ok (.bipush 10, 2) := by decide +kernel
theorem dX10_areColoursAlike_5 : decode cX10_areColoursAlike 5 = .ok (.if_icmp .ge 69, 3) := by decide +kernel
theorem dX10_areColoursAlike_8 : decode cX10_areColoursAlike 8 = .ok (.iconst 0, 1) := by decide +kernel
theorem dX10_areColoursAlike_9 : decode cX10_areColoursAlike 9 = .ok (.istore_n 2, 1) := by decide +kernel
theorem dX10_areColoursAlike_10 : decode cX10_areColoursAlike 10 = .ok (.iconst 0, 1) := by decide +kernel
theorem dX10_areColoursAlike_11 : decode cX10_areColoursAlike 11 = .ok (.istore_n 3, 1) := by decide +kernel
theorem dX10_areColoursAlike_12 : decode cX10_areColoursAlike 12 = .ok (.iload_n 3, 1) := by decide +kernel
theorem dX10_areColoursAlike_13 : decode cX10_areColoursAlike 13 = .ok (.aload_n 0, 1) := by decide +kernel
theorem dX10_areColoursAlike_14 : decode cX10_areColoursAlike 14 = .ok (.getfield 256, 3) := by decide +kernel
theorem dX10_areColoursAlike_17 : decode cX10_areColoursAlike 17 = .ok (.if_icmp .ge 45, 3) := by decide +kernel
theorem dX10_areColoursAlike_20 : decode cX10_areColoursAlike 20 = .ok (.iload_n 2, 1) := by decide +kernel
theorem dX10_areColoursAlike_21 : decode cX10_areColoursAlike 21 = .ok (.aload_n 0, 1) := by decide +kernel
theorem dX10_areColoursAlike_22 : decode cX10_areColoursAlike 22 = .ok (.getfield 33, 3) := by decide +kernel
theorem dX10_areColoursAlike_25 : decode cX10_areColoursAlike 25 = .ok (.iload_n 3, 1) := by decide +kernel
theorem dX10_areColoursAlike_26 : decode cX10_areColoursAlike 26 = .ok (.iaload, 1) := by decide +kernel
theorem dX10_areColoursAlike_27 : decode cX10_areColoursAlike 27 = .ok (.iload_n 1, 1) := by decide +kernel
theorem dX10_areColoursAlike_28 : decode cX10_areColoursAlike 28 = .ok (.if_icmp .ne 7, 3) := by decide +kernel
theorem dX10_areColoursAlike_31 : decode cX10_areColoursAlike 31 = .ok (.iconst 1, 1) := by decide +kernel
theorem dX10_areColoursAlike_32 : decode cX10_areColoursAlike 32 = .ok (.goto 4, 3) := by decide +kernel
theorem dX10_areColoursAlike_35 : decode cX10_areColoursAlike 35 = .ok (.iconst 0, 1) := by decide +kernel
theorem dX10_areColoursAlike_36 : decode cX10_areColoursAlike 36 = .ok (.iadd, 1) := by decide +kernel
theorem dX10_areColoursAlike_37 : decode cX10_areColoursAlike 37 = .ok (.istore_n 2, 1) := by decide +kernel
theorem dX10_areColoursAlike_38 : decode cX10_areColoursAlike 38 = .ok (.iload_n 2, 1) := by decide +kernel
theorem dX10_areColoursAlike_39 : decode cX10_areColoursAlike 39 = .ok (.aload_n 0, 1) := by decide +kernel
theorem dX10_areColoursAlike_40 : decode cX10_areColoursAlike 40 = .ok (.getfield 84, 3) := by decide +kernel
theorem dX10_areColoursAlike_43 : decode cX10_areColoursAlike 43 = .ok (.iload_n 3, 1) := by decide +kernel
theorem dX10_areColoursAlike_44 : decode cX10_areColoursAlike 44 = .ok (.iaload, 1) := by decide +kernel
theorem dX10_areColoursAlike_45 : decode cX10_areColoursAlike 45 = .ok (.iload_n 1, 1) := by decide +kernel
theorem dX10_areColoursAlike_46 : decode cX10_areColoursAlike 46 = .ok (.if_icmp .ne 7, 3) := by decide +kernel
theorem dX10_areColoursAlike_49 : decode cX10_areColoursAlike 49 = .ok (.iconst 1, 1) := by decide +kernel
theorem dX10_areColoursAlike_50 : decode cX10_areColoursAlike 50 = .ok (.goto 4, 3) := by decide +kernel
theorem dX10_areColoursAlike_53 : decode cX10_areColoursAlike 53 = .ok (.iconst 0, 1) := by decide +kernel
theorem dX10_areColoursAlike_54 : decode cX10_areColoursAlike 54 = .ok (.isub, 1) := by decide +kernel
theorem dX10_areColoursAlike_55 : decode cX10_areColoursAlike 55 = .ok (.istore_n 2, 1) := by decide +kernel
theorem dX10_areColoursAlike_56 : decode cX10_areColoursAlike 56 = .ok (.iinc 3 1, 3) := by decide +kernel
theorem dX10_areColoursAlike_59 : decode cX10_areColoursAlike 59 = .ok (.goto (-47), 3) := by decide +kernel
theorem dX10_areColoursAlike_62 : decode cX10_areColoursAlike 62 = .ok (.iload_n 2, 1) := by decide +kernel
theorem dX10_areColoursAlike_63 : decode cX10_areColoursAlike 63 = .ok (.ifCond .eq 5, 3) := by decide +kernel
theorem dX10_areColoursAlike_66 : decode cX10_areColoursAlike 66 = .ok (.iconst 0, 1) := by decide +kernel
theorem dX10_areColoursAlike_67 : decode cX10_areColoursAlike 67 = .ok (.ireturn, 1) := by decide +kernel
theorem dX10_areColoursAlike_68 : decode cX10_areColoursAlike 68 = .ok (.iinc 1 1, 3) := by decide +kernel
theorem dX10_areColoursAlike_71 : decode cX10_areColoursAlike 71 = .ok (.goto (-69), 3) := by decide +kernel
theorem dX10_areColoursAlike_74 : decode cX10_areColoursAlike 74 = .ok (.iconst 1, 1) := by decide +kernel
theorem dX10_areColoursAlike_75 : decode cX10_areColoursAlike 75 = .ok (.ireturn, 1) := by decide +kernel
theorem dX10_laysOtherSigns_0 : decode cX10_laysOtherSigns 0 = .ok (.iconst 0, 1) := by decide +kernel
theorem dX10_laysOtherSigns_1 : decode cX10_laysOtherSigns 1 = .ok (.istore_n 1, 1) := by decide +kernel
theorem dX10_laysOtherSigns_2 : decode cX10_laysOtherSigns 2 = .ok (.iload_n 1, 1) := by decide +kernel
theorem dX10_laysOtherSigns_3 : decode cX10_laysOtherSigns 3 = .ok (.aload_n 0, 1) := by decide +kernel
theorem dX10_laysOtherSigns_4 : decode cX10_laysOtherSigns 4 = .ok (.getfield 256, 3) := by decide +kernel
theorem dX10_laysOtherSigns_7 : decode cX10_laysOtherSigns 7 = .ok (.if_icmp .ge 106, 3) := by decide +kernel
theorem dX10_laysOtherSigns_10 : decode cX10_laysOtherSigns 10 = .ok (.iconst 0, 1) := by decide +kernel
theorem dX10_laysOtherSigns_11 : decode cX10_laysOtherSigns 11 = .ok (.istore_n 2, 1) := by decide +kernel
theorem dX10_laysOtherSigns_12 : decode cX10_laysOtherSigns 12 = .ok (.iload_n 2, 1) := by decide +kernel
theorem dX10_laysOtherSigns_13 : decode cX10_laysOtherSigns 13 = .ok (.bipush 22, 2) := by decide +kernel
theorem dX10_laysOtherSigns_15 : decode cX10_laysOtherSigns 15 = .ok (.if_icmp .ge 21, 3) := by decide +kernel
theorem dX10_laysOtherSigns_18 : decode cX10_laysOtherSigns 18 = .ok (.aload_n 0, 1) := by decide +kernel
theorem dX10_laysOtherSigns_19 : decode cX10_laysOtherSigns 19 = .ok (.getfield 102, 3) := by decide +kernel
theorem dX10_laysOtherSigns_22 : decode cX10_laysOtherSigns 22 = .ok (.bipush 22, 2) := by decide +kernel
theorem dX10_laysOtherSigns_24 : decode cX10_laysOtherSigns 24 = .ok (.iload_n 1, 1) := by decide +kernel
theorem dX10_laysOtherSigns_25 : decode cX10_laysOtherSigns 25 = .ok (.imul, 1) := by decide +kernel
theorem dX10_laysOtherSigns_26 : decode cX10_laysOtherSigns 26 = .ok (.iload_n 2, 1) := by decide +kernel
theorem dX10_laysOtherSigns_27 : decode cX10_laysOtherSigns 27 = .ok (.iadd, 1) := by decide +kernel
theorem dX10_laysOtherSigns_28 : decode cX10_laysOtherSigns 28 = .ok (.iconst 0, 1) := by decide +kernel
theorem dX10_laysOtherSigns_29 : decode cX10_laysOtherSigns 29 = .ok (.iastore, 1) := by decide +kernel
theorem dX10_laysOtherSigns_30 : decode cX10_laysOtherSigns 30 = .ok (.iinc 2 1, 3) := by decide +kernel
theorem dX10_laysOtherSigns_33 : decode cX10_laysOtherSigns 33 = .ok (.goto (-21), 3) := by decide +kernel
theorem dX10_laysOtherSigns_36 : decode cX10_laysOtherSigns 36 = .ok (.aload_n 0, 1) := by decide +kernel
theorem dX10_laysOtherSigns_37 : decode cX10_laysOtherSigns 37 = .ok (.getfield 102, 3) := by decide +kernel
theorem dX10_laysOtherSigns_40 : decode cX10_laysOtherSigns 40 = .ok (.bipush 22, 2) := by decide +kernel
theorem dX10_laysOtherSigns_42 : decode cX10_laysOtherSigns 42 = .ok (.iload_n 1, 1) := by decide +kernel
theorem dX10_laysOtherSigns_43 : decode cX10_laysOtherSigns 43 = .ok (.imul, 1) := by decide +kernel
theorem dX10_laysOtherSigns_44 : decode cX10_laysOtherSigns 44 = .ok (.aload_n 0, 1) := by decide +kernel
theorem dX10_laysOtherSigns_45 : decode cX10_laysOtherSigns 45 = .ok (.getfield 99, 3) := by decide +kernel
theorem dX10_laysOtherSigns_48 : decode cX10_laysOtherSigns 48 = .ok (.iload_n 1, 1) := by decide +kernel
theorem dX10_laysOtherSigns_49 : decode cX10_laysOtherSigns 49 = .ok (.iaload, 1) := by decide +kernel
theorem dX10_laysOtherSigns_50 : decode cX10_laysOtherSigns 50 = .ok (.iastore, 1) := by decide +kernel
theorem dX10_laysOtherSigns_51 : decode cX10_laysOtherSigns 51 = .ok (.iconst 0, 1) := by decide +kernel
theorem dX10_laysOtherSigns_52 : decode cX10_laysOtherSigns 52 = .ok (.istore_n 2, 1) := by decide +kernel
theorem dX10_laysOtherSigns_53 : decode cX10_laysOtherSigns 53 = .ok (.iload_n 2, 1) := by decide +kernel
theorem dX10_laysOtherSigns_54 : decode cX10_laysOtherSigns 54 = .ok (.aload_n 0, 1) := by decide +kernel
theorem dX10_laysOtherSigns_55 : decode cX10_laysOtherSigns 55 = .ok (.getfield 256, 3) := by decide +kernel
theorem dX10_laysOtherSigns_58 : decode cX10_laysOtherSigns 58 = .ok (.if_icmp .ge 49, 3) := by decide +kernel
theorem dX10_laysOtherSigns_61 : decode cX10_laysOtherSigns 61 = .ok (.aload_n 0, 1) := by decide +kernel
theorem dX10_laysOtherSigns_62 : decode cX10_laysOtherSigns 62 = .ok (.getfield 87, 3) := by decide +kernel
theorem dX10_laysOtherSigns_65 : decode cX10_laysOtherSigns 65 = .ok (.bipush 7, 2) := by decide +kernel
theorem dX10_laysOtherSigns_67 : decode cX10_laysOtherSigns 67 = .ok (.iload_n 1, 1) := by decide +kernel
theorem dX10_laysOtherSigns_68 : decode cX10_laysOtherSigns 68 = .ok (.imul, 1) := by decide +kernel
theorem dX10_laysOtherSigns_69 : decode cX10_laysOtherSigns 69 = .ok (.iload_n 2, 1) := by decide +kernel
theorem dX10_laysOtherSigns_70 : decode cX10_laysOtherSigns 70 = .ok (.iadd, 1) := by decide +kernel
theorem dX10_laysOtherSigns_71 : decode cX10_laysOtherSigns 71 = .ok (.iaload, 1) := by decide +kernel
theorem dX10_laysOtherSigns_72 : decode cX10_laysOtherSigns 72 = .ok (.istore_n 3, 1) := by decide +kernel
theorem dX10_laysOtherSigns_73 : decode cX10_laysOtherSigns 73 = .ok (.iload_n 3, 1) := by decide +kernel
theorem dX10_laysOtherSigns_74 : decode cX10_laysOtherSigns 74 = .ok (.ifCond .le 27, 3) := by decide +kernel
theorem dX10_laysOtherSigns_77 : decode cX10_laysOtherSigns 77 = .ok (.aload_n 0, 1) := by decide +kernel
theorem dX10_laysOtherSigns_78 : decode cX10_laysOtherSigns 78 = .ok (.getfield 102, 3) := by decide +kernel
theorem dX10_laysOtherSigns_81 : decode cX10_laysOtherSigns 81 = .ok (.bipush 22, 2) := by decide +kernel
theorem dX10_laysOtherSigns_83 : decode cX10_laysOtherSigns 83 = .ok (.iload_n 1, 1) := by decide +kernel
theorem dX10_laysOtherSigns_84 : decode cX10_laysOtherSigns 84 = .ok (.imul, 1) := by decide +kernel
theorem dX10_laysOtherSigns_85 : decode cX10_laysOtherSigns 85 = .ok (.iconst 3, 1) := by decide +kernel
theorem dX10_laysOtherSigns_86 : decode cX10_laysOtherSigns 86 = .ok (.aload_n 0, 1) := by decide +kernel
theorem dX10_laysOtherSigns_87 : decode cX10_laysOtherSigns 87 = .ok (.getfield 99, 3) := by decide +kernel
theorem dX10_laysOtherSigns_90 : decode cX10_laysOtherSigns 90 = .ok (.iload_n 2, 1) := by decide +kernel
theorem dX10_laysOtherSigns_91 : decode cX10_laysOtherSigns 91 = .ok (.iaload, 1) := by decide +kernel
theorem dX10_laysOtherSigns_92 : decode cX10_laysOtherSigns 92 = .ok (.imul, 1) := by decide +kernel
theorem dX10_laysOtherSigns_93 : decode cX10_laysOtherSigns 93 = .ok (.iadd, 1) := by decide +kernel
theorem dX10_laysOtherSigns_94 : decode cX10_laysOtherSigns 94 = .ok (.iload_n 3, 1) := by decide +kernel
theorem dX10_laysOtherSigns_95 : decode cX10_laysOtherSigns 95 = .ok (.iadd, 1) := by decide +kernel
theorem dX10_laysOtherSigns_96 : decode cX10_laysOtherSigns 96 = .ok (.dup2, 1) := by decide +kernel
theorem dX10_laysOtherSigns_97 : decode cX10_laysOtherSigns 97 = .ok (.iaload, 1) := by decide +kernel
theorem dX10_laysOtherSigns_98 : decode cX10_laysOtherSigns 98 = .ok (.iconst 1, 1) := by decide +kernel
theorem dX10_laysOtherSigns_99 : decode cX10_laysOtherSigns 99 = .ok (.iadd, 1) := by decide +kernel
theorem dX10_laysOtherSigns_100 : decode cX10_laysOtherSigns 100 = .ok (.iastore, 1) := by decide +kernel
theorem dX10_laysOtherSigns_101 : decode cX10_laysOtherSigns 101 = .ok (.iinc 2 1, 3) := by decide +kernel
theorem dX10_laysOtherSigns_104 : decode cX10_laysOtherSigns 104 = .ok (.goto (-51), 3) := by decide +kernel
theorem dX10_laysOtherSigns_107 : decode cX10_laysOtherSigns 107 = .ok (.iinc 1 1, 3) := by decide +kernel
theorem dX10_laysOtherSigns_110 : decode cX10_laysOtherSigns 110 = .ok (.goto (-108), 3) := by decide +kernel
theorem dX10_laysOtherSigns_113 : decode cX10_laysOtherSigns 113 = .ok (.return_, 1) := by decide +kernel
theorem dX10_areSignsAlike_0 : decode cX10_areSignsAlike 0 = .ok (.iconst 0, 1) := by decide +kernel
theorem dX10_areSignsAlike_1 : decode cX10_areSignsAlike 1 = .ok (.istore_n 1, 1) := by decide +kernel
theorem dX10_areSignsAlike_2 : decode cX10_areSignsAlike 2 = .ok (.iload_n 1, 1) := by decide +kernel
theorem dX10_areSignsAlike_3 : decode cX10_areSignsAlike 3 = .ok (.aload_n 0, 1) := by decide +kernel
theorem dX10_areSignsAlike_4 : decode cX10_areSignsAlike 4 = .ok (.getfield 256, 3) := by decide +kernel
theorem dX10_areSignsAlike_7 : decode cX10_areSignsAlike 7 = .ok (.if_icmp .ge 97, 3) := by decide +kernel
theorem dX10_areSignsAlike_10 : decode cX10_areSignsAlike 10 = .ok (.iconst 0, 1) := by decide +kernel
theorem dX10_areSignsAlike_11 : decode cX10_areSignsAlike 11 = .ok (.istore_n 2, 1) := by decide +kernel
theorem dX10_areSignsAlike_12 : decode cX10_areSignsAlike 12 = .ok (.iconst 0, 1) := by decide +kernel
theorem dX10_areSignsAlike_13 : decode cX10_areSignsAlike 13 = .ok (.istore_n 3, 1) := by decide +kernel
theorem dX10_areSignsAlike_14 : decode cX10_areSignsAlike 14 = .ok (.iload_n 3, 1) := by decide +kernel
theorem dX10_areSignsAlike_15 : decode cX10_areSignsAlike 15 = .ok (.aload_n 0, 1) := by decide +kernel
theorem dX10_areSignsAlike_16 : decode cX10_areSignsAlike 16 = .ok (.getfield 256, 3) := by decide +kernel
theorem dX10_areSignsAlike_19 : decode cX10_areSignsAlike 19 = .ok (.if_icmp .ge 73, 3) := by decide +kernel
theorem dX10_areSignsAlike_22 : decode cX10_areSignsAlike 22 = .ok (.iload_n 2, 1) := by decide +kernel
theorem dX10_areSignsAlike_23 : decode cX10_areSignsAlike 23 = .ok (.aload_n 0, 1) := by decide +kernel
theorem dX10_areSignsAlike_24 : decode cX10_areSignsAlike 24 = .ok (.getfield 42, 3) := by decide +kernel
theorem dX10_areSignsAlike_27 : decode cX10_areSignsAlike 27 = .ok (.bipush 22, 2) := by decide +kernel
theorem dX10_areSignsAlike_29 : decode cX10_areSignsAlike 29 = .ok (.iload_n 3, 1) := by decide +kernel
theorem dX10_areSignsAlike_30 : decode cX10_areSignsAlike 30 = .ok (.imul, 1) := by decide +kernel
theorem dX10_areSignsAlike_31 : decode cX10_areSignsAlike 31 = .ok (.aload_n 0, 1) := by decide +kernel
theorem dX10_areSignsAlike_32 : decode cX10_areSignsAlike 32 = .ok (.getfield 42, 3) := by decide +kernel
theorem dX10_areSignsAlike_35 : decode cX10_areSignsAlike 35 = .ok (.bipush 22, 2) := by decide +kernel
theorem dX10_areSignsAlike_37 : decode cX10_areSignsAlike 37 = .ok (.iload_n 1, 1) := by decide +kernel
theorem dX10_areSignsAlike_38 : decode cX10_areSignsAlike 38 = .ok (.imul, 1) := by decide +kernel
theorem dX10_areSignsAlike_39 : decode cX10_areSignsAlike 39 = .ok (.bipush 22, 2) := by decide +kernel
theorem dX10_areSignsAlike_41 : decode cX10_areSignsAlike 41 = .ok (.invokestatic 262, 3) := by decide +kernel
theorem dX10_areSignsAlike_44 : decode cX10_areSignsAlike 44 = .ok (.ifCond .ne 7, 3) := by decide +kernel
theorem dX10_areSignsAlike_47 : decode cX10_areSignsAlike 47 = .ok (.iconst 1, 1) := by decide +kernel
theorem dX10_areSignsAlike_48 : decode cX10_areSignsAlike 48 = .ok (.goto 4, 3) := by decide +kernel
theorem dX10_areSignsAlike_51 : decode cX10_areSignsAlike 51 = .ok (.iconst 0, 1) := by decide +kernel
theorem dX10_areSignsAlike_52 : decode cX10_areSignsAlike 52 = .ok (.iadd, 1) := by decide +kernel
theorem dX10_areSignsAlike_53 : decode cX10_areSignsAlike 53 = .ok (.istore_n 2, 1) := by decide +kernel
theorem dX10_areSignsAlike_54 : decode cX10_areSignsAlike 54 = .ok (.iload_n 2, 1) := by decide +kernel
theorem dX10_areSignsAlike_55 : decode cX10_areSignsAlike 55 = .ok (.aload_n 0, 1) := by decide +kernel
theorem dX10_areSignsAlike_56 : decode cX10_areSignsAlike 56 = .ok (.getfield 102, 3) := by decide +kernel
theorem dX10_areSignsAlike_59 : decode cX10_areSignsAlike 59 = .ok (.bipush 22, 2) := by decide +kernel
theorem dX10_areSignsAlike_61 : decode cX10_areSignsAlike 61 = .ok (.iload_n 3, 1) := by decide +kernel
theorem dX10_areSignsAlike_62 : decode cX10_areSignsAlike 62 = .ok (.imul, 1) := by decide +kernel
theorem dX10_areSignsAlike_63 : decode cX10_areSignsAlike 63 = .ok (.aload_n 0, 1) := by decide +kernel
theorem dX10_areSignsAlike_64 : decode cX10_areSignsAlike 64 = .ok (.getfield 42, 3) := by decide +kernel
theorem dX10_areSignsAlike_67 : decode cX10_areSignsAlike 67 = .ok (.bipush 22, 2) := by decide +kernel
theorem dX10_areSignsAlike_69 : decode cX10_areSignsAlike 69 = .ok (.iload_n 1, 1) := by decide +kernel
theorem dX10_areSignsAlike_70 : decode cX10_areSignsAlike 70 = .ok (.imul, 1) := by decide +kernel
theorem dX10_areSignsAlike_71 : decode cX10_areSignsAlike 71 = .ok (.bipush 22, 2) := by decide +kernel
theorem dX10_areSignsAlike_73 : decode cX10_areSignsAlike 73 = .ok (.invokestatic 262, 3) := by decide +kernel
theorem dX10_areSignsAlike_76 : decode cX10_areSignsAlike 76 = .ok (.ifCond .ne 7, 3) := by decide +kernel
theorem dX10_areSignsAlike_79 : decode cX10_areSignsAlike 79 = .ok (.iconst 1, 1) := by decide +kernel
theorem dX10_areSignsAlike_80 : decode cX10_areSignsAlike 80 = .ok (.goto 4, 3) := by decide +kernel
theorem dX10_areSignsAlike_83 : decode cX10_areSignsAlike 83 = .ok (.iconst 0, 1) := by decide +kernel
theorem dX10_areSignsAlike_84 : decode cX10_areSignsAlike 84 = .ok (.isub, 1) := by decide +kernel
theorem dX10_areSignsAlike_85 : decode cX10_areSignsAlike 85 = .ok (.istore_n 2, 1) := by decide +kernel
theorem dX10_areSignsAlike_86 : decode cX10_areSignsAlike 86 = .ok (.iinc 3 1, 3) := by decide +kernel
theorem dX10_areSignsAlike_89 : decode cX10_areSignsAlike 89 = .ok (.goto (-75), 3) := by decide +kernel
theorem dX10_areSignsAlike_92 : decode cX10_areSignsAlike 92 = .ok (.iload_n 2, 1) := by decide +kernel
theorem dX10_areSignsAlike_93 : decode cX10_areSignsAlike 93 = .ok (.ifCond .eq 5, 3) := by decide +kernel
theorem dX10_areSignsAlike_96 : decode cX10_areSignsAlike 96 = .ok (.iconst 0, 1) := by decide +kernel
theorem dX10_areSignsAlike_97 : decode cX10_areSignsAlike 97 = .ok (.ireturn, 1) := by decide +kernel
theorem dX10_areSignsAlike_98 : decode cX10_areSignsAlike 98 = .ok (.iinc 1 1, 3) := by decide +kernel
theorem dX10_areSignsAlike_101 : decode cX10_areSignsAlike 101 = .ok (.goto (-99), 3) := by decide +kernel
theorem dX10_areSignsAlike_104 : decode cX10_areSignsAlike 104 = .ok (.iconst 1, 1) := by decide +kernel
theorem dX10_areSignsAlike_105 : decode cX10_areSignsAlike 105 = .ok (.ireturn, 1) := by decide +kernel
theorem dX10_laysOtherCells_0 : decode cX10_laysOtherCells 0 = .ok (.iconst 0, 1) := by decide +kernel
theorem dX10_laysOtherCells_1 : decode cX10_laysOtherCells 1 = .ok (.istore_n 1, 1) := by decide +kernel
theorem dX10_laysOtherCells_2 : decode cX10_laysOtherCells 2 = .ok (.iload_n 1, 1) := by decide +kernel
theorem dX10_laysOtherCells_3 : decode cX10_laysOtherCells 3 = .ok (.aload_n 0, 1) := by decide +kernel
theorem dX10_laysOtherCells_4 : decode cX10_laysOtherCells 4 = .ok (.getfield 256, 3) := by decide +kernel
theorem dX10_laysOtherCells_7 : decode cX10_laysOtherCells 7 = .ok (.if_icmp .ge 61, 3) := by decide +kernel
theorem dX10_laysOtherCells_10 : decode cX10_laysOtherCells 10 = .ok (.iconst 0, 1) := by decide +kernel
theorem dX10_laysOtherCells_11 : decode cX10_laysOtherCells 11 = .ok (.istore_n 2, 1) := by decide +kernel
theorem dX10_laysOtherCells_12 : decode cX10_laysOtherCells 12 = .ok (.iload_n 2, 1) := by decide +kernel
theorem dX10_laysOtherCells_13 : decode cX10_laysOtherCells 13 = .ok (.aload_n 0, 1) := by decide +kernel
theorem dX10_laysOtherCells_14 : decode cX10_laysOtherCells 14 = .ok (.getfield 256, 3) := by decide +kernel
theorem dX10_laysOtherCells_17 : decode cX10_laysOtherCells 17 = .ok (.if_icmp .ge 45, 3) := by decide +kernel
theorem dX10_laysOtherCells_20 : decode cX10_laysOtherCells 20 = .ok (.aload_n 0, 1) := by decide +kernel
theorem dX10_laysOtherCells_21 : decode cX10_laysOtherCells 21 = .ok (.getfield 102, 3) := by decide +kernel
theorem dX10_laysOtherCells_24 : decode cX10_laysOtherCells 24 = .ok (.bipush 22, 2) := by decide +kernel
theorem dX10_laysOtherCells_26 : decode cX10_laysOtherCells 26 = .ok (.iload_n 1, 1) := by decide +kernel
theorem dX10_laysOtherCells_27 : decode cX10_laysOtherCells 27 = .ok (.imul, 1) := by decide +kernel
theorem dX10_laysOtherCells_28 : decode cX10_laysOtherCells 28 = .ok (.aload_n 0, 1) := by decide +kernel
theorem dX10_laysOtherCells_29 : decode cX10_laysOtherCells 29 = .ok (.getfield 42, 3) := by decide +kernel
theorem dX10_laysOtherCells_32 : decode cX10_laysOtherCells 32 = .ok (.bipush 22, 2) := by decide +kernel
theorem dX10_laysOtherCells_34 : decode cX10_laysOtherCells 34 = .ok (.iload_n 2, 1) := by decide +kernel
theorem dX10_laysOtherCells_35 : decode cX10_laysOtherCells 35 = .ok (.imul, 1) := by decide +kernel
theorem dX10_laysOtherCells_36 : decode cX10_laysOtherCells 36 = .ok (.bipush 22, 2) := by decide +kernel
theorem dX10_laysOtherCells_38 : decode cX10_laysOtherCells 38 = .ok (.invokestatic 262, 3) := by decide +kernel
theorem dX10_laysOtherCells_41 : decode cX10_laysOtherCells 41 = .ok (.ifCond .ne 15, 3) := by decide +kernel
theorem dX10_laysOtherCells_44 : decode cX10_laysOtherCells 44 = .ok (.aload_n 0, 1) := by decide +kernel
theorem dX10_laysOtherCells_45 : decode cX10_laysOtherCells 45 = .ok (.getfield 99, 3) := by decide +kernel
theorem dX10_laysOtherCells_48 : decode cX10_laysOtherCells 48 = .ok (.iload_n 1, 1) := by decide +kernel
theorem dX10_laysOtherCells_49 : decode cX10_laysOtherCells 49 = .ok (.aload_n 0, 1) := by decide +kernel
theorem dX10_laysOtherCells_50 : decode cX10_laysOtherCells 50 = .ok (.getfield 45, 3) := by decide +kernel
theorem dX10_laysOtherCells_53 : decode cX10_laysOtherCells 53 = .ok (.iload_n 2, 1) := by decide +kernel
theorem dX10_laysOtherCells_54 : decode cX10_laysOtherCells 54 = .ok (.iaload, 1) := by decide +kernel
theorem dX10_laysOtherCells_55 : decode cX10_laysOtherCells 55 = .ok (.iastore, 1) := by decide +kernel
theorem dX10_laysOtherCells_56 : decode cX10_laysOtherCells 56 = .ok (.iinc 2 1, 3) := by decide +kernel
theorem dX10_laysOtherCells_59 : decode cX10_laysOtherCells 59 = .ok (.goto (-47), 3) := by decide +kernel
theorem dX10_laysOtherCells_62 : decode cX10_laysOtherCells 62 = .ok (.iinc 1 1, 3) := by decide +kernel
theorem dX10_laysOtherCells_65 : decode cX10_laysOtherCells 65 = .ok (.goto (-63), 3) := by decide +kernel
theorem dX10_laysOtherCells_68 : decode cX10_laysOtherCells 68 = .ok (.return_, 1) := by decide +kernel
theorem dX10_toldBy_0 : decode cX10_toldBy 0 = .ok (.aload_n 0, 1) := by decide +kernel
theorem dX10_toldBy_1 : decode cX10_toldBy 1 = .ok (.invokevirtual 436, 3) := by decide +kernel
theorem dX10_toldBy_4 : decode cX10_toldBy 4 = .ok (.ifCond .ne 5, 3) := by decide +kernel
theorem dX10_toldBy_7 : decode cX10_toldBy 7 = .ok (.iconst 0, 1) := by decide +kernel
theorem dX10_toldBy_8 : decode cX10_toldBy 8 = .ok (.ireturn, 1) := by decide +kernel
theorem dX10_toldBy_9 : decode cX10_toldBy 9 = .ok (.aload_n 0, 1) := by decide +kernel
theorem dX10_toldBy_10 : decode cX10_toldBy 10 = .ok (.invokevirtual 281, 3) := by decide +kernel
theorem dX10_toldBy_13 : decode cX10_toldBy 13 = .ok (.iconst 0, 1) := by decide +kernel
theorem dX10_toldBy_14 : decode cX10_toldBy 14 = .ok (.istore_n 1, 1) := by decide +kernel
theorem dX10_toldBy_15 : decode cX10_toldBy 15 = .ok (.iload_n 1, 1) := by decide +kernel
theorem dX10_toldBy_16 : decode cX10_toldBy 16 = .ok (.aload_n 0, 1) := by decide +kernel
theorem dX10_toldBy_17 : decode cX10_toldBy 17 = .ok (.getfield 256, 3) := by decide +kernel
theorem dX10_toldBy_20 : decode cX10_toldBy 20 = .ok (.if_icmp .ge 52, 3) := by decide +kernel
theorem dX10_toldBy_23 : decode cX10_toldBy 23 = .ok (.iconst 0, 1) := by decide +kernel
theorem dX10_toldBy_24 : decode cX10_toldBy 24 = .ok (.istore_n 2, 1) := by decide +kernel
theorem dX10_toldBy_25 : decode cX10_toldBy 25 = .ok (.iload_n 2, 1) := by decide +kernel
theorem dX10_toldBy_26 : decode cX10_toldBy 26 = .ok (.aload_n 0, 1) := by decide +kernel
theorem dX10_toldBy_27 : decode cX10_toldBy 27 = .ok (.getfield 256, 3) := by decide +kernel
theorem dX10_toldBy_30 : decode cX10_toldBy 30 = .ok (.if_icmp .ge 36, 3) := by decide +kernel
theorem dX10_toldBy_33 : decode cX10_toldBy 33 = .ok (.aload_n 0, 1) := by decide +kernel
theorem dX10_toldBy_34 : decode cX10_toldBy 34 = .ok (.getfield 84, 3) := by decide +kernel
theorem dX10_toldBy_37 : decode cX10_toldBy 37 = .ok (.iload_n 1, 1) := by decide +kernel
theorem dX10_toldBy_38 : decode cX10_toldBy 38 = .ok (.iaload, 1) := by decide +kernel
theorem dX10_toldBy_39 : decode cX10_toldBy 39 = .ok (.aload_n 0, 1) := by decide +kernel
theorem dX10_toldBy_40 : decode cX10_toldBy 40 = .ok (.getfield 33, 3) := by decide +kernel
theorem dX10_toldBy_43 : decode cX10_toldBy 43 = .ok (.iload_n 2, 1) := by decide +kernel
theorem dX10_toldBy_44 : decode cX10_toldBy 44 = .ok (.iaload, 1) := by decide +kernel
theorem dX10_toldBy_45 : decode cX10_toldBy 45 = .ok (.if_icmp .ne 15, 3) := by decide +kernel
theorem dX10_toldBy_48 : decode cX10_toldBy 48 = .ok (.aload_n 0, 1) := by decide +kernel
theorem dX10_toldBy_49 : decode cX10_toldBy 49 = .ok (.getfield 99, 3) := by decide +kernel
theorem dX10_toldBy_52 : decode cX10_toldBy 52 = .ok (.iload_n 1, 1) := by decide +kernel
theorem dX10_toldBy_53 : decode cX10_toldBy 53 = .ok (.aload_n 0, 1) := by decide +kernel
theorem dX10_toldBy_54 : decode cX10_toldBy 54 = .ok (.getfield 39, 3) := by decide +kernel
theorem dX10_toldBy_57 : decode cX10_toldBy 57 = .ok (.iload_n 2, 1) := by decide +kernel
theorem dX10_toldBy_58 : decode cX10_toldBy 58 = .ok (.iaload, 1) := by decide +kernel
theorem dX10_toldBy_59 : decode cX10_toldBy 59 = .ok (.iastore, 1) := by decide +kernel
theorem dX10_toldBy_60 : decode cX10_toldBy 60 = .ok (.iinc 2 1, 3) := by decide +kernel
theorem dX10_toldBy_63 : decode cX10_toldBy 63 = .ok (.goto (-38), 3) := by decide +kernel
theorem dX10_toldBy_66 : decode cX10_toldBy 66 = .ok (.iinc 1 1, 3) := by decide +kernel
theorem dX10_toldBy_69 : decode cX10_toldBy 69 = .ok (.goto (-54), 3) := by decide +kernel
theorem dX10_toldBy_72 : decode cX10_toldBy 72 = .ok (.iconst 1, 1) := by decide +kernel
theorem dX10_toldBy_73 : decode cX10_toldBy 73 = .ok (.istore_n 1, 1) := by decide +kernel
theorem dX10_toldBy_74 : decode cX10_toldBy 74 = .ok (.iconst 0, 1) := by decide +kernel
theorem dX10_toldBy_75 : decode cX10_toldBy 75 = .ok (.istore_n 2, 1) := by decide +kernel
theorem dX10_toldBy_76 : decode cX10_toldBy 76 = .ok (.iload_n 1, 1) := by decide +kernel
theorem dX10_toldBy_77 : decode cX10_toldBy 77 = .ok (.ifCond .eq 31, 3) := by decide +kernel
theorem dX10_toldBy_80 : decode cX10_toldBy 80 = .ok (.iinc 2 1, 3) := by decide +kernel
theorem dX10_toldBy_83 : decode cX10_toldBy 83 = .ok (.aload_n 0, 1) := by decide +kernel
theorem dX10_toldBy_84 : decode cX10_toldBy 84 = .ok (.invokevirtual 439, 3) := by decide +kernel
theorem dX10_toldBy_87 : decode cX10_toldBy 87 = .ok (.aload_n 0, 1) := by decide +kernel
theorem dX10_toldBy_88 : decode cX10_toldBy 88 = .ok (.invokevirtual 275, 3) := by decide +kernel
theorem dX10_toldBy_91 : decode cX10_toldBy 91 = .ok (.istore_n 1, 1) := by decide +kernel
theorem dX10_toldBy_92 : decode cX10_toldBy 92 = .ok (.aload_n 0, 1) := by decide +kernel
theorem dX10_toldBy_93 : decode cX10_toldBy 93 = .ok (.invokevirtual 442, 3) := by decide +kernel
theorem dX10_toldBy_96 : decode cX10_toldBy 96 = .ok (.ifCond .ne 5, 3) := by decide +kernel
theorem dX10_toldBy_99 : decode cX10_toldBy 99 = .ok (.iload_n 2, 1) := by decide +kernel
theorem dX10_toldBy_100 : decode cX10_toldBy 100 = .ok (.ireturn, 1) := by decide +kernel
theorem dX10_toldBy_101 : decode cX10_toldBy 101 = .ok (.aload_n 0, 1) := by decide +kernel
theorem dX10_toldBy_102 : decode cX10_toldBy 102 = .ok (.invokevirtual 445, 3) := by decide +kernel
theorem dX10_toldBy_105 : decode cX10_toldBy 105 = .ok (.goto (-29), 3) := by decide +kernel
theorem dX10_toldBy_108 : decode cX10_toldBy 108 = .ok (.bipush (-2), 2) := by decide +kernel
theorem dX10_toldBy_110 : decode cX10_toldBy 110 = .ok (.ireturn, 1) := by decide +kernel
theorem dX10_told_0 : decode cX10_told 0 = .ok (.aload_n 0, 1) := by decide +kernel
theorem dX10_told_1 : decode cX10_told 1 = .ok (.invokevirtual 215, 3) := by decide +kernel
theorem dX10_told_4 : decode cX10_told 4 = .ok (.aload_n 0, 1) := by decide +kernel
theorem dX10_told_5 : decode cX10_told 5 = .ok (.iload_n 1, 1) := by decide +kernel
theorem dX10_told_6 : decode cX10_told 6 = .ok (.invokestatic 218, 3) := by decide +kernel
theorem dX10_told_9 : decode cX10_told 9 = .ok (.ifCond .eq 10, 3) := by decide +kernel
theorem dX10_told_12 : decode cX10_told 12 = .ok (.iload_n 2, 1) := by decide +kernel
theorem dX10_told_13 : decode cX10_told 13 = .ok (.invokestatic 218, 3) := by decide +kernel
theorem dX10_told_16 : decode cX10_told 16 = .ok (.ifCond .ne 7, 3) := by decide +kernel
theorem dX10_told_19 : decode cX10_told 19 = .ok (.iconst 1, 1) := by decide +kernel
theorem dX10_told_20 : decode cX10_told 20 = .ok (.goto 4, 3) := by decide +kernel
theorem dX10_told_23 : decode cX10_told 23 = .ok (.iconst 0, 1) := by decide +kernel
theorem dX10_told_24 : decode cX10_told 24 = .ok (.iconst 1, 1) := by decide +kernel
theorem dX10_told_25 : decode cX10_told 25 = .ok (.invokevirtual 221, 3) := by decide +kernel
theorem dX10_told_28 : decode cX10_told 28 = .ok (.ifCond .ne 29, 3) := by decide +kernel
theorem dX10_told_31 : decode cX10_told 31 = .ok (.aload_n 0, 1) := by decide +kernel
theorem dX10_told_32 : decode cX10_told 32 = .ok (.aload_n 0, 1) := by decide +kernel
theorem dX10_told_33 : decode cX10_told 33 = .ok (.iload_n 1, 1) := by decide +kernel
theorem dX10_told_34 : decode cX10_told 34 = .ok (.invokevirtual 231, 3) := by decide +kernel
theorem dX10_told_37 : decode cX10_told 37 = .ok (.aload_n 0, 1) := by decide +kernel
theorem dX10_told_38 : decode cX10_told 38 = .ok (.iload_n 2, 1) := by decide +kernel
theorem dX10_told_39 : decode cX10_told 39 = .ok (.invokevirtual 231, 3) := by decide +kernel
theorem dX10_told_42 : decode cX10_told 42 = .ok (.if_icmp .eq 7, 3) := by decide +kernel
theorem dX10_told_45 : decode cX10_told 45 = .ok (.iconst 1, 1) := by decide +kernel
theorem dX10_told_46 : decode cX10_told 46 = .ok (.goto 4, 3) := by decide +kernel
theorem dX10_told_49 : decode cX10_told 49 = .ok (.iconst 0, 1) := by decide +kernel
theorem dX10_told_50 : decode cX10_told 50 = .ok (.iconst 5, 1) := by decide +kernel
theorem dX10_told_51 : decode cX10_told 51 = .ok (.invokevirtual 221, 3) := by decide +kernel
theorem dX10_told_54 : decode cX10_told 54 = .ok (.ifCond .eq 5, 3) := by decide +kernel
theorem dX10_told_57 : decode cX10_told 57 = .ok (.iconst (-1), 1) := by decide +kernel
theorem dX10_told_58 : decode cX10_told 58 = .ok (.ireturn, 1) := by decide +kernel
theorem dX10_told_59 : decode cX10_told 59 = .ok (.aload_n 0, 1) := by decide +kernel
theorem dX10_told_60 : decode cX10_told 60 = .ok (.iload_n 2, 1) := by decide +kernel
theorem dX10_told_61 : decode cX10_told 61 = .ok (.invokevirtual 259, 3) := by decide +kernel
theorem dX10_told_64 : decode cX10_told 64 = .ok (.aload_n 0, 1) := by decide +kernel
theorem dX10_told_65 : decode cX10_told 65 = .ok (.invokevirtual 421, 3) := by decide +kernel
theorem dX10_told_68 : decode cX10_told 68 = .ok (.aload_n 0, 1) := by decide +kernel
theorem dX10_told_69 : decode cX10_told 69 = .ok (.iload_n 1, 1) := by decide +kernel
theorem dX10_told_70 : decode cX10_told 70 = .ok (.invokevirtual 259, 3) := by decide +kernel
theorem dX10_told_73 : decode cX10_told 73 = .ok (.aload_n 0, 1) := by decide +kernel
theorem dX10_told_74 : decode cX10_told 74 = .ok (.invokevirtual 448, 3) := by decide +kernel
theorem dX10_told_77 : decode cX10_told 77 = .ok (.ireturn, 1) := by decide +kernel
theorem dX10_cards_0 : decode cX10_cards 0 = .ok (.aload_n 0, 1) := by decide +kernel
theorem dX10_cards_1 : decode cX10_cards 1 = .ok (.invokevirtual 215, 3) := by decide +kernel
theorem dX10_cards_4 : decode cX10_cards 4 = .ok (.aload_n 0, 1) := by decide +kernel
theorem dX10_cards_5 : decode cX10_cards 5 = .ok (.iload_n 1, 1) := by decide +kernel
theorem dX10_cards_6 : decode cX10_cards 6 = .ok (.invokestatic 218, 3) := by decide +kernel
theorem dX10_cards_9 : decode cX10_cards 9 = .ok (.ifCond .eq 12, 3) := by decide +kernel
theorem dX10_cards_12 : decode cX10_cards 12 = .ok (.iload_n 2, 1) := by decide +kernel
theorem dX10_cards_13 : decode cX10_cards 13 = .ok (.iconst 0, 1) := by decide +kernel
theorem dX10_cards_14 : decode cX10_cards 14 = .ok (.iconst 1, 1) := by decide +kernel
theorem dX10_cards_15 : decode cX10_cards 15 = .ok (.invokestatic 156, 3) := by decide +kernel
theorem dX10_cards_18 : decode cX10_cards 18 = .ok (.ifCond .ne 7, 3) := by decide +kernel
theorem dX10_cards_21 : decode cX10_cards 21 = .ok (.iconst 1, 1) := by decide +kernel
theorem dX10_cards_22 : decode cX10_cards 22 = .ok (.goto 4, 3) := by decide +kernel
theorem dX10_cards_25 : decode cX10_cards 25 = .ok (.iconst 0, 1) := by decide +kernel
theorem dX10_cards_26 : decode cX10_cards 26 = .ok (.iconst 1, 1) := by decide +kernel
theorem dX10_cards_27 : decode cX10_cards 27 = .ok (.invokevirtual 221, 3) := by decide +kernel
theorem dX10_cards_30 : decode cX10_cards 30 = .ok (.ifCond .ne 25, 3) := by decide +kernel
theorem dX10_cards_33 : decode cX10_cards 33 = .ok (.aload_n 0, 1) := by decide +kernel
theorem dX10_cards_34 : decode cX10_cards 34 = .ok (.aload_n 0, 1) := by decide +kernel
theorem dX10_cards_35 : decode cX10_cards 35 = .ok (.iload_n 1, 1) := by decide +kernel
theorem dX10_cards_36 : decode cX10_cards 36 = .ok (.invokevirtual 231, 3) := by decide +kernel
theorem dX10_cards_39 : decode cX10_cards 39 = .ok (.iconst 1, 1) := by decide +kernel
theorem dX10_cards_40 : decode cX10_cards 40 = .ok (.if_icmp .ne 7, 3) := by decide +kernel
theorem dX10_cards_43 : decode cX10_cards 43 = .ok (.iconst 1, 1) := by decide +kernel
theorem dX10_cards_44 : decode cX10_cards 44 = .ok (.goto 4, 3) := by decide +kernel
theorem dX10_cards_47 : decode cX10_cards 47 = .ok (.iconst 0, 1) := by decide +kernel
theorem dX10_cards_48 : decode cX10_cards 48 = .ok (.iconst 5, 1) := by decide +kernel
theorem dX10_cards_49 : decode cX10_cards 49 = .ok (.invokevirtual 221, 3) := by decide +kernel
theorem dX10_cards_52 : decode cX10_cards 52 = .ok (.ifCond .eq 5, 3) := by decide +kernel
theorem dX10_cards_55 : decode cX10_cards 55 = .ok (.iconst (-1), 1) := by decide +kernel
theorem dX10_cards_56 : decode cX10_cards 56 = .ok (.ireturn, 1) := by decide +kernel
theorem dX10_cards_57 : decode cX10_cards 57 = .ok (.aload_n 0, 1) := by decide +kernel
theorem dX10_cards_58 : decode cX10_cards 58 = .ok (.iload_n 1, 1) := by decide +kernel
theorem dX10_cards_59 : decode cX10_cards 59 = .ok (.invokevirtual 231, 3) := by decide +kernel
theorem dX10_cards_62 : decode cX10_cards 62 = .ok (.istore_n 3, 1) := by decide +kernel
theorem dX10_cards_63 : decode cX10_cards 63 = .ok (.iconst 0, 1) := by decide +kernel
theorem dX10_cards_64 : decode cX10_cards 64 = .ok (.istore 4, 2) := by decide +kernel
theorem dX10_cards_66 : decode cX10_cards 66 = .ok (.iload 4, 2) := by decide +kernel
theorem dX10_cards_68 : decode cX10_cards 68 = .ok (.iload_n 3, 1) := by decide +kernel
theorem dX10_cards_69 : decode cX10_cards 69 = .ok (.if_icmp .ge 22, 3) := by decide +kernel
theorem dX10_cards_72 : decode cX10_cards 72 = .ok (.aload_n 0, 1) := by decide +kernel
theorem dX10_cards_73 : decode cX10_cards 73 = .ok (.iload_n 1, 1) := by decide +kernel
theorem dX10_cards_74 : decode cX10_cards 74 = .ok (.iload 4, 2) := by decide +kernel
theorem dX10_cards_76 : decode cX10_cards 76 = .ok (.invokevirtual 451, 3) := by decide +kernel
theorem dX10_cards_79 : decode cX10_cards 79 = .ok (.aload_n 0, 1) := by decide +kernel
theorem dX10_cards_80 : decode cX10_cards 80 = .ok (.iload 4, 2) := by decide +kernel
theorem dX10_cards_82 : decode cX10_cards 82 = .ok (.invokevirtual 351, 3) := by decide +kernel
theorem dX10_cards_85 : decode cX10_cards 85 = .ok (.iinc 4 1, 3) := by decide +kernel
theorem dX10_cards_88 : decode cX10_cards 88 = .ok (.goto (-22), 3) := by decide +kernel
theorem dX10_cards_91 : decode cX10_cards 91 = .ok (.iconst 0, 1) := by decide +kernel
theorem dX10_cards_92 : decode cX10_cards 92 = .ok (.istore 4, 2) := by decide +kernel
theorem dX10_cards_94 : decode cX10_cards 94 = .ok (.iconst 0, 1) := by decide +kernel
theorem dX10_cards_95 : decode cX10_cards 95 = .ok (.istore 5, 2) := by decide +kernel
theorem dX10_cards_97 : decode cX10_cards 97 = .ok (.iconst 0, 1) := by decide +kernel
theorem dX10_cards_98 : decode cX10_cards 98 = .ok (.istore 6, 2) := by decide +kernel
theorem dX10_cards_100 : decode cX10_cards 100 = .ok (.iload 6, 2) := by decide +kernel
theorem dX10_cards_102 : decode cX10_cards 102 = .ok (.iload_n 3, 1) := by decide +kernel
theorem dX10_cards_103 : decode cX10_cards 103 = .ok (.if_icmp .ge 113, 3) := by decide +kernel
theorem dX10_cards_106 : decode cX10_cards 106 = .ok (.iconst 1, 1) := by decide +kernel
theorem dX10_cards_107 : decode cX10_cards 107 = .ok (.istore 7, 2) := by decide +kernel
theorem dX10_cards_109 : decode cX10_cards 109 = .ok (.iconst 0, 1) := by decide +kernel
theorem dX10_cards_110 : decode cX10_cards 110 = .ok (.istore 8, 2) := by decide +kernel
theorem dX10_cards_112 : decode cX10_cards 112 = .ok (.iload 8, 2) := by decide +kernel
theorem dX10_cards_114 : decode cX10_cards 114 = .ok (.iload 6, 2) := by decide +kernel
theorem dX10_cards_116 : decode cX10_cards 116 = .ok (.if_icmp .ge 47, 3) := by decide +kernel
theorem dX10_cards_119 : decode cX10_cards 119 = .ok (.iload 7, 2) := by decide +kernel
theorem dX10_cards_121 : decode cX10_cards 121 = .ok (.ifCond .eq 33, 3) := by decide +kernel
theorem dX10_cards_124 : decode cX10_cards 124 = .ok (.aload_n 0, 1) := by decide +kernel
theorem dX10_cards_125 : decode cX10_cards 125 = .ok (.getfield 66, 3) := by decide +kernel
theorem dX10_cards_128 : decode cX10_cards 128 = .ok (.bipush 28, 2) := by decide +kernel
theorem dX10_cards_130 : decode cX10_cards 130 = .ok (.iload 8, 2) := by decide +kernel
theorem dX10_cards_132 : decode cX10_cards 132 = .ok (.imul, 1) := by decide +kernel
theorem dX10_cards_133 : decode cX10_cards 133 = .ok (.aload_n 0, 1) := by decide +kernel
theorem dX10_cards_134 : decode cX10_cards 134 = .ok (.getfield 66, 3) := by decide +kernel
theorem dX10_cards_137 : decode cX10_cards 137 = .ok (.bipush 28, 2) := by decide +kernel
theorem dX10_cards_139 : decode cX10_cards 139 = .ok (.iload 6, 2) := by decide +kernel
theorem dX10_cards_141 : decode cX10_cards 141 = .ok (.imul, 1) := by decide +kernel
theorem dX10_cards_142 : decode cX10_cards 142 = .ok (.bipush 28, 2) := by decide +kernel
theorem dX10_cards_144 : decode cX10_cards 144 = .ok (.invokestatic 262, 3) := by decide +kernel
theorem dX10_cards_147 : decode cX10_cards 147 = .ok (.ifCond .eq 7, 3) := by decide +kernel
theorem dX10_cards_150 : decode cX10_cards 150 = .ok (.iconst 1, 1) := by decide +kernel
theorem dX10_cards_151 : decode cX10_cards 151 = .ok (.goto 4, 3) := by decide +kernel
theorem dX10_cards_154 : decode cX10_cards 154 = .ok (.iconst 0, 1) := by decide +kernel
theorem dX10_cards_155 : decode cX10_cards 155 = .ok (.istore 7, 2) := by decide +kernel
theorem dX10_cards_157 : decode cX10_cards 157 = .ok (.iinc 8 1, 3) := by decide +kernel
theorem dX10_cards_160 : decode cX10_cards 160 = .ok (.goto (-48), 3) := by decide +kernel
theorem dX10_cards_163 : decode cX10_cards 163 = .ok (.iload 4, 2) := by decide +kernel
theorem dX10_cards_165 : decode cX10_cards 165 = .ok (.iload 7, 2) := by decide +kernel
theorem dX10_cards_167 : decode cX10_cards 167 = .ok (.ifCond .eq 7, 3) := by decide +kernel
theorem dX10_cards_170 : decode cX10_cards 170 = .ok (.iconst 1, 1) := by decide +kernel
theorem dX10_cards_171 : decode cX10_cards 171 = .ok (.goto 4, 3) := by decide +kernel
theorem dX10_cards_174 : decode cX10_cards 174 = .ok (.iconst 0, 1) := by decide +kernel
theorem dX10_cards_175 : decode cX10_cards 175 = .ok (.iadd, 1) := by decide +kernel
theorem dX10_cards_176 : decode cX10_cards 176 = .ok (.istore 4, 2) := by decide +kernel
theorem dX10_cards_178 : decode cX10_cards 178 = .ok (.iload 5, 2) := by decide +kernel
theorem dX10_cards_180 : decode cX10_cards 180 = .ok (.aload_n 0, 1) := by decide +kernel
theorem dX10_cards_181 : decode cX10_cards 181 = .ok (.getfield 66, 3) := by decide +kernel
theorem dX10_cards_184 : decode cX10_cards 184 = .ok (.iconst 0, 1) := by decide +kernel
theorem dX10_cards_185 : decode cX10_cards 185 = .ok (.aload_n 0, 1) := by decide +kernel
theorem dX10_cards_186 : decode cX10_cards 186 = .ok (.getfield 66, 3) := by decide +kernel
theorem dX10_cards_189 : decode cX10_cards 189 = .ok (.bipush 28, 2) := by decide +kernel
theorem dX10_cards_191 : decode cX10_cards 191 = .ok (.iload 6, 2) := by decide +kernel
theorem dX10_cards_193 : decode cX10_cards 193 = .ok (.imul, 1) := by decide +kernel
theorem dX10_cards_194 : decode cX10_cards 194 = .ok (.bipush 28, 2) := by decide +kernel
theorem dX10_cards_196 : decode cX10_cards 196 = .ok (.invokestatic 262, 3) := by decide +kernel
theorem dX10_cards_199 : decode cX10_cards 199 = .ok (.ifCond .ne 7, 3) := by decide +kernel
theorem dX10_cards_202 : decode cX10_cards 202 = .ok (.iconst 1, 1) := by decide +kernel
theorem dX10_cards_203 : decode cX10_cards 203 = .ok (.goto 4, 3) := by decide +kernel
theorem dX10_cards_206 : decode cX10_cards 206 = .ok (.iconst 0, 1) := by decide +kernel
theorem dX10_cards_207 : decode cX10_cards 207 = .ok (.iadd, 1) := by decide +kernel
theorem dX10_cards_208 : decode cX10_cards 208 = .ok (.istore 5, 2) := by decide +kernel
theorem dX10_cards_210 : decode cX10_cards 210 = .ok (.iinc 6 1, 3) := by decide +kernel
theorem dX10_cards_213 : decode cX10_cards 213 = .ok (.goto (-113), 3) := by decide +kernel
theorem dX10_cards_216 : decode cX10_cards 216 = .ok (.iload_n 2, 1) := by decide +kernel
theorem dX10_cards_217 : decode cX10_cards 217 = .ok (.ifCond .ne 8, 3) := by decide +kernel
theorem dX10_cards_220 : decode cX10_cards 220 = .ok (.iload 4, 2) := by decide +kernel
theorem dX10_cards_222 : decode cX10_cards 222 = .ok (.goto 5, 3) := by decide +kernel
theorem dX10_cards_225 : decode cX10_cards 225 = .ok (.iload 5, 2) := by decide +kernel
theorem dX10_cards_227 : decode cX10_cards 227 = .ok (.ireturn, 1) := by decide +kernel
theorem dX10_turned_0 : decode cX10_turned 0 = .ok (.aload_n 0, 1) := by decide +kernel
theorem dX10_turned_1 : decode cX10_turned 1 = .ok (.invokevirtual 215, 3) := by decide +kernel
theorem dX10_turned_4 : decode cX10_turned 4 = .ok (.aload_n 0, 1) := by decide +kernel
theorem dX10_turned_5 : decode cX10_turned 5 = .ok (.iload_n 1, 1) := by decide +kernel
theorem dX10_turned_6 : decode cX10_turned 6 = .ok (.invokestatic 218, 3) := by decide +kernel
theorem dX10_turned_9 : decode cX10_turned 9 = .ok (.ifCond .ne 7, 3) := by decide +kernel
theorem dX10_turned_12 : decode cX10_turned 12 = .ok (.iconst 1, 1) := by decide +kernel
theorem dX10_turned_13 : decode cX10_turned 13 = .ok (.goto 4, 3) := by decide +kernel
theorem dX10_turned_16 : decode cX10_turned 16 = .ok (.iconst 0, 1) := by decide +kernel
theorem dX10_turned_17 : decode cX10_turned 17 = .ok (.iconst 1, 1) := by decide +kernel
theorem dX10_turned_18 : decode cX10_turned 18 = .ok (.invokevirtual 221, 3) := by decide +kernel
theorem dX10_turned_21 : decode cX10_turned 21 = .ok (.ifCond .eq 5, 3) := by decide +kernel
theorem dX10_turned_24 : decode cX10_turned 24 = .ok (.iconst (-1), 1) := by decide +kernel
theorem dX10_turned_25 : decode cX10_turned 25 = .ok (.ireturn, 1) := by decide +kernel
theorem dX10_turned_26 : decode cX10_turned 26 = .ok (.aload_n 0, 1) := by decide +kernel
theorem dX10_turned_27 : decode cX10_turned 27 = .ok (.iload_n 1, 1) := by decide +kernel
theorem dX10_turned_28 : decode cX10_turned 28 = .ok (.invokevirtual 454, 3) := by decide +kernel
theorem dX10_turned_31 : decode cX10_turned 31 = .ok (.aload_n 0, 1) := by decide +kernel
theorem dX10_turned_32 : decode cX10_turned 32 = .ok (.invokevirtual 421, 3) := by decide +kernel
theorem dX10_turned_35 : decode cX10_turned 35 = .ok (.aload_n 0, 1) := by decide +kernel
theorem dX10_turned_36 : decode cX10_turned 36 = .ok (.iload_n 1, 1) := by decide +kernel
theorem dX10_turned_37 : decode cX10_turned 37 = .ok (.invokevirtual 259, 3) := by decide +kernel
theorem dX10_turned_40 : decode cX10_turned 40 = .ok (.aload_n 0, 1) := by decide +kernel
theorem dX10_turned_41 : decode cX10_turned 41 = .ok (.iconst 0, 1) := by decide +kernel
theorem dX10_turned_42 : decode cX10_turned 42 = .ok (.invokevirtual 424, 3) := by decide +kernel
theorem dX10_turned_45 : decode cX10_turned 45 = .ok (.aload_n 0, 1) := by decide +kernel
theorem dX10_turned_46 : decode cX10_turned 46 = .ok (.getfield 409, 3) := by decide +kernel
theorem dX10_turned_49 : decode cX10_turned 49 = .ok (.ifCond .le 7, 3) := by decide +kernel
theorem dX10_turned_52 : decode cX10_turned 52 = .ok (.iconst 1, 1) := by decide +kernel
theorem dX10_turned_53 : decode cX10_turned 53 = .ok (.goto 4, 3) := by decide +kernel
theorem dX10_turned_56 : decode cX10_turned 56 = .ok (.iconst 0, 1) := by decide +kernel
theorem dX10_turned_57 : decode cX10_turned 57 = .ok (.ireturn, 1) := by decide +kernel
theorem dX10_keeps_0 : decode cX10_keeps 0 = .ok (.aload_n 0, 1) := by decide +kernel
theorem dX10_keeps_1 : decode cX10_keeps 1 = .ok (.getfield 457, 3) := by decide +kernel
theorem dX10_keeps_4 : decode cX10_keeps 4 = .ok (.bipush 8, 2) := by decide +kernel
theorem dX10_keeps_6 : decode cX10_keeps 6 = .ok (.if_icmp .ne 44, 3) := by decide +kernel
theorem dX10_keeps_9 : decode cX10_keeps 9 = .ok (.iconst 0, 1) := by decide +kernel
theorem dX10_keeps_10 : decode cX10_keeps 10 = .ok (.istore_n 1, 1) := by decide +kernel
theorem dX10_keeps_11 : decode cX10_keeps 11 = .ok (.iload_n 1, 1) := by decide +kernel
theorem dX10_keeps_12 : decode cX10_keeps 12 = .ok (.sipush 1197, 3) := by decide +kernel
theorem dX10_keeps_15 : decode cX10_keeps 15 = .ok (.if_icmp .ge 25, 3) := by decide +kernel
theorem dX10_keeps_18 : decode cX10_keeps 18 = .ok (.aload_n 0, 1) := by decide +kernel
theorem dX10_keeps_19 : decode cX10_keeps 19 = .ok (.getfield 17, 3) := by decide +kernel
theorem dX10_keeps_22 : decode cX10_keeps 22 = .ok (.iload_n 1, 1) := by decide +kernel
theorem dX10_keeps_23 : decode cX10_keeps 23 = .ok (.aload_n 0, 1) := by decide +kernel
theorem dX10_keeps_24 : decode cX10_keeps 24 = .ok (.getfield 17, 3) := by decide +kernel
theorem dX10_keeps_27 : decode cX10_keeps 27 = .ok (.iload_n 1, 1) := by decide +kernel
theorem dX10_keeps_28 : decode cX10_keeps 28 = .ok (.sipush 171, 3) := by decide +kernel
theorem dX10_keeps_31 : decode cX10_keeps 31 = .ok (.iadd, 1) := by decide +kernel
theorem dX10_keeps_32 : decode cX10_keeps 32 = .ok (.iaload, 1) := by decide +kernel
theorem dX10_keeps_33 : decode cX10_keeps 33 = .ok (.iastore, 1) := by decide +kernel
theorem dX10_keeps_34 : decode cX10_keeps 34 = .ok (.iinc 1 1, 3) := by decide +kernel
theorem dX10_keeps_37 : decode cX10_keeps 37 = .ok (.goto (-26), 3) := by decide +kernel
theorem dX10_keeps_40 : decode cX10_keeps 40 = .ok (.aload_n 0, 1) := by decide +kernel
theorem dX10_keeps_41 : decode cX10_keeps 41 = .ok (.dup, 1) := by decide +kernel
theorem dX10_keeps_42 : decode cX10_keeps 42 = .ok (.getfield 457, 3) := by decide +kernel
theorem dX10_keeps_45 : decode cX10_keeps 45 = .ok (.iconst 1, 1) := by decide +kernel
theorem dX10_keeps_46 : decode cX10_keeps 46 = .ok (.isub, 1) := by decide +kernel
theorem dX10_keeps_47 : decode cX10_keeps 47 = .ok (.putfield 457, 3) := by decide +kernel
theorem dX10_keeps_50 : decode cX10_keeps 50 = .ok (.iconst 0, 1) := by decide +kernel
theorem dX10_keeps_51 : decode cX10_keeps 51 = .ok (.istore_n 1, 1) := by decide +kernel
theorem dX10_keeps_52 : decode cX10_keeps 52 = .ok (.iload_n 1, 1) := by decide +kernel
theorem dX10_keeps_53 : decode cX10_keeps 53 = .ok (.sipush 171, 3) := by decide +kernel
theorem dX10_keeps_56 : decode cX10_keeps 56 = .ok (.if_icmp .ge 30, 3) := by decide +kernel
theorem dX10_keeps_59 : decode cX10_keeps 59 = .ok (.aload_n 0, 1) := by decide +kernel
theorem dX10_keeps_60 : decode cX10_keeps 60 = .ok (.getfield 17, 3) := by decide +kernel
theorem dX10_keeps_63 : decode cX10_keeps 63 = .ok (.sipush 171, 3) := by decide +kernel
theorem dX10_keeps_66 : decode cX10_keeps 66 = .ok (.aload_n 0, 1) := by decide +kernel
theorem dX10_keeps_67 : decode cX10_keeps 67 = .ok (.getfield 457, 3) := by decide +kernel
theorem dX10_keeps_70 : decode cX10_keeps 70 = .ok (.imul, 1) := by decide +kernel
theorem dX10_keeps_71 : decode cX10_keeps 71 = .ok (.iload_n 1, 1) := by decide +kernel
theorem dX10_keeps_72 : decode cX10_keeps 72 = .ok (.iadd, 1) := by decide +kernel
theorem dX10_keeps_73 : decode cX10_keeps 73 = .ok (.aload_n 0, 1) := by decide +kernel
theorem dX10_keeps_74 : decode cX10_keeps 74 = .ok (.getfield 13, 3) := by decide +kernel
theorem dX10_keeps_77 : decode cX10_keeps 77 = .ok (.iload_n 1, 1) := by decide +kernel
theorem dX10_keeps_78 : decode cX10_keeps 78 = .ok (.iaload, 1) := by decide +kernel
theorem dX10_keeps_79 : decode cX10_keeps 79 = .ok (.iastore, 1) := by decide +kernel
theorem dX10_keeps_80 : decode cX10_keeps 80 = .ok (.iinc 1 1, 3) := by decide +kernel
theorem dX10_keeps_83 : decode cX10_keeps 83 = .ok (.goto (-31), 3) := by decide +kernel
theorem dX10_keeps_86 : decode cX10_keeps 86 = .ok (.aload_n 0, 1) := by decide +kernel
theorem dX10_keeps_87 : decode cX10_keeps 87 = .ok (.dup, 1) := by decide +kernel
theorem dX10_keeps_88 : decode cX10_keeps 88 = .ok (.getfield 457, 3) := by decide +kernel
theorem dX10_keeps_91 : decode cX10_keeps 91 = .ok (.iconst 1, 1) := by decide +kernel
theorem dX10_keeps_92 : decode cX10_keeps 92 = .ok (.iadd, 1) := by decide +kernel
theorem dX10_keeps_93 : decode cX10_keeps 93 = .ok (.putfield 457, 3) := by decide +kernel
theorem dX10_keeps_96 : decode cX10_keeps 96 = .ok (.return_, 1) := by decide +kernel
theorem dX10_putsKind_0 : decode cX10_putsKind 0 = .ok (.aload_n 0, 1) := by decide +kernel
theorem dX10_putsKind_1 : decode cX10_putsKind 1 = .ok (.getfield 13, 3) := by decide +kernel
theorem dX10_putsKind_4 : decode cX10_putsKind 4 = .ok (.bipush 57, 2) := by decide +kernel
theorem dX10_putsKind_6 : decode cX10_putsKind 6 = .ok (.iload_n 1, 1) := by decide +kernel
theorem dX10_putsKind_7 : decode cX10_putsKind 7 = .ok (.imul, 1) := by decide +kernel
theorem dX10_putsKind_8 : decode cX10_putsKind 8 = .ok (.bipush 8, 2) := by decide +kernel
theorem dX10_putsKind_10 : decode cX10_putsKind 10 = .ok (.iadd, 1) := by decide +kernel
theorem dX10_putsKind_11 : decode cX10_putsKind 11 = .ok (.bipush 7, 2) := by decide +kernel
theorem dX10_putsKind_13 : decode cX10_putsKind 13 = .ok (.iload_n 2, 1) := by decide +kernel
theorem dX10_putsKind_14 : decode cX10_putsKind 14 = .ok (.imul, 1) := by decide +kernel
theorem dX10_putsKind_15 : decode cX10_putsKind 15 = .ok (.iadd, 1) := by decide +kernel
theorem dX10_putsKind_16 : decode cX10_putsKind 16 = .ok (.iload_n 3, 1) := by decide +kernel
theorem dX10_putsKind_17 : decode cX10_putsKind 17 = .ok (.iadd, 1) := by decide +kernel
theorem dX10_putsKind_18 : decode cX10_putsKind 18 = .ok (.iload 4, 2) := by decide +kernel
theorem dX10_putsKind_20 : decode cX10_putsKind 20 = .ok (.iastore, 1) := by decide +kernel
theorem dX10_putsKind_21 : decode cX10_putsKind 21 = .ok (.aload_n 0, 1) := by decide +kernel
theorem dX10_putsKind_22 : decode cX10_putsKind 22 = .ok (.getfield 13, 3) := by decide +kernel
theorem dX10_putsKind_25 : decode cX10_putsKind 25 = .ok (.bipush 57, 2) := by decide +kernel
theorem dX10_putsKind_27 : decode cX10_putsKind 27 = .ok (.iload_n 1, 1) := by decide +kernel
theorem dX10_putsKind_28 : decode cX10_putsKind 28 = .ok (.imul, 1) := by decide +kernel
theorem dX10_putsKind_29 : decode cX10_putsKind 29 = .ok (.bipush 8, 2) := by decide +kernel
theorem dX10_putsKind_31 : decode cX10_putsKind 31 = .ok (.iadd, 1) := by decide +kernel
theorem dX10_putsKind_32 : decode cX10_putsKind 32 = .ok (.bipush 7, 2) := by decide +kernel
theorem dX10_putsKind_34 : decode cX10_putsKind 34 = .ok (.iload_n 3, 1) := by decide +kernel
theorem dX10_putsKind_35 : decode cX10_putsKind 35 = .ok (.imul, 1) := by decide +kernel
theorem dX10_putsKind_36 : decode cX10_putsKind 36 = .ok (.iadd, 1) := by decide +kernel
theorem dX10_putsKind_37 : decode cX10_putsKind 37 = .ok (.iload_n 2, 1) := by decide +kernel
theorem dX10_putsKind_38 : decode cX10_putsKind 38 = .ok (.iadd, 1) := by decide +kernel
theorem dX10_putsKind_39 : decode cX10_putsKind 39 = .ok (.iload 4, 2) := by decide +kernel
theorem dX10_putsKind_41 : decode cX10_putsKind 41 = .ok (.iastore, 1) := by decide +kernel
theorem dX10_putsKind_42 : decode cX10_putsKind 42 = .ok (.return_, 1) := by decide +kernel
theorem dX10_link_0 : decode cX10_link 0 = .ok (.aload_n 0, 1) := by decide +kernel
theorem dX10_link_1 : decode cX10_link 1 = .ok (.invokevirtual 215, 3) := by decide +kernel
theorem dX10_link_4 : decode cX10_link 4 = .ok (.aload_n 0, 1) := by decide +kernel
theorem dX10_link_5 : decode cX10_link 5 = .ok (.aload_n 0, 1) := by decide +kernel
theorem dX10_link_6 : decode cX10_link 6 = .ok (.iload_n 1, 1) := by decide +kernel
theorem dX10_link_7 : decode cX10_link 7 = .ok (.iload_n 2, 1) := by decide +kernel
theorem dX10_link_8 : decode cX10_link 8 = .ok (.invokevirtual 253, 3) := by decide +kernel
theorem dX10_link_11 : decode cX10_link 11 = .ok (.ifCond .eq 12, 3) := by decide +kernel
theorem dX10_link_14 : decode cX10_link 14 = .ok (.aload_n 0, 1) := by decide +kernel
theorem dX10_link_15 : decode cX10_link 15 = .ok (.iload_n 1, 1) := by decide +kernel
theorem dX10_link_16 : decode cX10_link 16 = .ok (.iload_n 3, 1) := by decide +kernel
theorem dX10_link_17 : decode cX10_link 17 = .ok (.invokevirtual 253, 3) := by decide +kernel
theorem dX10_link_20 : decode cX10_link 20 = .ok (.ifCond .ne 7, 3) := by decide +kernel
theorem dX10_link_23 : decode cX10_link 23 = .ok (.iconst 1, 1) := by decide +kernel
theorem dX10_link_24 : decode cX10_link 24 = .ok (.goto 4, 3) := by decide +kernel
theorem dX10_link_27 : decode cX10_link 27 = .ok (.iconst 0, 1) := by decide +kernel
theorem dX10_link_28 : decode cX10_link 28 = .ok (.iconst 1, 1) := by decide +kernel
theorem dX10_link_29 : decode cX10_link 29 = .ok (.invokevirtual 221, 3) := by decide +kernel
theorem dX10_link_32 : decode cX10_link 32 = .ok (.ifCond .ne 44, 3) := by decide +kernel
theorem dX10_link_35 : decode cX10_link 35 = .ok (.aload_n 0, 1) := by decide +kernel
theorem dX10_link_36 : decode cX10_link 36 = .ok (.iload_n 2, 1) := by decide +kernel
theorem dX10_link_37 : decode cX10_link 37 = .ok (.iload_n 3, 1) := by decide +kernel
theorem dX10_link_38 : decode cX10_link 38 = .ok (.if_icmp .ne 7, 3) := by decide +kernel
theorem dX10_link_41 : decode cX10_link 41 = .ok (.iconst 1, 1) := by decide +kernel
theorem dX10_link_42 : decode cX10_link 42 = .ok (.goto 4, 3) := by decide +kernel
theorem dX10_link_45 : decode cX10_link 45 = .ok (.iconst 0, 1) := by decide +kernel
theorem dX10_link_46 : decode cX10_link 46 = .ok (.iconst 5, 1) := by decide +kernel
theorem dX10_link_47 : decode cX10_link 47 = .ok (.invokevirtual 221, 3) := by decide +kernel
theorem dX10_link_50 : decode cX10_link 50 = .ok (.ifCond .ne 26, 3) := by decide +kernel
theorem dX10_link_53 : decode cX10_link 53 = .ok (.aload_n 0, 1) := by decide +kernel
theorem dX10_link_54 : decode cX10_link 54 = .ok (.iload 4, 2) := by decide +kernel
theorem dX10_link_56 : decode cX10_link 56 = .ok (.iconst 0, 1) := by decide +kernel
theorem dX10_link_57 : decode cX10_link 57 = .ok (.iconst 3, 1) := by decide +kernel
theorem dX10_link_58 : decode cX10_link 58 = .ok (.invokestatic 156, 3) := by decide +kernel
theorem dX10_link_61 : decode cX10_link 61 = .ok (.ifCond .ne 7, 3) := by decide +kernel
theorem dX10_link_64 : decode cX10_link 64 = .ok (.iconst 1, 1) := by decide +kernel
theorem dX10_link_65 : decode cX10_link 65 = .ok (.goto 4, 3) := by decide +kernel
theorem dX10_link_68 : decode cX10_link 68 = .ok (.iconst 0, 1) := by decide +kernel
theorem dX10_link_69 : decode cX10_link 69 = .ok (.iconst 2, 1) := by decide +kernel
theorem dX10_link_70 : decode cX10_link 70 = .ok (.invokevirtual 221, 3) := by decide +kernel
theorem dX10_link_73 : decode cX10_link 73 = .ok (.ifCond .eq 5, 3) := by decide +kernel
theorem dX10_link_76 : decode cX10_link 76 = .ok (.iconst (-1), 1) := by decide +kernel
theorem dX10_link_77 : decode cX10_link 77 = .ok (.ireturn, 1) := by decide +kernel
theorem dX10_link_78 : decode cX10_link 78 = .ok (.aload_n 0, 1) := by decide +kernel
theorem dX10_link_79 : decode cX10_link 79 = .ok (.invokevirtual 228, 3) := by decide +kernel
theorem dX10_link_82 : decode cX10_link 82 = .ok (.aload_n 0, 1) := by decide +kernel
theorem dX10_link_83 : decode cX10_link 83 = .ok (.iload_n 1, 1) := by decide +kernel
theorem dX10_link_84 : decode cX10_link 84 = .ok (.iload_n 2, 1) := by decide +kernel
theorem dX10_link_85 : decode cX10_link 85 = .ok (.iload_n 3, 1) := by decide +kernel
theorem dX10_link_86 : decode cX10_link 86 = .ok (.invokevirtual 234, 3) := by decide +kernel
theorem dX10_link_89 : decode cX10_link 89 = .ok (.istore 5, 2) := by decide +kernel
theorem dX10_link_91 : decode cX10_link 91 = .ok (.aload_n 0, 1) := by decide +kernel
theorem dX10_link_92 : decode cX10_link 92 = .ok (.iload_n 1, 1) := by decide +kernel
theorem dX10_link_93 : decode cX10_link 93 = .ok (.iload_n 2, 1) := by decide +kernel
theorem dX10_link_94 : decode cX10_link 94 = .ok (.iload_n 3, 1) := by decide +kernel
theorem dX10_link_95 : decode cX10_link 95 = .ok (.iload 4, 2) := by decide +kernel
theorem dX10_link_97 : decode cX10_link 97 = .ok (.invokevirtual 460, 3) := by decide +kernel
theorem dX10_link_100 : decode cX10_link 100 = .ok (.iload 5, 2) := by decide +kernel
theorem dX10_link_102 : decode cX10_link 102 = .ok (.ireturn, 1) := by decide +kernel
theorem dX10_paint_0 : decode cX10_paint 0 = .ok (.aload_n 0, 1) := by decide +kernel
theorem dX10_paint_1 : decode cX10_paint 1 = .ok (.invokevirtual 215, 3) := by decide +kernel
theorem dX10_paint_4 : decode cX10_paint 4 = .ok (.aload_n 0, 1) := by decide +kernel
theorem dX10_paint_5 : decode cX10_paint 5 = .ok (.aload_n 0, 1) := by decide +kernel
theorem dX10_paint_6 : decode cX10_paint 6 = .ok (.iload_n 1, 1) := by decide +kernel
theorem dX10_paint_7 : decode cX10_paint 7 = .ok (.iload_n 2, 1) := by decide +kernel
theorem dX10_paint_8 : decode cX10_paint 8 = .ok (.invokevirtual 253, 3) := by decide +kernel
theorem dX10_paint_11 : decode cX10_paint 11 = .ok (.ifCond .ne 7, 3) := by decide +kernel
theorem dX10_paint_14 : decode cX10_paint 14 = .ok (.iconst 1, 1) := by decide +kernel
theorem dX10_paint_15 : decode cX10_paint 15 = .ok (.goto 4, 3) := by decide +kernel
theorem dX10_paint_18 : decode cX10_paint 18 = .ok (.iconst 0, 1) := by decide +kernel
theorem dX10_paint_19 : decode cX10_paint 19 = .ok (.iconst 1, 1) := by decide +kernel
theorem dX10_paint_20 : decode cX10_paint 20 = .ok (.invokevirtual 221, 3) := by decide +kernel
theorem dX10_paint_23 : decode cX10_paint 23 = .ok (.ifCond .ne 26, 3) := by decide +kernel
theorem dX10_paint_26 : decode cX10_paint 26 = .ok (.aload_n 0, 1) := by decide +kernel
theorem dX10_paint_27 : decode cX10_paint 27 = .ok (.iload_n 3, 1) := by decide +kernel
theorem dX10_paint_28 : decode cX10_paint 28 = .ok (.iconst 0, 1) := by decide +kernel
theorem dX10_paint_29 : decode cX10_paint 29 = .ok (.bipush 9, 2) := by decide +kernel
theorem dX10_paint_31 : decode cX10_paint 31 = .ok (.invokestatic 156, 3) := by decide +kernel
theorem dX10_paint_34 : decode cX10_paint 34 = .ok (.ifCond .ne 7, 3) := by decide +kernel
theorem dX10_paint_37 : decode cX10_paint 37 = .ok (.iconst 1, 1) := by decide +kernel
theorem dX10_paint_38 : decode cX10_paint 38 = .ok (.goto 4, 3) := by decide +kernel
theorem dX10_paint_41 : decode cX10_paint 41 = .ok (.iconst 0, 1) := by decide +kernel
theorem dX10_paint_42 : decode cX10_paint 42 = .ok (.iconst 2, 1) := by decide +kernel
theorem dX10_paint_43 : decode cX10_paint 43 = .ok (.invokevirtual 221, 3) := by decide +kernel
theorem dX10_paint_46 : decode cX10_paint 46 = .ok (.ifCond .eq 5, 3) := by decide +kernel
theorem dX10_paint_49 : decode cX10_paint 49 = .ok (.iconst (-1), 1) := by decide +kernel
theorem dX10_paint_50 : decode cX10_paint 50 = .ok (.ireturn, 1) := by decide +kernel
theorem dX10_paint_51 : decode cX10_paint 51 = .ok (.aload_n 0, 1) := by decide +kernel
theorem dX10_paint_52 : decode cX10_paint 52 = .ok (.invokevirtual 228, 3) := by decide +kernel
theorem dX10_paint_55 : decode cX10_paint 55 = .ok (.aload_n 0, 1) := by decide +kernel
theorem dX10_paint_56 : decode cX10_paint 56 = .ok (.iload_n 1, 1) := by decide +kernel
theorem dX10_paint_57 : decode cX10_paint 57 = .ok (.iload_n 2, 1) := by decide +kernel
theorem dX10_paint_58 : decode cX10_paint 58 = .ok (.invokevirtual 244, 3) := by decide +kernel
theorem dX10_paint_61 : decode cX10_paint 61 = .ok (.istore 4, 2) := by decide +kernel
theorem dX10_paint_63 : decode cX10_paint 63 = .ok (.aload_n 0, 1) := by decide +kernel
theorem dX10_paint_64 : decode cX10_paint 64 = .ok (.getfield 13, 3) := by decide +kernel
theorem dX10_paint_67 : decode cX10_paint 67 = .ok (.bipush 57, 2) := by decide +kernel
theorem dX10_paint_69 : decode cX10_paint 69 = .ok (.iload_n 1, 1) := by decide +kernel
theorem dX10_paint_70 : decode cX10_paint 70 = .ok (.imul, 1) := by decide +kernel
theorem dX10_paint_71 : decode cX10_paint 71 = .ok (.iconst 1, 1) := by decide +kernel
theorem dX10_paint_72 : decode cX10_paint 72 = .ok (.iadd, 1) := by decide +kernel
theorem dX10_paint_73 : decode cX10_paint 73 = .ok (.iload_n 2, 1) := by decide +kernel
theorem dX10_paint_74 : decode cX10_paint 74 = .ok (.iadd, 1) := by decide +kernel
theorem dX10_paint_75 : decode cX10_paint 75 = .ok (.iload_n 3, 1) := by decide +kernel
theorem dX10_paint_76 : decode cX10_paint 76 = .ok (.iastore, 1) := by decide +kernel
theorem dX10_paint_77 : decode cX10_paint 77 = .ok (.iload 4, 2) := by decide +kernel
theorem dX10_paint_79 : decode cX10_paint 79 = .ok (.ireturn, 1) := by decide +kernel
theorem dX10_swaps_0 : decode cX10_swaps 0 = .ok (.aload_n 0, 1) := by decide +kernel
theorem dX10_swaps_1 : decode cX10_swaps 1 = .ok (.iload_n 1, 1) := by decide +kernel
theorem dX10_swaps_2 : decode cX10_swaps 2 = .ok (.iload_n 2, 1) := by decide +kernel
theorem dX10_swaps_3 : decode cX10_swaps 3 = .ok (.invokevirtual 244, 3) := by decide +kernel
theorem dX10_swaps_6 : decode cX10_swaps 6 = .ok (.istore 4, 2) := by decide +kernel
theorem dX10_swaps_8 : decode cX10_swaps 8 = .ok (.aload_n 0, 1) := by decide +kernel
theorem dX10_swaps_9 : decode cX10_swaps 9 = .ok (.getfield 13, 3) := by decide +kernel
theorem dX10_swaps_12 : decode cX10_swaps 12 = .ok (.bipush 57, 2) := by decide +kernel
theorem dX10_swaps_14 : decode cX10_swaps 14 = .ok (.iload_n 1, 1) := by decide +kernel
theorem dX10_swaps_15 : decode cX10_swaps 15 = .ok (.imul, 1) := by decide +kernel
theorem dX10_swaps_16 : decode cX10_swaps 16 = .ok (.iconst 1, 1) := by decide +kernel
theorem dX10_swaps_17 : decode cX10_swaps 17 = .ok (.iadd, 1) := by decide +kernel
theorem dX10_swaps_18 : decode cX10_swaps 18 = .ok (.iload_n 2, 1) := by decide +kernel
theorem dX10_swaps_19 : decode cX10_swaps 19 = .ok (.iadd, 1) := by decide +kernel
theorem dX10_swaps_20 : decode cX10_swaps 20 = .ok (.aload_n 0, 1) := by decide +kernel
theorem dX10_swaps_21 : decode cX10_swaps 21 = .ok (.iload_n 1, 1) := by decide +kernel
theorem dX10_swaps_22 : decode cX10_swaps 22 = .ok (.iload_n 3, 1) := by decide +kernel
theorem dX10_swaps_23 : decode cX10_swaps 23 = .ok (.invokevirtual 244, 3) := by decide +kernel
theorem dX10_swaps_26 : decode cX10_swaps 26 = .ok (.iastore, 1) := by decide +kernel
theorem dX10_swaps_27 : decode cX10_swaps 27 = .ok (.aload_n 0, 1) := by decide +kernel
theorem dX10_swaps_28 : decode cX10_swaps 28 = .ok (.getfield 13, 3) := by decide +kernel
theorem dX10_swaps_31 : decode cX10_swaps 31 = .ok (.bipush 57, 2) := by decide +kernel
theorem dX10_swaps_33 : decode cX10_swaps 33 = .ok (.iload_n 1, 1) := by decide +kernel
theorem dX10_swaps_34 : decode cX10_swaps 34 = .ok (.imul, 1) := by decide +kernel
theorem dX10_swaps_35 : decode cX10_swaps 35 = .ok (.iconst 1, 1) := by decide +kernel
theorem dX10_swaps_36 : decode cX10_swaps 36 = .ok (.iadd, 1) := by decide +kernel
theorem dX10_swaps_37 : decode cX10_swaps 37 = .ok (.iload_n 3, 1) := by decide +kernel
theorem dX10_swaps_38 : decode cX10_swaps 38 = .ok (.iadd, 1) := by decide +kernel
theorem dX10_swaps_39 : decode cX10_swaps 39 = .ok (.iload 4, 2) := by decide +kernel
theorem dX10_swaps_41 : decode cX10_swaps 41 = .ok (.iastore, 1) := by decide +kernel
theorem dX10_swaps_42 : decode cX10_swaps 42 = .ok (.iconst 0, 1) := by decide +kernel
theorem dX10_swaps_43 : decode cX10_swaps 43 = .ok (.istore 5, 2) := by decide +kernel
theorem dX10_swaps_45 : decode cX10_swaps 45 = .ok (.iload 5, 2) := by decide +kernel
theorem dX10_swaps_47 : decode cX10_swaps 47 = .ok (.aload_n 0, 1) := by decide +kernel
theorem dX10_swaps_48 : decode cX10_swaps 48 = .ok (.iload_n 1, 1) := by decide +kernel
theorem dX10_swaps_49 : decode cX10_swaps 49 = .ok (.invokevirtual 231, 3) := by decide +kernel
theorem dX10_swaps_52 : decode cX10_swaps 52 = .ok (.if_icmp .ge 60, 3) := by decide +kernel
theorem dX10_swaps_55 : decode cX10_swaps 55 = .ok (.iload 5, 2) := by decide +kernel
theorem dX10_swaps_57 : decode cX10_swaps 57 = .ok (.iload_n 2, 1) := by decide +kernel
theorem dX10_swaps_58 : decode cX10_swaps 58 = .ok (.if_icmp .eq 48, 3) := by decide +kernel
theorem dX10_swaps_61 : decode cX10_swaps 61 = .ok (.iload 5, 2) := by decide +kernel
theorem dX10_swaps_63 : decode cX10_swaps 63 = .ok (.iload_n 3, 1) := by decide +kernel
theorem dX10_swaps_64 : decode cX10_swaps 64 = .ok (.if_icmp .ne 6, 3) := by decide +kernel
theorem dX10_swaps_67 : decode cX10_swaps 67 = .ok (.goto 39, 3) := by decide +kernel
theorem dX10_swaps_70 : decode cX10_swaps 70 = .ok (.aload_n 0, 1) := by decide +kernel
theorem dX10_swaps_71 : decode cX10_swaps 71 = .ok (.iload_n 1, 1) := by decide +kernel
theorem dX10_swaps_72 : decode cX10_swaps 72 = .ok (.iload_n 2, 1) := by decide +kernel
theorem dX10_swaps_73 : decode cX10_swaps 73 = .ok (.iload 5, 2) := by decide +kernel
theorem dX10_swaps_75 : decode cX10_swaps 75 = .ok (.invokevirtual 234, 3) := by decide +kernel
theorem dX10_swaps_78 : decode cX10_swaps 78 = .ok (.istore 6, 2) := by decide +kernel
theorem dX10_swaps_80 : decode cX10_swaps 80 = .ok (.aload_n 0, 1) := by decide +kernel
theorem dX10_swaps_81 : decode cX10_swaps 81 = .ok (.iload_n 1, 1) := by decide +kernel
theorem dX10_swaps_82 : decode cX10_swaps 82 = .ok (.iload_n 2, 1) := by decide +kernel
theorem dX10_swaps_83 : decode cX10_swaps 83 = .ok (.iload 5, 2) := by decide +kernel
theorem dX10_swaps_85 : decode cX10_swaps 85 = .ok (.aload_n 0, 1) := by decide +kernel
theorem dX10_swaps_86 : decode cX10_swaps 86 = .ok (.iload_n 1, 1) := by decide +kernel
theorem dX10_swaps_87 : decode cX10_swaps 87 = .ok (.iload_n 3, 1) := by decide +kernel
theorem dX10_swaps_88 : decode cX10_swaps 88 = .ok (.iload 5, 2) := by decide +kernel
theorem dX10_swaps_90 : decode cX10_swaps 90 = .ok (.invokevirtual 234, 3) := by decide +kernel
theorem dX10_swaps_93 : decode cX10_swaps 93 = .ok (.invokevirtual 460, 3) := by decide +kernel
theorem dX10_swaps_96 : decode cX10_swaps 96 = .ok (.aload_n 0, 1) := by decide +kernel
theorem dX10_swaps_97 : decode cX10_swaps 97 = .ok (.iload_n 1, 1) := by decide +kernel
theorem dX10_swaps_98 : decode cX10_swaps 98 = .ok (.iload_n 3, 1) := by decide +kernel
theorem dX10_swaps_99 : decode cX10_swaps 99 = .ok (.iload 5, 2) := by decide +kernel
theorem dX10_swaps_101 : decode cX10_swaps 101 = .ok (.iload 6, 2) := by decide +kernel
theorem dX10_swaps_103 : decode cX10_swaps 103 = .ok (.invokevirtual 460, 3) := by decide +kernel
theorem dX10_swaps_106 : decode cX10_swaps 106 = .ok (.iinc 5 1, 3) := by decide +kernel
theorem dX10_swaps_109 : decode cX10_swaps 109 = .ok (.goto (-64), 3) := by decide +kernel
theorem dX10_swaps_112 : decode cX10_swaps 112 = .ok (.return_, 1) := by decide +kernel
theorem dX10_swap_0 : decode cX10_swap 0 = .ok (.aload_n 0, 1) := by decide +kernel
theorem dX10_swap_1 : decode cX10_swap 1 = .ok (.invokevirtual 215, 3) := by decide +kernel
theorem dX10_swap_4 : decode cX10_swap 4 = .ok (.aload_n 0, 1) := by decide +kernel
theorem dX10_swap_5 : decode cX10_swap 5 = .ok (.aload_n 0, 1) := by decide +kernel
theorem dX10_swap_6 : decode cX10_swap 6 = .ok (.iload_n 1, 1) := by decide +kernel
theorem dX10_swap_7 : decode cX10_swap 7 = .ok (.iload_n 2, 1) := by decide +kernel
theorem dX10_swap_8 : decode cX10_swap 8 = .ok (.invokevirtual 253, 3) := by decide +kernel
theorem dX10_swap_11 : decode cX10_swap 11 = .ok (.ifCond .eq 12, 3) := by decide +kernel
theorem dX10_swap_14 : decode cX10_swap 14 = .ok (.aload_n 0, 1) := by decide +kernel
theorem dX10_swap_15 : decode cX10_swap 15 = .ok (.iload_n 1, 1) := by decide +kernel
theorem dX10_swap_16 : decode cX10_swap 16 = .ok (.iload_n 3, 1) := by decide +kernel
theorem dX10_swap_17 : decode cX10_swap 17 = .ok (.invokevirtual 253, 3) := by decide +kernel
theorem dX10_swap_20 : decode cX10_swap 20 = .ok (.ifCond .ne 7, 3) := by decide +kernel
theorem dX10_swap_23 : decode cX10_swap 23 = .ok (.iconst 1, 1) := by decide +kernel
theorem dX10_swap_24 : decode cX10_swap 24 = .ok (.goto 4, 3) := by decide +kernel
theorem dX10_swap_27 : decode cX10_swap 27 = .ok (.iconst 0, 1) := by decide +kernel
theorem dX10_swap_28 : decode cX10_swap 28 = .ok (.iconst 1, 1) := by decide +kernel
theorem dX10_swap_29 : decode cX10_swap 29 = .ok (.invokevirtual 221, 3) := by decide +kernel
theorem dX10_swap_32 : decode cX10_swap 32 = .ok (.ifCond .ne 21, 3) := by decide +kernel
theorem dX10_swap_35 : decode cX10_swap 35 = .ok (.aload_n 0, 1) := by decide +kernel
theorem dX10_swap_36 : decode cX10_swap 36 = .ok (.iload_n 2, 1) := by decide +kernel
theorem dX10_swap_37 : decode cX10_swap 37 = .ok (.iload_n 3, 1) := by decide +kernel
theorem dX10_swap_38 : decode cX10_swap 38 = .ok (.if_icmp .ne 7, 3) := by decide +kernel
theorem dX10_swap_41 : decode cX10_swap 41 = .ok (.iconst 1, 1) := by decide +kernel
theorem dX10_swap_42 : decode cX10_swap 42 = .ok (.goto 4, 3) := by decide +kernel
theorem dX10_swap_45 : decode cX10_swap 45 = .ok (.iconst 0, 1) := by decide +kernel
theorem dX10_swap_46 : decode cX10_swap 46 = .ok (.iconst 5, 1) := by decide +kernel
theorem dX10_swap_47 : decode cX10_swap 47 = .ok (.invokevirtual 221, 3) := by decide +kernel
theorem dX10_swap_50 : decode cX10_swap 50 = .ok (.ifCond .eq 5, 3) := by decide +kernel
theorem dX10_swap_53 : decode cX10_swap 53 = .ok (.iconst (-1), 1) := by decide +kernel
theorem dX10_swap_54 : decode cX10_swap 54 = .ok (.ireturn, 1) := by decide +kernel
theorem dX10_swap_55 : decode cX10_swap 55 = .ok (.aload_n 0, 1) := by decide +kernel
theorem dX10_swap_56 : decode cX10_swap 56 = .ok (.invokevirtual 228, 3) := by decide +kernel
theorem dX10_swap_59 : decode cX10_swap 59 = .ok (.aload_n 0, 1) := by decide +kernel
theorem dX10_swap_60 : decode cX10_swap 60 = .ok (.iload_n 1, 1) := by decide +kernel
theorem dX10_swap_61 : decode cX10_swap 61 = .ok (.iload_n 2, 1) := by decide +kernel
theorem dX10_swap_62 : decode cX10_swap 62 = .ok (.invokevirtual 238, 3) := by decide +kernel
theorem dX10_swap_65 : decode cX10_swap 65 = .ok (.aload_n 0, 1) := by decide +kernel
theorem dX10_swap_66 : decode cX10_swap 66 = .ok (.iload_n 1, 1) := by decide +kernel
theorem dX10_swap_67 : decode cX10_swap 67 = .ok (.iload_n 3, 1) := by decide +kernel
theorem dX10_swap_68 : decode cX10_swap 68 = .ok (.invokevirtual 238, 3) := by decide +kernel
theorem dX10_swap_71 : decode cX10_swap 71 = .ok (.iand, 1) := by decide +kernel
theorem dX10_swap_72 : decode cX10_swap 72 = .ok (.invokestatic 241, 3) := by decide +kernel
theorem dX10_swap_75 : decode cX10_swap 75 = .ok (.istore 4, 2) := by decide +kernel
theorem dX10_swap_77 : decode cX10_swap 77 = .ok (.aload_n 0, 1) := by decide +kernel
theorem dX10_swap_78 : decode cX10_swap 78 = .ok (.iload_n 1, 1) := by decide +kernel
theorem dX10_swap_79 : decode cX10_swap 79 = .ok (.iload_n 2, 1) := by decide +kernel
theorem dX10_swap_80 : decode cX10_swap 80 = .ok (.iload_n 3, 1) := by decide +kernel
theorem dX10_swap_81 : decode cX10_swap 81 = .ok (.invokevirtual 464, 3) := by decide +kernel
theorem dX10_swap_84 : decode cX10_swap 84 = .ok (.iload 4, 2) := by decide +kernel
theorem dX10_swap_86 : decode cX10_swap 86 = .ok (.ireturn, 1) := by decide +kernel
theorem dX10_draw_0 : decode cX10_draw 0 = .ok (.aload_n 0, 1) := by decide +kernel
theorem dX10_draw_1 : decode cX10_draw 1 = .ok (.aload_n 0, 1) := by decide +kernel
theorem dX10_draw_2 : decode cX10_draw 2 = .ok (.getfield 467, 3) := by decide +kernel
theorem dX10_draw_5 : decode cX10_draw 5 = .ok (.ldc2_w 471, 3) := by decide +kernel
theorem dX10_draw_8 : decode cX10_draw 8 = .ok (.lmul, 1) := by decide +kernel
theorem dX10_draw_9 : decode cX10_draw 9 = .ok (.ldc2_w 473, 3) := by decide +kernel
theorem dX10_draw_12 : decode cX10_draw 12 = .ok (.lrem, 1) := by decide +kernel
theorem dX10_draw_13 : decode cX10_draw 13 = .ok (.putfield 467, 3) := by decide +kernel
theorem dX10_draw_16 : decode cX10_draw 16 = .ok (.aload_n 0, 1) := by decide +kernel
theorem dX10_draw_17 : decode cX10_draw 17 = .ok (.getfield 467, 3) := by decide +kernel
theorem dX10_draw_20 : decode cX10_draw 20 = .ok (.iload_n 1, 1) := by decide +kernel
theorem dX10_draw_21 : decode cX10_draw 21 = .ok (.i2l, 1) := by decide +kernel
theorem dX10_draw_22 : decode cX10_draw 22 = .ok (.lrem, 1) := by decide +kernel
theorem dX10_draw_23 : decode cX10_draw 23 = .ok (.l2i, 1) := by decide +kernel
theorem dX10_draw_24 : decode cX10_draw 24 = .ok (.ireturn, 1) := by decide +kernel
theorem dX10_shuffle_0 : decode cX10_shuffle 0 = .ok (.aload_n 0, 1) := by decide +kernel
theorem dX10_shuffle_1 : decode cX10_shuffle 1 = .ok (.invokevirtual 215, 3) := by decide +kernel
theorem dX10_shuffle_4 : decode cX10_shuffle 4 = .ok (.aload_n 0, 1) := by decide +kernel
theorem dX10_shuffle_5 : decode cX10_shuffle 5 = .ok (.iload_n 1, 1) := by decide +kernel
theorem dX10_shuffle_6 : decode cX10_shuffle 6 = .ok (.invokestatic 218, 3) := by decide +kernel
theorem dX10_shuffle_9 : decode cX10_shuffle 9 = .ok (.ifCond .ne 7, 3) := by decide +kernel
theorem dX10_shuffle_12 : decode cX10_shuffle 12 = .ok (.iconst 1, 1) := by decide +kernel
theorem dX10_shuffle_13 : decode cX10_shuffle 13 = .ok (.goto 4, 3) := by decide +kernel
theorem dX10_shuffle_16 : decode cX10_shuffle 16 = .ok (.iconst 0, 1) := by decide +kernel
theorem dX10_shuffle_17 : decode cX10_shuffle 17 = .ok (.iconst 1, 1) := by decide +kernel
theorem dX10_shuffle_18 : decode cX10_shuffle 18 = .ok (.invokevirtual 221, 3) := by decide +kernel
theorem dX10_shuffle_21 : decode cX10_shuffle 21 = .ok (.ifCond .ne 27, 3) := by decide +kernel
theorem dX10_shuffle_24 : decode cX10_shuffle 24 = .ok (.aload_n 0, 1) := by decide +kernel
theorem dX10_shuffle_25 : decode cX10_shuffle 25 = .ok (.iload_n 2, 1) := by decide +kernel
theorem dX10_shuffle_26 : decode cX10_shuffle 26 = .ok (.iconst 1, 1) := by decide +kernel
theorem dX10_shuffle_27 : decode cX10_shuffle 27 = .ok (.ldc_w 475, 3) := by decide +kernel
theorem dX10_shuffle_30 : decode cX10_shuffle 30 = .ok (.invokestatic 156, 3) := by decide +kernel
theorem dX10_shuffle_33 : decode cX10_shuffle 33 = .ok (.ifCond .ne 7, 3) := by decide +kernel
theorem dX10_shuffle_36 : decode cX10_shuffle 36 = .ok (.iconst 1, 1) := by decide +kernel
theorem dX10_shuffle_37 : decode cX10_shuffle 37 = .ok (.goto 4, 3) := by decide +kernel
theorem dX10_shuffle_40 : decode cX10_shuffle 40 = .ok (.iconst 0, 1) := by decide +kernel
theorem dX10_shuffle_41 : decode cX10_shuffle 41 = .ok (.iconst 2, 1) := by decide +kernel
theorem dX10_shuffle_42 : decode cX10_shuffle 42 = .ok (.invokevirtual 221, 3) := by decide +kernel
theorem dX10_shuffle_45 : decode cX10_shuffle 45 = .ok (.ifCond .eq 5, 3) := by decide +kernel
theorem dX10_shuffle_48 : decode cX10_shuffle 48 = .ok (.iconst (-1), 1) := by decide +kernel
theorem dX10_shuffle_49 : decode cX10_shuffle 49 = .ok (.ireturn, 1) := by decide +kernel
theorem dX10_shuffle_50 : decode cX10_shuffle 50 = .ok (.aload_n 0, 1) := by decide +kernel
theorem dX10_shuffle_51 : decode cX10_shuffle 51 = .ok (.invokevirtual 228, 3) := by decide +kernel
theorem dX10_shuffle_54 : decode cX10_shuffle 54 = .ok (.aload_n 0, 1) := by decide +kernel
theorem dX10_shuffle_55 : decode cX10_shuffle 55 = .ok (.iload_n 2, 1) := by decide +kernel
theorem dX10_shuffle_56 : decode cX10_shuffle 56 = .ok (.i2l, 1) := by decide +kernel
theorem dX10_shuffle_57 : decode cX10_shuffle 57 = .ok (.putfield 467, 3) := by decide +kernel
theorem dX10_shuffle_60 : decode cX10_shuffle 60 = .ok (.iconst 0, 1) := by decide +kernel
theorem dX10_shuffle_61 : decode cX10_shuffle 61 = .ok (.istore_n 3, 1) := by decide +kernel
theorem dX10_shuffle_62 : decode cX10_shuffle 62 = .ok (.aload_n 0, 1) := by decide +kernel
theorem dX10_shuffle_63 : decode cX10_shuffle 63 = .ok (.iload_n 1, 1) := by decide +kernel
theorem dX10_shuffle_64 : decode cX10_shuffle 64 = .ok (.invokevirtual 231, 3) := by decide +kernel
theorem dX10_shuffle_67 : decode cX10_shuffle 67 = .ok (.iconst 1, 1) := by decide +kernel
theorem dX10_shuffle_68 : decode cX10_shuffle 68 = .ok (.isub, 1) := by decide +kernel
theorem dX10_shuffle_69 : decode cX10_shuffle 69 = .ok (.istore 4, 2) := by decide +kernel
theorem dX10_shuffle_71 : decode cX10_shuffle 71 = .ok (.iload 4, 2) := by decide +kernel
theorem dX10_shuffle_73 : decode cX10_shuffle 73 = .ok (.ifCond .le 38, 3) := by decide +kernel
theorem dX10_shuffle_76 : decode cX10_shuffle 76 = .ok (.aload_n 0, 1) := by decide +kernel
theorem dX10_shuffle_77 : decode cX10_shuffle 77 = .ok (.iload 4, 2) := by decide +kernel
theorem dX10_shuffle_79 : decode cX10_shuffle 79 = .ok (.iconst 1, 1) := by decide +kernel
theorem dX10_shuffle_80 : decode cX10_shuffle 80 = .ok (.iadd, 1) := by decide +kernel
theorem dX10_shuffle_81 : decode cX10_shuffle 81 = .ok (.invokevirtual 476, 3) := by decide +kernel
theorem dX10_shuffle_84 : decode cX10_shuffle 84 = .ok (.istore 5, 2) := by decide +kernel
theorem dX10_shuffle_86 : decode cX10_shuffle 86 = .ok (.iload 5, 2) := by decide +kernel
theorem dX10_shuffle_88 : decode cX10_shuffle 88 = .ok (.iload 4, 2) := by decide +kernel
theorem dX10_shuffle_90 : decode cX10_shuffle 90 = .ok (.if_icmp .eq 15, 3) := by decide +kernel
theorem dX10_shuffle_93 : decode cX10_shuffle 93 = .ok (.aload_n 0, 1) := by decide +kernel
theorem dX10_shuffle_94 : decode cX10_shuffle 94 = .ok (.iload_n 1, 1) := by decide +kernel
theorem dX10_shuffle_95 : decode cX10_shuffle 95 = .ok (.iload 4, 2) := by decide +kernel
theorem dX10_shuffle_97 : decode cX10_shuffle 97 = .ok (.iload 5, 2) := by decide +kernel
theorem dX10_shuffle_99 : decode cX10_shuffle 99 = .ok (.invokevirtual 464, 3) := by decide +kernel
theorem dX10_shuffle_102 : decode cX10_shuffle 102 = .ok (.iinc 3 1, 3) := by decide +kernel
theorem dX10_shuffle_105 : decode cX10_shuffle 105 = .ok (.iinc 4 (-1), 3) := by decide +kernel
theorem dX10_shuffle_108 : decode cX10_shuffle 108 = .ok (.goto (-37), 3) := by decide +kernel
theorem dX10_shuffle_111 : decode cX10_shuffle 111 = .ok (.iload_n 3, 1) := by decide +kernel
theorem dX10_shuffle_112 : decode cX10_shuffle 112 = .ok (.ireturn, 1) := by decide +kernel
theorem dX10_copy_0 : decode cX10_copy 0 = .ok (.aload_n 0, 1) := by decide +kernel
theorem dX10_copy_1 : decode cX10_copy 1 = .ok (.invokevirtual 215, 3) := by decide +kernel
theorem dX10_copy_4 : decode cX10_copy 4 = .ok (.aload_n 0, 1) := by decide +kernel
theorem dX10_copy_5 : decode cX10_copy 5 = .ok (.iload_n 1, 1) := by decide +kernel
theorem dX10_copy_6 : decode cX10_copy 6 = .ok (.invokestatic 218, 3) := by decide +kernel
theorem dX10_copy_9 : decode cX10_copy 9 = .ok (.ifCond .eq 10, 3) := by decide +kernel
theorem dX10_copy_12 : decode cX10_copy 12 = .ok (.iload_n 2, 1) := by decide +kernel
theorem dX10_copy_13 : decode cX10_copy 13 = .ok (.invokestatic 218, 3) := by decide +kernel
theorem dX10_copy_16 : decode cX10_copy 16 = .ok (.ifCond .ne 7, 3) := by decide +kernel
theorem dX10_copy_19 : decode cX10_copy 19 = .ok (.iconst 1, 1) := by decide +kernel
theorem dX10_copy_20 : decode cX10_copy 20 = .ok (.goto 4, 3) := by decide +kernel
theorem dX10_copy_23 : decode cX10_copy 23 = .ok (.iconst 0, 1) := by decide +kernel
theorem dX10_copy_24 : decode cX10_copy 24 = .ok (.iconst 1, 1) := by decide +kernel
theorem dX10_copy_25 : decode cX10_copy 25 = .ok (.invokevirtual 221, 3) := by decide +kernel
theorem dX10_copy_28 : decode cX10_copy 28 = .ok (.ifCond .ne 21, 3) := by decide +kernel
theorem dX10_copy_31 : decode cX10_copy 31 = .ok (.aload_n 0, 1) := by decide +kernel
theorem dX10_copy_32 : decode cX10_copy 32 = .ok (.iload_n 1, 1) := by decide +kernel
theorem dX10_copy_33 : decode cX10_copy 33 = .ok (.iload_n 2, 1) := by decide +kernel
theorem dX10_copy_34 : decode cX10_copy 34 = .ok (.if_icmp .ne 7, 3) := by decide +kernel
theorem dX10_copy_37 : decode cX10_copy 37 = .ok (.iconst 1, 1) := by decide +kernel
theorem dX10_copy_38 : decode cX10_copy 38 = .ok (.goto 4, 3) := by decide +kernel
theorem dX10_copy_41 : decode cX10_copy 41 = .ok (.iconst 0, 1) := by decide +kernel
theorem dX10_copy_42 : decode cX10_copy 42 = .ok (.iconst 5, 1) := by decide +kernel
theorem dX10_copy_43 : decode cX10_copy 43 = .ok (.invokevirtual 221, 3) := by decide +kernel
theorem dX10_copy_46 : decode cX10_copy 46 = .ok (.ifCond .eq 5, 3) := by decide +kernel
theorem dX10_copy_49 : decode cX10_copy 49 = .ok (.iconst (-1), 1) := by decide +kernel
theorem dX10_copy_50 : decode cX10_copy 50 = .ok (.ireturn, 1) := by decide +kernel
theorem dX10_copy_51 : decode cX10_copy 51 = .ok (.aload_n 0, 1) := by decide +kernel
theorem dX10_copy_52 : decode cX10_copy 52 = .ok (.invokevirtual 228, 3) := by decide +kernel
theorem dX10_copy_55 : decode cX10_copy 55 = .ok (.iconst 0, 1) := by decide +kernel
theorem dX10_copy_56 : decode cX10_copy 56 = .ok (.istore_n 3, 1) := by decide +kernel
theorem dX10_copy_57 : decode cX10_copy 57 = .ok (.iload_n 3, 1) := by decide +kernel
theorem dX10_copy_58 : decode cX10_copy 58 = .ok (.bipush 57, 2) := by decide +kernel
theorem dX10_copy_60 : decode cX10_copy 60 = .ok (.if_icmp .ge 31, 3) := by decide +kernel
theorem dX10_copy_63 : decode cX10_copy 63 = .ok (.aload_n 0, 1) := by decide +kernel
theorem dX10_copy_64 : decode cX10_copy 64 = .ok (.getfield 13, 3) := by decide +kernel
theorem dX10_copy_67 : decode cX10_copy 67 = .ok (.bipush 57, 2) := by decide +kernel
theorem dX10_copy_69 : decode cX10_copy 69 = .ok (.iload_n 2, 1) := by decide +kernel
theorem dX10_copy_70 : decode cX10_copy 70 = .ok (.imul, 1) := by decide +kernel
theorem dX10_copy_71 : decode cX10_copy 71 = .ok (.iload_n 3, 1) := by decide +kernel
theorem dX10_copy_72 : decode cX10_copy 72 = .ok (.iadd, 1) := by decide +kernel
theorem dX10_copy_73 : decode cX10_copy 73 = .ok (.aload_n 0, 1) := by decide +kernel
theorem dX10_copy_74 : decode cX10_copy 74 = .ok (.getfield 13, 3) := by decide +kernel
theorem dX10_copy_77 : decode cX10_copy 77 = .ok (.bipush 57, 2) := by decide +kernel
theorem dX10_copy_79 : decode cX10_copy 79 = .ok (.iload_n 1, 1) := by decide +kernel
theorem dX10_copy_80 : decode cX10_copy 80 = .ok (.imul, 1) := by decide +kernel
theorem dX10_copy_81 : decode cX10_copy 81 = .ok (.iload_n 3, 1) := by decide +kernel
theorem dX10_copy_82 : decode cX10_copy 82 = .ok (.iadd, 1) := by decide +kernel
theorem dX10_copy_83 : decode cX10_copy 83 = .ok (.iaload, 1) := by decide +kernel
theorem dX10_copy_84 : decode cX10_copy 84 = .ok (.iastore, 1) := by decide +kernel
theorem dX10_copy_85 : decode cX10_copy 85 = .ok (.iinc 3 1, 3) := by decide +kernel
theorem dX10_copy_88 : decode cX10_copy 88 = .ok (.goto (-31), 3) := by decide +kernel
theorem dX10_copy_91 : decode cX10_copy 91 = .ok (.aload_n 0, 1) := by decide +kernel
theorem dX10_copy_92 : decode cX10_copy 92 = .ok (.iload_n 2, 1) := by decide +kernel
theorem dX10_copy_93 : decode cX10_copy 93 = .ok (.invokevirtual 231, 3) := by decide +kernel
theorem dX10_copy_96 : decode cX10_copy 96 = .ok (.ireturn, 1) := by decide +kernel
theorem dX10_becomesLaid_0 : decode cX10_becomesLaid 0 = .ok (.iconst 0, 1) := by decide +kernel
theorem dX10_becomesLaid_1 : decode cX10_becomesLaid 1 = .ok (.istore_n 2, 1) := by decide +kernel
theorem dX10_becomesLaid_2 : decode cX10_becomesLaid 2 = .ok (.iload_n 2, 1) := by decide +kernel
theorem dX10_becomesLaid_3 : decode cX10_becomesLaid 3 = .ok (.bipush 57, 2) := by decide +kernel
theorem dX10_becomesLaid_5 : decode cX10_becomesLaid 5 = .ok (.if_icmp .ge 21, 3) := by decide +kernel
theorem dX10_becomesLaid_8 : decode cX10_becomesLaid 8 = .ok (.aload_n 0, 1) := by decide +kernel
theorem dX10_becomesLaid_9 : decode cX10_becomesLaid 9 = .ok (.getfield 13, 3) := by decide +kernel
theorem dX10_becomesLaid_12 : decode cX10_becomesLaid 12 = .ok (.bipush 57, 2) := by decide +kernel
theorem dX10_becomesLaid_14 : decode cX10_becomesLaid 14 = .ok (.iload_n 1, 1) := by decide +kernel
theorem dX10_becomesLaid_15 : decode cX10_becomesLaid 15 = .ok (.imul, 1) := by decide +kernel
theorem dX10_becomesLaid_16 : decode cX10_becomesLaid 16 = .ok (.iload_n 2, 1) := by decide +kernel
theorem dX10_becomesLaid_17 : decode cX10_becomesLaid 17 = .ok (.iadd, 1) := by decide +kernel
theorem dX10_becomesLaid_18 : decode cX10_becomesLaid 18 = .ok (.iconst 0, 1) := by decide +kernel
theorem dX10_becomesLaid_19 : decode cX10_becomesLaid 19 = .ok (.iastore, 1) := by decide +kernel
theorem dX10_becomesLaid_20 : decode cX10_becomesLaid 20 = .ok (.iinc 2 1, 3) := by decide +kernel
theorem dX10_becomesLaid_23 : decode cX10_becomesLaid 23 = .ok (.goto (-21), 3) := by decide +kernel
theorem dX10_becomesLaid_26 : decode cX10_becomesLaid 26 = .ok (.aload_n 0, 1) := by decide +kernel
theorem dX10_becomesLaid_27 : decode cX10_becomesLaid 27 = .ok (.getfield 13, 3) := by decide +kernel
theorem dX10_becomesLaid_30 : decode cX10_becomesLaid 30 = .ok (.bipush 57, 2) := by decide +kernel
theorem dX10_becomesLaid_32 : decode cX10_becomesLaid 32 = .ok (.iload_n 1, 1) := by decide +kernel
theorem dX10_becomesLaid_33 : decode cX10_becomesLaid 33 = .ok (.imul, 1) := by decide +kernel
theorem dX10_becomesLaid_34 : decode cX10_becomesLaid 34 = .ok (.aload_n 0, 1) := by decide +kernel
theorem dX10_becomesLaid_35 : decode cX10_becomesLaid 35 = .ok (.getfield 256, 3) := by decide +kernel
theorem dX10_becomesLaid_38 : decode cX10_becomesLaid 38 = .ok (.iastore, 1) := by decide +kernel
theorem dX10_becomesLaid_39 : decode cX10_becomesLaid 39 = .ok (.iconst 0, 1) := by decide +kernel
theorem dX10_becomesLaid_40 : decode cX10_becomesLaid 40 = .ok (.istore_n 2, 1) := by decide +kernel
theorem dX10_becomesLaid_41 : decode cX10_becomesLaid 41 = .ok (.iload_n 2, 1) := by decide +kernel
theorem dX10_becomesLaid_42 : decode cX10_becomesLaid 42 = .ok (.aload_n 0, 1) := by decide +kernel
theorem dX10_becomesLaid_43 : decode cX10_becomesLaid 43 = .ok (.getfield 256, 3) := by decide +kernel
theorem dX10_becomesLaid_46 : decode cX10_becomesLaid 46 = .ok (.if_icmp .ge 74, 3) := by decide +kernel
theorem dX10_becomesLaid_49 : decode cX10_becomesLaid 49 = .ok (.aload_n 0, 1) := by decide +kernel
theorem dX10_becomesLaid_50 : decode cX10_becomesLaid 50 = .ok (.getfield 13, 3) := by decide +kernel
theorem dX10_becomesLaid_53 : decode cX10_becomesLaid 53 = .ok (.bipush 57, 2) := by decide +kernel
theorem dX10_becomesLaid_55 : decode cX10_becomesLaid 55 = .ok (.iload_n 1, 1) := by decide +kernel
theorem dX10_becomesLaid_56 : decode cX10_becomesLaid 56 = .ok (.imul, 1) := by decide +kernel
theorem dX10_becomesLaid_57 : decode cX10_becomesLaid 57 = .ok (.iconst 1, 1) := by decide +kernel
theorem dX10_becomesLaid_58 : decode cX10_becomesLaid 58 = .ok (.iadd, 1) := by decide +kernel
theorem dX10_becomesLaid_59 : decode cX10_becomesLaid 59 = .ok (.iload_n 2, 1) := by decide +kernel
theorem dX10_becomesLaid_60 : decode cX10_becomesLaid 60 = .ok (.iadd, 1) := by decide +kernel
theorem dX10_becomesLaid_61 : decode cX10_becomesLaid 61 = .ok (.aload_n 0, 1) := by decide +kernel
theorem dX10_becomesLaid_62 : decode cX10_becomesLaid 62 = .ok (.getfield 33, 3) := by decide +kernel
theorem dX10_becomesLaid_65 : decode cX10_becomesLaid 65 = .ok (.iload_n 2, 1) := by decide +kernel
theorem dX10_becomesLaid_66 : decode cX10_becomesLaid 66 = .ok (.iaload, 1) := by decide +kernel
theorem dX10_becomesLaid_67 : decode cX10_becomesLaid 67 = .ok (.iastore, 1) := by decide +kernel
theorem dX10_becomesLaid_68 : decode cX10_becomesLaid 68 = .ok (.iconst 0, 1) := by decide +kernel
theorem dX10_becomesLaid_69 : decode cX10_becomesLaid 69 = .ok (.istore_n 3, 1) := by decide +kernel
theorem dX10_becomesLaid_70 : decode cX10_becomesLaid 70 = .ok (.iload_n 3, 1) := by decide +kernel
theorem dX10_becomesLaid_71 : decode cX10_becomesLaid 71 = .ok (.aload_n 0, 1) := by decide +kernel
theorem dX10_becomesLaid_72 : decode cX10_becomesLaid 72 = .ok (.getfield 256, 3) := by decide +kernel
theorem dX10_becomesLaid_75 : decode cX10_becomesLaid 75 = .ok (.if_icmp .ge 39, 3) := by decide +kernel
theorem dX10_becomesLaid_78 : decode cX10_becomesLaid 78 = .ok (.aload_n 0, 1) := by decide +kernel
theorem dX10_becomesLaid_79 : decode cX10_becomesLaid 79 = .ok (.getfield 13, 3) := by decide +kernel
theorem dX10_becomesLaid_82 : decode cX10_becomesLaid 82 = .ok (.bipush 57, 2) := by decide +kernel
theorem dX10_becomesLaid_84 : decode cX10_becomesLaid 84 = .ok (.iload_n 1, 1) := by decide +kernel
theorem dX10_becomesLaid_85 : decode cX10_becomesLaid 85 = .ok (.imul, 1) := by decide +kernel
theorem dX10_becomesLaid_86 : decode cX10_becomesLaid 86 = .ok (.bipush 8, 2) := by decide +kernel
theorem dX10_becomesLaid_88 : decode cX10_becomesLaid 88 = .ok (.iadd, 1) := by decide +kernel
theorem dX10_becomesLaid_89 : decode cX10_becomesLaid 89 = .ok (.bipush 7, 2) := by decide +kernel
theorem dX10_becomesLaid_91 : decode cX10_becomesLaid 91 = .ok (.iload_n 2, 1) := by decide +kernel
theorem dX10_becomesLaid_92 : decode cX10_becomesLaid 92 = .ok (.imul, 1) := by decide +kernel
theorem dX10_becomesLaid_93 : decode cX10_becomesLaid 93 = .ok (.iadd, 1) := by decide +kernel
theorem dX10_becomesLaid_94 : decode cX10_becomesLaid 94 = .ok (.iload_n 3, 1) := by decide +kernel
theorem dX10_becomesLaid_95 : decode cX10_becomesLaid 95 = .ok (.iadd, 1) := by decide +kernel
theorem dX10_becomesLaid_96 : decode cX10_becomesLaid 96 = .ok (.aload_n 0, 1) := by decide +kernel
theorem dX10_becomesLaid_97 : decode cX10_becomesLaid 97 = .ok (.getfield 36, 3) := by decide +kernel
theorem dX10_becomesLaid_100 : decode cX10_becomesLaid 100 = .ok (.bipush 7, 2) := by decide +kernel
theorem dX10_becomesLaid_102 : decode cX10_becomesLaid 102 = .ok (.iload_n 2, 1) := by decide +kernel
theorem dX10_becomesLaid_103 : decode cX10_becomesLaid 103 = .ok (.imul, 1) := by decide +kernel
theorem dX10_becomesLaid_104 : decode cX10_becomesLaid 104 = .ok (.iload_n 3, 1) := by decide +kernel
theorem dX10_becomesLaid_105 : decode cX10_becomesLaid 105 = .ok (.iadd, 1) := by decide +kernel
theorem dX10_becomesLaid_106 : decode cX10_becomesLaid 106 = .ok (.iaload, 1) := by decide +kernel
theorem dX10_becomesLaid_107 : decode cX10_becomesLaid 107 = .ok (.iastore, 1) := by decide +kernel
theorem dX10_becomesLaid_108 : decode cX10_becomesLaid 108 = .ok (.iinc 3 1, 3) := by decide +kernel
theorem dX10_becomesLaid_111 : decode cX10_becomesLaid 111 = .ok (.goto (-41), 3) := by decide +kernel
theorem dX10_becomesLaid_114 : decode cX10_becomesLaid 114 = .ok (.iinc 2 1, 3) := by decide +kernel
theorem dX10_becomesLaid_117 : decode cX10_becomesLaid 117 = .ok (.goto (-76), 3) := by decide +kernel
theorem dX10_becomesLaid_120 : decode cX10_becomesLaid 120 = .ok (.return_, 1) := by decide +kernel
theorem dX10_turn_0 : decode cX10_turn 0 = .ok (.aload_n 0, 1) := by decide +kernel
theorem dX10_turn_1 : decode cX10_turn 1 = .ok (.invokevirtual 215, 3) := by decide +kernel
theorem dX10_turn_4 : decode cX10_turn 4 = .ok (.aload_n 0, 1) := by decide +kernel
theorem dX10_turn_5 : decode cX10_turn 5 = .ok (.iload_n 1, 1) := by decide +kernel
theorem dX10_turn_6 : decode cX10_turn 6 = .ok (.invokestatic 218, 3) := by decide +kernel
theorem dX10_turn_9 : decode cX10_turn 9 = .ok (.ifCond .ne 7, 3) := by decide +kernel
theorem dX10_turn_12 : decode cX10_turn 12 = .ok (.iconst 1, 1) := by decide +kernel
theorem dX10_turn_13 : decode cX10_turn 13 = .ok (.goto 4, 3) := by decide +kernel
theorem dX10_turn_16 : decode cX10_turn 16 = .ok (.iconst 0, 1) := by decide +kernel
theorem dX10_turn_17 : decode cX10_turn 17 = .ok (.iconst 1, 1) := by decide +kernel
theorem dX10_turn_18 : decode cX10_turn 18 = .ok (.invokevirtual 221, 3) := by decide +kernel
theorem dX10_turn_21 : decode cX10_turn 21 = .ok (.ifCond .eq 5, 3) := by decide +kernel
theorem dX10_turn_24 : decode cX10_turn 24 = .ok (.iconst (-1), 1) := by decide +kernel
theorem dX10_turn_25 : decode cX10_turn 25 = .ok (.ireturn, 1) := by decide +kernel
theorem dX10_turn_26 : decode cX10_turn 26 = .ok (.aload_n 0, 1) := by decide +kernel
theorem dX10_turn_27 : decode cX10_turn 27 = .ok (.invokevirtual 228, 3) := by decide +kernel
theorem dX10_turn_30 : decode cX10_turn 30 = .ok (.aload_n 0, 1) := by decide +kernel
theorem dX10_turn_31 : decode cX10_turn 31 = .ok (.iload_n 1, 1) := by decide +kernel
theorem dX10_turn_32 : decode cX10_turn 32 = .ok (.invokevirtual 454, 3) := by decide +kernel
theorem dX10_turn_35 : decode cX10_turn 35 = .ok (.aload_n 0, 1) := by decide +kernel
theorem dX10_turn_36 : decode cX10_turn 36 = .ok (.iload_n 1, 1) := by decide +kernel
theorem dX10_turn_37 : decode cX10_turn 37 = .ok (.invokevirtual 479, 3) := by decide +kernel
theorem dX10_turn_40 : decode cX10_turn 40 = .ok (.aload_n 0, 1) := by decide +kernel
theorem dX10_turn_41 : decode cX10_turn 41 = .ok (.iload_n 1, 1) := by decide +kernel
theorem dX10_turn_42 : decode cX10_turn 42 = .ok (.invokevirtual 247, 3) := by decide +kernel
theorem dX10_turn_45 : decode cX10_turn 45 = .ok (.ireturn, 1) := by decide +kernel
theorem dX10_drop_0 : decode cX10_drop 0 = .ok (.aload_n 0, 1) := by decide +kernel
theorem dX10_drop_1 : decode cX10_drop 1 = .ok (.invokevirtual 215, 3) := by decide +kernel
theorem dX10_drop_4 : decode cX10_drop 4 = .ok (.aload_n 0, 1) := by decide +kernel
theorem dX10_drop_5 : decode cX10_drop 5 = .ok (.aload_n 0, 1) := by decide +kernel
theorem dX10_drop_6 : decode cX10_drop 6 = .ok (.iload_n 1, 1) := by decide +kernel
theorem dX10_drop_7 : decode cX10_drop 7 = .ok (.iload_n 2, 1) := by decide +kernel
theorem dX10_drop_8 : decode cX10_drop 8 = .ok (.invokevirtual 253, 3) := by decide +kernel
theorem dX10_drop_11 : decode cX10_drop 11 = .ok (.ifCond .ne 7, 3) := by decide +kernel
theorem dX10_drop_14 : decode cX10_drop 14 = .ok (.iconst 1, 1) := by decide +kernel
theorem dX10_drop_15 : decode cX10_drop 15 = .ok (.goto 4, 3) := by decide +kernel
theorem dX10_drop_18 : decode cX10_drop 18 = .ok (.iconst 0, 1) := by decide +kernel
theorem dX10_drop_19 : decode cX10_drop 19 = .ok (.iconst 1, 1) := by decide +kernel
theorem dX10_drop_20 : decode cX10_drop 20 = .ok (.invokevirtual 221, 3) := by decide +kernel
theorem dX10_drop_23 : decode cX10_drop 23 = .ok (.ifCond .ne 25, 3) := by decide +kernel
theorem dX10_drop_26 : decode cX10_drop 26 = .ok (.aload_n 0, 1) := by decide +kernel
theorem dX10_drop_27 : decode cX10_drop 27 = .ok (.aload_n 0, 1) := by decide +kernel
theorem dX10_drop_28 : decode cX10_drop 28 = .ok (.iload_n 1, 1) := by decide +kernel
theorem dX10_drop_29 : decode cX10_drop 29 = .ok (.invokevirtual 231, 3) := by decide +kernel
theorem dX10_drop_32 : decode cX10_drop 32 = .ok (.iconst 1, 1) := by decide +kernel
theorem dX10_drop_33 : decode cX10_drop 33 = .ok (.if_icmp .ne 7, 3) := by decide +kernel
theorem dX10_drop_36 : decode cX10_drop 36 = .ok (.iconst 1, 1) := by decide +kernel
theorem dX10_drop_37 : decode cX10_drop 37 = .ok (.goto 4, 3) := by decide +kernel
theorem dX10_drop_40 : decode cX10_drop 40 = .ok (.iconst 0, 1) := by decide +kernel
theorem dX10_drop_41 : decode cX10_drop 41 = .ok (.iconst 5, 1) := by decide +kernel
theorem dX10_drop_42 : decode cX10_drop 42 = .ok (.invokevirtual 221, 3) := by decide +kernel
theorem dX10_drop_45 : decode cX10_drop 45 = .ok (.ifCond .eq 5, 3) := by decide +kernel
theorem dX10_drop_48 : decode cX10_drop 48 = .ok (.iconst (-1), 1) := by decide +kernel
theorem dX10_drop_49 : decode cX10_drop 49 = .ok (.ireturn, 1) := by decide +kernel
theorem dX10_drop_50 : decode cX10_drop 50 = .ok (.aload_n 0, 1) := by decide +kernel
theorem dX10_drop_51 : decode cX10_drop 51 = .ok (.invokevirtual 228, 3) := by decide +kernel
theorem dX10_drop_54 : decode cX10_drop 54 = .ok (.aload_n 0, 1) := by decide +kernel
theorem dX10_drop_55 : decode cX10_drop 55 = .ok (.iload_n 1, 1) := by decide +kernel
theorem dX10_drop_56 : decode cX10_drop 56 = .ok (.iload_n 2, 1) := by decide +kernel
theorem dX10_drop_57 : decode cX10_drop 57 = .ok (.invokevirtual 451, 3) := by decide +kernel
theorem dX10_drop_60 : decode cX10_drop 60 = .ok (.aload_n 0, 1) := by decide +kernel
theorem dX10_drop_61 : decode cX10_drop 61 = .ok (.iload_n 1, 1) := by decide +kernel
theorem dX10_drop_62 : decode cX10_drop 62 = .ok (.invokevirtual 479, 3) := by decide +kernel
theorem dX10_drop_65 : decode cX10_drop 65 = .ok (.aload_n 0, 1) := by decide +kernel
theorem dX10_drop_66 : decode cX10_drop 66 = .ok (.getfield 256, 3) := by decide +kernel
theorem dX10_drop_69 : decode cX10_drop 69 = .ok (.ireturn, 1) := by decide +kernel
theorem dX10_grow_0 : decode cX10_grow 0 = .ok (.aload_n 0, 1) := by decide +kernel
theorem dX10_grow_1 : decode cX10_grow 1 = .ok (.invokevirtual 215, 3) := by decide +kernel
theorem dX10_grow_4 : decode cX10_grow 4 = .ok (.aload_n 0, 1) := by decide +kernel
theorem dX10_grow_5 : decode cX10_grow 5 = .ok (.iload_n 1, 1) := by decide +kernel
theorem dX10_grow_6 : decode cX10_grow 6 = .ok (.invokestatic 218, 3) := by decide +kernel
theorem dX10_grow_9 : decode cX10_grow 9 = .ok (.ifCond .ne 7, 3) := by decide +kernel
theorem dX10_grow_12 : decode cX10_grow 12 = .ok (.iconst 1, 1) := by decide +kernel
theorem dX10_grow_13 : decode cX10_grow 13 = .ok (.goto 4, 3) := by decide +kernel
theorem dX10_grow_16 : decode cX10_grow 16 = .ok (.iconst 0, 1) := by decide +kernel
theorem dX10_grow_17 : decode cX10_grow 17 = .ok (.iconst 1, 1) := by decide +kernel
theorem dX10_grow_18 : decode cX10_grow 18 = .ok (.invokevirtual 221, 3) := by decide +kernel
theorem dX10_grow_21 : decode cX10_grow 21 = .ok (.ifCond .ne 58, 3) := by decide +kernel
theorem dX10_grow_24 : decode cX10_grow 24 = .ok (.aload_n 0, 1) := by decide +kernel
theorem dX10_grow_25 : decode cX10_grow 25 = .ok (.aload_n 0, 1) := by decide +kernel
theorem dX10_grow_26 : decode cX10_grow 26 = .ok (.iload_n 1, 1) := by decide +kernel
theorem dX10_grow_27 : decode cX10_grow 27 = .ok (.iload_n 2, 1) := by decide +kernel
theorem dX10_grow_28 : decode cX10_grow 28 = .ok (.invokevirtual 302, 3) := by decide +kernel
theorem dX10_grow_31 : decode cX10_grow 31 = .ok (.ifCond .eq 13, 3) := by decide +kernel
theorem dX10_grow_34 : decode cX10_grow 34 = .ok (.iload_n 3, 1) := by decide +kernel
theorem dX10_grow_35 : decode cX10_grow 35 = .ok (.iconst 0, 1) := by decide +kernel
theorem dX10_grow_36 : decode cX10_grow 36 = .ok (.bipush 9, 2) := by decide +kernel
theorem dX10_grow_38 : decode cX10_grow 38 = .ok (.invokestatic 156, 3) := by decide +kernel
theorem dX10_grow_41 : decode cX10_grow 41 = .ok (.ifCond .ne 7, 3) := by decide +kernel
theorem dX10_grow_44 : decode cX10_grow 44 = .ok (.iconst 1, 1) := by decide +kernel
theorem dX10_grow_45 : decode cX10_grow 45 = .ok (.goto 4, 3) := by decide +kernel
theorem dX10_grow_48 : decode cX10_grow 48 = .ok (.iconst 0, 1) := by decide +kernel
theorem dX10_grow_49 : decode cX10_grow 49 = .ok (.iconst 2, 1) := by decide +kernel
theorem dX10_grow_50 : decode cX10_grow 50 = .ok (.invokevirtual 221, 3) := by decide +kernel
theorem dX10_grow_53 : decode cX10_grow 53 = .ok (.ifCond .ne 26, 3) := by decide +kernel
theorem dX10_grow_56 : decode cX10_grow 56 = .ok (.aload_n 0, 1) := by decide +kernel
theorem dX10_grow_57 : decode cX10_grow 57 = .ok (.aload_n 0, 1) := by decide +kernel
theorem dX10_grow_58 : decode cX10_grow 58 = .ok (.iload_n 1, 1) := by decide +kernel
theorem dX10_grow_59 : decode cX10_grow 59 = .ok (.invokevirtual 231, 3) := by decide +kernel
theorem dX10_grow_62 : decode cX10_grow 62 = .ok (.bipush 7, 2) := by decide +kernel
theorem dX10_grow_64 : decode cX10_grow 64 = .ok (.if_icmp .ne 7, 3) := by decide +kernel
theorem dX10_grow_67 : decode cX10_grow 67 = .ok (.iconst 1, 1) := by decide +kernel
theorem dX10_grow_68 : decode cX10_grow 68 = .ok (.goto 4, 3) := by decide +kernel
theorem dX10_grow_71 : decode cX10_grow 71 = .ok (.iconst 0, 1) := by decide +kernel
theorem dX10_grow_72 : decode cX10_grow 72 = .ok (.iconst 5, 1) := by decide +kernel
theorem dX10_grow_73 : decode cX10_grow 73 = .ok (.invokevirtual 221, 3) := by decide +kernel
theorem dX10_grow_76 : decode cX10_grow 76 = .ok (.ifCond .eq 5, 3) := by decide +kernel
theorem dX10_grow_79 : decode cX10_grow 79 = .ok (.iconst (-1), 1) := by decide +kernel
theorem dX10_grow_80 : decode cX10_grow 80 = .ok (.ireturn, 1) := by decide +kernel
theorem dX10_grow_81 : decode cX10_grow 81 = .ok (.aload_n 0, 1) := by decide +kernel
theorem dX10_grow_82 : decode cX10_grow 82 = .ok (.invokevirtual 228, 3) := by decide +kernel
theorem dX10_grow_85 : decode cX10_grow 85 = .ok (.aload_n 0, 1) := by decide +kernel
theorem dX10_grow_86 : decode cX10_grow 86 = .ok (.iload_n 1, 1) := by decide +kernel
theorem dX10_grow_87 : decode cX10_grow 87 = .ok (.invokevirtual 231, 3) := by decide +kernel
theorem dX10_grow_90 : decode cX10_grow 90 = .ok (.istore 4, 2) := by decide +kernel
theorem dX10_grow_92 : decode cX10_grow 92 = .ok (.aload_n 0, 1) := by decide +kernel
theorem dX10_grow_93 : decode cX10_grow 93 = .ok (.getfield 13, 3) := by decide +kernel
theorem dX10_grow_96 : decode cX10_grow 96 = .ok (.bipush 57, 2) := by decide +kernel
theorem dX10_grow_98 : decode cX10_grow 98 = .ok (.iload_n 1, 1) := by decide +kernel
theorem dX10_grow_99 : decode cX10_grow 99 = .ok (.imul, 1) := by decide +kernel
theorem dX10_grow_100 : decode cX10_grow 100 = .ok (.dup2, 1) := by decide +kernel
theorem dX10_grow_101 : decode cX10_grow 101 = .ok (.iaload, 1) := by decide +kernel
theorem dX10_grow_102 : decode cX10_grow 102 = .ok (.iconst 1, 1) := by decide +kernel
theorem dX10_grow_103 : decode cX10_grow 103 = .ok (.iadd, 1) := by decide +kernel
theorem dX10_grow_104 : decode cX10_grow 104 = .ok (.iastore, 1) := by decide +kernel
theorem dX10_grow_105 : decode cX10_grow 105 = .ok (.aload_n 0, 1) := by decide +kernel
theorem dX10_grow_106 : decode cX10_grow 106 = .ok (.getfield 13, 3) := by decide +kernel
theorem dX10_grow_109 : decode cX10_grow 109 = .ok (.bipush 57, 2) := by decide +kernel
theorem dX10_grow_111 : decode cX10_grow 111 = .ok (.iload_n 1, 1) := by decide +kernel
theorem dX10_grow_112 : decode cX10_grow 112 = .ok (.imul, 1) := by decide +kernel
theorem dX10_grow_113 : decode cX10_grow 113 = .ok (.iconst 1, 1) := by decide +kernel
theorem dX10_grow_114 : decode cX10_grow 114 = .ok (.iadd, 1) := by decide +kernel
theorem dX10_grow_115 : decode cX10_grow 115 = .ok (.iload 4, 2) := by decide +kernel
theorem dX10_grow_117 : decode cX10_grow 117 = .ok (.iadd, 1) := by decide +kernel
theorem dX10_grow_118 : decode cX10_grow 118 = .ok (.iload_n 3, 1) := by decide +kernel
theorem dX10_grow_119 : decode cX10_grow 119 = .ok (.iastore, 1) := by decide +kernel
theorem dX10_grow_120 : decode cX10_grow 120 = .ok (.iconst 0, 1) := by decide +kernel
theorem dX10_grow_121 : decode cX10_grow 121 = .ok (.istore 5, 2) := by decide +kernel
theorem dX10_grow_123 : decode cX10_grow 123 = .ok (.iload 5, 2) := by decide +kernel
theorem dX10_grow_125 : decode cX10_grow 125 = .ok (.iload 4, 2) := by decide +kernel
theorem dX10_grow_127 : decode cX10_grow 127 = .ok (.if_icmp .ge 32, 3) := by decide +kernel
theorem dX10_grow_130 : decode cX10_grow 130 = .ok (.aload_n 0, 1) := by decide +kernel
theorem dX10_grow_131 : decode cX10_grow 131 = .ok (.iload_n 1, 1) := by decide +kernel
theorem dX10_grow_132 : decode cX10_grow 132 = .ok (.iload 4, 2) := by decide +kernel
theorem dX10_grow_134 : decode cX10_grow 134 = .ok (.iload 5, 2) := by decide +kernel
theorem dX10_grow_136 : decode cX10_grow 136 = .ok (.iload_n 2, 1) := by decide +kernel
theorem dX10_grow_137 : decode cX10_grow 137 = .ok (.iload 5, 2) := by decide +kernel
theorem dX10_grow_139 : decode cX10_grow 139 = .ok (.invokestatic 182, 3) := by decide +kernel
theorem dX10_grow_142 : decode cX10_grow 142 = .ok (.ifCond .eq 7, 3) := by decide +kernel
theorem dX10_grow_145 : decode cX10_grow 145 = .ok (.iconst 1, 1) := by decide +kernel
theorem dX10_grow_146 : decode cX10_grow 146 = .ok (.goto 4, 3) := by decide +kernel
theorem dX10_grow_149 : decode cX10_grow 149 = .ok (.iconst 0, 1) := by decide +kernel
theorem dX10_grow_150 : decode cX10_grow 150 = .ok (.invokevirtual 460, 3) := by decide +kernel
theorem dX10_grow_153 : decode cX10_grow 153 = .ok (.iinc 5 1, 3) := by decide +kernel
theorem dX10_grow_156 : decode cX10_grow 156 = .ok (.goto (-33), 3) := by decide +kernel
theorem dX10_grow_159 : decode cX10_grow 159 = .ok (.iload 4, 2) := by decide +kernel
theorem dX10_grow_161 : decode cX10_grow 161 = .ok (.iconst 1, 1) := by decide +kernel
theorem dX10_grow_162 : decode cX10_grow 162 = .ok (.iadd, 1) := by decide +kernel
theorem dX10_grow_163 : decode cX10_grow 163 = .ok (.ireturn, 1) := by decide +kernel
theorem dX10_undo_0 : decode cX10_undo 0 = .ok (.aload_n 0, 1) := by decide +kernel
theorem dX10_undo_1 : decode cX10_undo 1 = .ok (.invokevirtual 215, 3) := by decide +kernel
theorem dX10_undo_4 : decode cX10_undo 4 = .ok (.aload_n 0, 1) := by decide +kernel
theorem dX10_undo_5 : decode cX10_undo 5 = .ok (.aload_n 0, 1) := by decide +kernel
theorem dX10_undo_6 : decode cX10_undo 6 = .ok (.getfield 457, 3) := by decide +kernel
theorem dX10_undo_9 : decode cX10_undo 9 = .ok (.ifCond .ne 7, 3) := by decide +kernel
theorem dX10_undo_12 : decode cX10_undo 12 = .ok (.iconst 1, 1) := by decide +kernel
theorem dX10_undo_13 : decode cX10_undo 13 = .ok (.goto 4, 3) := by decide +kernel
theorem dX10_undo_16 : decode cX10_undo 16 = .ok (.iconst 0, 1) := by decide +kernel
theorem dX10_undo_17 : decode cX10_undo 17 = .ok (.iconst 5, 1) := by decide +kernel
theorem dX10_undo_18 : decode cX10_undo 18 = .ok (.invokevirtual 221, 3) := by decide +kernel
theorem dX10_undo_21 : decode cX10_undo 21 = .ok (.ifCond .eq 5, 3) := by decide +kernel
theorem dX10_undo_24 : decode cX10_undo 24 = .ok (.iconst (-1), 1) := by decide +kernel
theorem dX10_undo_25 : decode cX10_undo 25 = .ok (.ireturn, 1) := by decide +kernel
theorem dX10_undo_26 : decode cX10_undo 26 = .ok (.aload_n 0, 1) := by decide +kernel
theorem dX10_undo_27 : decode cX10_undo 27 = .ok (.dup, 1) := by decide +kernel
theorem dX10_undo_28 : decode cX10_undo 28 = .ok (.getfield 457, 3) := by decide +kernel
theorem dX10_undo_31 : decode cX10_undo 31 = .ok (.iconst 1, 1) := by decide +kernel
theorem dX10_undo_32 : decode cX10_undo 32 = .ok (.isub, 1) := by decide +kernel
theorem dX10_undo_33 : decode cX10_undo 33 = .ok (.putfield 457, 3) := by decide +kernel
theorem dX10_undo_36 : decode cX10_undo 36 = .ok (.iconst 0, 1) := by decide +kernel
theorem dX10_undo_37 : decode cX10_undo 37 = .ok (.istore_n 1, 1) := by decide +kernel
theorem dX10_undo_38 : decode cX10_undo 38 = .ok (.iload_n 1, 1) := by decide +kernel
theorem dX10_undo_39 : decode cX10_undo 39 = .ok (.sipush 171, 3) := by decide +kernel
theorem dX10_undo_42 : decode cX10_undo 42 = .ok (.if_icmp .ge 30, 3) := by decide +kernel
theorem dX10_undo_45 : decode cX10_undo 45 = .ok (.aload_n 0, 1) := by decide +kernel
theorem dX10_undo_46 : decode cX10_undo 46 = .ok (.getfield 13, 3) := by decide +kernel
theorem dX10_undo_49 : decode cX10_undo 49 = .ok (.iload_n 1, 1) := by decide +kernel
theorem dX10_undo_50 : decode cX10_undo 50 = .ok (.aload_n 0, 1) := by decide +kernel
theorem dX10_undo_51 : decode cX10_undo 51 = .ok (.getfield 17, 3) := by decide +kernel
theorem dX10_undo_54 : decode cX10_undo 54 = .ok (.sipush 171, 3) := by decide +kernel
theorem dX10_undo_57 : decode cX10_undo 57 = .ok (.aload_n 0, 1) := by decide +kernel
theorem dX10_undo_58 : decode cX10_undo 58 = .ok (.getfield 457, 3) := by decide +kernel
theorem dX10_undo_61 : decode cX10_undo 61 = .ok (.imul, 1) := by decide +kernel
theorem dX10_undo_62 : decode cX10_undo 62 = .ok (.iload_n 1, 1) := by decide +kernel
theorem dX10_undo_63 : decode cX10_undo 63 = .ok (.iadd, 1) := by decide +kernel
theorem dX10_undo_64 : decode cX10_undo 64 = .ok (.iaload, 1) := by decide +kernel
theorem dX10_undo_65 : decode cX10_undo 65 = .ok (.iastore, 1) := by decide +kernel
theorem dX10_undo_66 : decode cX10_undo 66 = .ok (.iinc 1 1, 3) := by decide +kernel
theorem dX10_undo_69 : decode cX10_undo 69 = .ok (.goto (-31), 3) := by decide +kernel
theorem dX10_undo_72 : decode cX10_undo 72 = .ok (.aload_n 0, 1) := by decide +kernel
theorem dX10_undo_73 : decode cX10_undo 73 = .ok (.getfield 457, 3) := by decide +kernel
theorem dX10_undo_76 : decode cX10_undo 76 = .ok (.ireturn, 1) := by decide +kernel
theorem dX10_image_0 : decode cX10_image 0 = .ok (.aload_n 0, 1) := by decide +kernel
theorem dX10_image_1 : decode cX10_image 1 = .ok (.invokevirtual 215, 3) := by decide +kernel
theorem dX10_image_4 : decode cX10_image 4 = .ok (.aload_n 0, 1) := by decide +kernel
theorem dX10_image_5 : decode cX10_image 5 = .ok (.iload_n 1, 1) := by decide +kernel
theorem dX10_image_6 : decode cX10_image 6 = .ok (.iconst 0, 1) := by decide +kernel
theorem dX10_image_7 : decode cX10_image 7 = .ok (.iconst 1, 1) := by decide +kernel
theorem dX10_image_8 : decode cX10_image 8 = .ok (.invokestatic 156, 3) := by decide +kernel
theorem dX10_image_11 : decode cX10_image 11 = .ok (.ifCond .ne 7, 3) := by decide +kernel
theorem dX10_image_14 : decode cX10_image 14 = .ok (.iconst 1, 1) := by decide +kernel
theorem dX10_image_15 : decode cX10_image 15 = .ok (.goto 4, 3) := by decide +kernel
theorem dX10_image_18 : decode cX10_image 18 = .ok (.iconst 0, 1) := by decide +kernel
theorem dX10_image_19 : decode cX10_image 19 = .ok (.iconst 1, 1) := by decide +kernel
theorem dX10_image_20 : decode cX10_image 20 = .ok (.invokevirtual 221, 3) := by decide +kernel
theorem dX10_image_23 : decode cX10_image 23 = .ok (.ifCond .eq 5, 3) := by decide +kernel
theorem dX10_image_26 : decode cX10_image 26 = .ok (.iconst 0, 1) := by decide +kernel
theorem dX10_image_27 : decode cX10_image 27 = .ok (.ireturn, 1) := by decide +kernel
theorem dX10_image_28 : decode cX10_image 28 = .ok (.iconst 0, 1) := by decide +kernel
theorem dX10_image_29 : decode cX10_image 29 = .ok (.istore_n 2, 1) := by decide +kernel
theorem dX10_image_30 : decode cX10_image 30 = .ok (.iload_n 2, 1) := by decide +kernel
theorem dX10_image_31 : decode cX10_image 31 = .ok (.sipush 171, 3) := by decide +kernel
theorem dX10_image_34 : decode cX10_image 34 = .ok (.if_icmp .ge 27, 3) := by decide +kernel
theorem dX10_image_37 : decode cX10_image 37 = .ok (.aload_n 0, 1) := by decide +kernel
theorem dX10_image_38 : decode cX10_image 38 = .ok (.getfield 20, 3) := by decide +kernel
theorem dX10_image_41 : decode cX10_image 41 = .ok (.sipush 171, 3) := by decide +kernel
theorem dX10_image_44 : decode cX10_image 44 = .ok (.iload_n 1, 1) := by decide +kernel
theorem dX10_image_45 : decode cX10_image 45 = .ok (.imul, 1) := by decide +kernel
theorem dX10_image_46 : decode cX10_image 46 = .ok (.iload_n 2, 1) := by decide +kernel
theorem dX10_image_47 : decode cX10_image 47 = .ok (.iadd, 1) := by decide +kernel
theorem dX10_image_48 : decode cX10_image 48 = .ok (.aload_n 0, 1) := by decide +kernel
theorem dX10_image_49 : decode cX10_image 49 = .ok (.getfield 13, 3) := by decide +kernel
theorem dX10_image_52 : decode cX10_image 52 = .ok (.iload_n 2, 1) := by decide +kernel
theorem dX10_image_53 : decode cX10_image 53 = .ok (.iaload, 1) := by decide +kernel
theorem dX10_image_54 : decode cX10_image 54 = .ok (.iastore, 1) := by decide +kernel
theorem dX10_image_55 : decode cX10_image 55 = .ok (.iinc 2 1, 3) := by decide +kernel
theorem dX10_image_58 : decode cX10_image 58 = .ok (.goto (-28), 3) := by decide +kernel
theorem dX10_image_61 : decode cX10_image 61 = .ok (.aload_n 0, 1) := by decide +kernel
theorem dX10_image_62 : decode cX10_image 62 = .ok (.getfield 23, 3) := by decide +kernel
theorem dX10_image_65 : decode cX10_image 65 = .ok (.iload_n 1, 1) := by decide +kernel
theorem dX10_image_66 : decode cX10_image 66 = .ok (.iconst 1, 1) := by decide +kernel
theorem dX10_image_67 : decode cX10_image 67 = .ok (.bastore, 1) := by decide +kernel
theorem dX10_image_68 : decode cX10_image 68 = .ok (.iconst 1, 1) := by decide +kernel
theorem dX10_image_69 : decode cX10_image 69 = .ok (.ireturn, 1) := by decide +kernel
theorem dX10_again_0 : decode cX10_again 0 = .ok (.aload_n 0, 1) := by decide +kernel
theorem dX10_again_1 : decode cX10_again 1 = .ok (.invokevirtual 215, 3) := by decide +kernel
theorem dX10_again_4 : decode cX10_again 4 = .ok (.aload_n 0, 1) := by decide +kernel
theorem dX10_again_5 : decode cX10_again 5 = .ok (.iload_n 1, 1) := by decide +kernel
theorem dX10_again_6 : decode cX10_again 6 = .ok (.iconst 0, 1) := by decide +kernel
theorem dX10_again_7 : decode cX10_again 7 = .ok (.iconst 1, 1) := by decide +kernel
theorem dX10_again_8 : decode cX10_again 8 = .ok (.invokestatic 156, 3) := by decide +kernel
theorem dX10_again_11 : decode cX10_again 11 = .ok (.ifCond .eq 12, 3) := by decide +kernel
theorem dX10_again_14 : decode cX10_again 14 = .ok (.aload_n 0, 1) := by decide +kernel
theorem dX10_again_15 : decode cX10_again 15 = .ok (.getfield 23, 3) := by decide +kernel
theorem dX10_again_18 : decode cX10_again 18 = .ok (.iload_n 1, 1) := by decide +kernel
theorem dX10_again_19 : decode cX10_again 19 = .ok (.baload, 1) := by decide +kernel
theorem dX10_again_20 : decode cX10_again 20 = .ok (.ifCond .ne 7, 3) := by decide +kernel
theorem dX10_again_23 : decode cX10_again 23 = .ok (.iconst 1, 1) := by decide +kernel
theorem dX10_again_24 : decode cX10_again 24 = .ok (.goto 4, 3) := by decide +kernel
theorem dX10_again_27 : decode cX10_again 27 = .ok (.iconst 0, 1) := by decide +kernel
theorem dX10_again_28 : decode cX10_again 28 = .ok (.iconst 1, 1) := by decide +kernel
theorem dX10_again_29 : decode cX10_again 29 = .ok (.invokevirtual 221, 3) := by decide +kernel
theorem dX10_again_32 : decode cX10_again 32 = .ok (.ifCond .eq 5, 3) := by decide +kernel
theorem dX10_again_35 : decode cX10_again 35 = .ok (.iconst 0, 1) := by decide +kernel
theorem dX10_again_36 : decode cX10_again 36 = .ok (.ireturn, 1) := by decide +kernel
theorem dX10_again_37 : decode cX10_again 37 = .ok (.iconst 0, 1) := by decide +kernel
theorem dX10_again_38 : decode cX10_again 38 = .ok (.istore_n 2, 1) := by decide +kernel
theorem dX10_again_39 : decode cX10_again 39 = .ok (.iload_n 2, 1) := by decide +kernel
theorem dX10_again_40 : decode cX10_again 40 = .ok (.sipush 171, 3) := by decide +kernel
theorem dX10_again_43 : decode cX10_again 43 = .ok (.if_icmp .ge 27, 3) := by decide +kernel
theorem dX10_again_46 : decode cX10_again 46 = .ok (.aload_n 0, 1) := by decide +kernel
theorem dX10_again_47 : decode cX10_again 47 = .ok (.getfield 13, 3) := by decide +kernel
theorem dX10_again_50 : decode cX10_again 50 = .ok (.iload_n 2, 1) := by decide +kernel
theorem dX10_again_51 : decode cX10_again 51 = .ok (.aload_n 0, 1) := by decide +kernel
theorem dX10_again_52 : decode cX10_again 52 = .ok (.getfield 20, 3) := by decide +kernel
theorem dX10_again_55 : decode cX10_again 55 = .ok (.sipush 171, 3) := by decide +kernel
theorem dX10_again_58 : decode cX10_again 58 = .ok (.iload_n 1, 1) := by decide +kernel
theorem dX10_again_59 : decode cX10_again 59 = .ok (.imul, 1) := by decide +kernel
theorem dX10_again_60 : decode cX10_again 60 = .ok (.iload_n 2, 1) := by decide +kernel
theorem dX10_again_61 : decode cX10_again 61 = .ok (.iadd, 1) := by decide +kernel
theorem dX10_again_62 : decode cX10_again 62 = .ok (.iaload, 1) := by decide +kernel
theorem dX10_again_63 : decode cX10_again 63 = .ok (.iastore, 1) := by decide +kernel
theorem dX10_again_64 : decode cX10_again 64 = .ok (.iinc 2 1, 3) := by decide +kernel
theorem dX10_again_67 : decode cX10_again 67 = .ok (.goto (-28), 3) := by decide +kernel
theorem dX10_again_70 : decode cX10_again 70 = .ok (.aload_n 0, 1) := by decide +kernel
theorem dX10_again_71 : decode cX10_again 71 = .ok (.iconst 0, 1) := by decide +kernel
theorem dX10_again_72 : decode cX10_again 72 = .ok (.putfield 457, 3) := by decide +kernel
theorem dX10_again_75 : decode cX10_again 75 = .ok (.iconst 1, 1) := by decide +kernel
theorem dX10_again_76 : decode cX10_again 76 = .ok (.ireturn, 1) := by decide +kernel
theorem dJ6_compare_7cf53_0 : decode cJ6_compare_7cf53 0 = .ok (.iload_n 0, 1) := by decide +kernel
theorem dJ6_compare_7cf53_1 : decode cJ6_compare_7cf53 1 = .ok (.iload_n 1, 1) := by decide +kernel
theorem dJ6_compare_7cf53_2 : decode cJ6_compare_7cf53 2 = .ok (.if_icmp .ge 7, 3) := by decide +kernel
theorem dJ6_compare_7cf53_5 : decode cJ6_compare_7cf53 5 = .ok (.iconst (-1), 1) := by decide +kernel
theorem dJ6_compare_7cf53_6 : decode cJ6_compare_7cf53 6 = .ok (.goto 13, 3) := by decide +kernel
theorem dJ6_compare_7cf53_9 : decode cJ6_compare_7cf53 9 = .ok (.iload_n 0, 1) := by decide +kernel
theorem dJ6_compare_7cf53_10 : decode cJ6_compare_7cf53 10 = .ok (.iload_n 1, 1) := by decide +kernel
theorem dJ6_compare_7cf53_11 : decode cJ6_compare_7cf53 11 = .ok (.if_icmp .ne 7, 3) := by decide +kernel
theorem dJ6_compare_7cf53_14 : decode cJ6_compare_7cf53 14 = .ok (.iconst 0, 1) := by decide +kernel
theorem dJ6_compare_7cf53_15 : decode cJ6_compare_7cf53 15 = .ok (.goto 4, 3) := by decide +kernel
theorem dJ6_compare_7cf53_18 : decode cJ6_compare_7cf53 18 = .ok (.iconst 1, 1) := by decide +kernel
theorem dJ6_compare_7cf53_19 : decode cJ6_compare_7cf53 19 = .ok (.ireturn, 1) := by decide +kernel
theorem dJ6_numberOfTrailingZeros_0f7a4_0 : decode cJ6_numberOfTrailingZeros_0f7a4 0 = .ok (.iload_n 0, 1) := by decide +kernel
theorem dJ6_numberOfTrailingZeros_0f7a4_1 : decode cJ6_numberOfTrailingZeros_0f7a4 1 = .ok (.iconst (-1), 1) := by decide +kernel
theorem dJ6_numberOfTrailingZeros_0f7a4_2 : decode cJ6_numberOfTrailingZeros_0f7a4 2 = .ok (.ixor, 1) := by decide +kernel
theorem dJ6_numberOfTrailingZeros_0f7a4_3 : decode cJ6_numberOfTrailingZeros_0f7a4 3 = .ok (.iload_n 0, 1) := by decide +kernel
theorem dJ6_numberOfTrailingZeros_0f7a4_4 : decode cJ6_numberOfTrailingZeros_0f7a4 4 = .ok (.iconst 1, 1) := by decide +kernel
theorem dJ6_numberOfTrailingZeros_0f7a4_5 : decode cJ6_numberOfTrailingZeros_0f7a4 5 = .ok (.isub, 1) := by decide +kernel
theorem dJ6_numberOfTrailingZeros_0f7a4_6 : decode cJ6_numberOfTrailingZeros_0f7a4 6 = .ok (.iand, 1) := by decide +kernel
theorem dJ6_numberOfTrailingZeros_0f7a4_7 : decode cJ6_numberOfTrailingZeros_0f7a4 7 = .ok (.istore_n 0, 1) := by decide +kernel
theorem dJ6_numberOfTrailingZeros_0f7a4_8 : decode cJ6_numberOfTrailingZeros_0f7a4 8 = .ok (.iload_n 0, 1) := by decide +kernel
theorem dJ6_numberOfTrailingZeros_0f7a4_9 : decode cJ6_numberOfTrailingZeros_0f7a4 9 = .ok (.ifCond .gt 8, 3) := by decide +kernel
theorem dJ6_numberOfTrailingZeros_0f7a4_12 : decode cJ6_numberOfTrailingZeros_0f7a4 12 = .ok (.iload_n 0, 1) := by decide +kernel
theorem dJ6_numberOfTrailingZeros_0f7a4_13 : decode cJ6_numberOfTrailingZeros_0f7a4 13 = .ok (.bipush 32, 2) := by decide +kernel
theorem dJ6_numberOfTrailingZeros_0f7a4_15 : decode cJ6_numberOfTrailingZeros_0f7a4 15 = .ok (.iand, 1) := by decide +kernel
theorem dJ6_numberOfTrailingZeros_0f7a4_16 : decode cJ6_numberOfTrailingZeros_0f7a4 16 = .ok (.ireturn, 1) := by decide +kernel
theorem dJ6_numberOfTrailingZeros_0f7a4_17 : decode cJ6_numberOfTrailingZeros_0f7a4 17 = .ok (.iconst 1, 1) := by decide +kernel
theorem dJ6_numberOfTrailingZeros_0f7a4_18 : decode cJ6_numberOfTrailingZeros_0f7a4 18 = .ok (.istore_n 1, 1) := by decide +kernel
theorem dJ6_numberOfTrailingZeros_0f7a4_19 : decode cJ6_numberOfTrailingZeros_0f7a4 19 = .ok (.iload_n 0, 1) := by decide +kernel
theorem dJ6_numberOfTrailingZeros_0f7a4_20 : decode cJ6_numberOfTrailingZeros_0f7a4 20 = .ok (.ldc_w 264, 3) := by decide +kernel
theorem dJ6_numberOfTrailingZeros_0f7a4_23 : decode cJ6_numberOfTrailingZeros_0f7a4 23 = .ok (.if_icmp .le 11, 3) := by decide +kernel
theorem dJ6_numberOfTrailingZeros_0f7a4_26 : decode cJ6_numberOfTrailingZeros_0f7a4 26 = .ok (.iinc 1 16, 3) := by decide +kernel
theorem dJ6_numberOfTrailingZeros_0f7a4_29 : decode cJ6_numberOfTrailingZeros_0f7a4 29 = .ok (.iload_n 0, 1) := by decide +kernel
theorem dJ6_numberOfTrailingZeros_0f7a4_30 : decode cJ6_numberOfTrailingZeros_0f7a4 30 = .ok (.bipush 16, 2) := by decide +kernel
theorem dJ6_numberOfTrailingZeros_0f7a4_32 : decode cJ6_numberOfTrailingZeros_0f7a4 32 = .ok (.iushr, 1) := by decide +kernel
theorem dJ6_numberOfTrailingZeros_0f7a4_33 : decode cJ6_numberOfTrailingZeros_0f7a4 33 = .ok (.istore_n 0, 1) := by decide +kernel
theorem dJ6_numberOfTrailingZeros_0f7a4_34 : decode cJ6_numberOfTrailingZeros_0f7a4 34 = .ok (.iload_n 0, 1) := by decide +kernel
theorem dJ6_numberOfTrailingZeros_0f7a4_35 : decode cJ6_numberOfTrailingZeros_0f7a4 35 = .ok (.sipush 256, 3) := by decide +kernel
theorem dJ6_numberOfTrailingZeros_0f7a4_38 : decode cJ6_numberOfTrailingZeros_0f7a4 38 = .ok (.if_icmp .le 11, 3) := by decide +kernel
theorem dJ6_numberOfTrailingZeros_0f7a4_41 : decode cJ6_numberOfTrailingZeros_0f7a4 41 = .ok (.iinc 1 8, 3) := by decide +kernel
theorem dJ6_numberOfTrailingZeros_0f7a4_44 : decode cJ6_numberOfTrailingZeros_0f7a4 44 = .ok (.iload_n 0, 1) := by decide +kernel
theorem dJ6_numberOfTrailingZeros_0f7a4_45 : decode cJ6_numberOfTrailingZeros_0f7a4 45 = .ok (.bipush 8, 2) := by decide +kernel
theorem dJ6_numberOfTrailingZeros_0f7a4_47 : decode cJ6_numberOfTrailingZeros_0f7a4 47 = .ok (.iushr, 1) := by decide +kernel
theorem dJ6_numberOfTrailingZeros_0f7a4_48 : decode cJ6_numberOfTrailingZeros_0f7a4 48 = .ok (.istore_n 0, 1) := by decide +kernel
theorem dJ6_numberOfTrailingZeros_0f7a4_49 : decode cJ6_numberOfTrailingZeros_0f7a4 49 = .ok (.iload_n 0, 1) := by decide +kernel
theorem dJ6_numberOfTrailingZeros_0f7a4_50 : decode cJ6_numberOfTrailingZeros_0f7a4 50 = .ok (.bipush 16, 2) := by decide +kernel
theorem dJ6_numberOfTrailingZeros_0f7a4_52 : decode cJ6_numberOfTrailingZeros_0f7a4 52 = .ok (.if_icmp .le 10, 3) := by decide +kernel
theorem dJ6_numberOfTrailingZeros_0f7a4_55 : decode cJ6_numberOfTrailingZeros_0f7a4 55 = .ok (.iinc 1 4, 3) := by decide +kernel
theorem dJ6_numberOfTrailingZeros_0f7a4_58 : decode cJ6_numberOfTrailingZeros_0f7a4 58 = .ok (.iload_n 0, 1) := by decide +kernel
theorem dJ6_numberOfTrailingZeros_0f7a4_59 : decode cJ6_numberOfTrailingZeros_0f7a4 59 = .ok (.iconst 4, 1) := by decide +kernel
theorem dJ6_numberOfTrailingZeros_0f7a4_60 : decode cJ6_numberOfTrailingZeros_0f7a4 60 = .ok (.iushr, 1) := by decide +kernel
theorem dJ6_numberOfTrailingZeros_0f7a4_61 : decode cJ6_numberOfTrailingZeros_0f7a4 61 = .ok (.istore_n 0, 1) := by decide +kernel
theorem dJ6_numberOfTrailingZeros_0f7a4_62 : decode cJ6_numberOfTrailingZeros_0f7a4 62 = .ok (.iload_n 0, 1) := by decide +kernel
theorem dJ6_numberOfTrailingZeros_0f7a4_63 : decode cJ6_numberOfTrailingZeros_0f7a4 63 = .ok (.iconst 4, 1) := by decide +kernel
theorem dJ6_numberOfTrailingZeros_0f7a4_64 : decode cJ6_numberOfTrailingZeros_0f7a4 64 = .ok (.if_icmp .le 10, 3) := by decide +kernel
theorem dJ6_numberOfTrailingZeros_0f7a4_67 : decode cJ6_numberOfTrailingZeros_0f7a4 67 = .ok (.iinc 1 2, 3) := by decide +kernel
theorem dJ6_numberOfTrailingZeros_0f7a4_70 : decode cJ6_numberOfTrailingZeros_0f7a4 70 = .ok (.iload_n 0, 1) := by decide +kernel
theorem dJ6_numberOfTrailingZeros_0f7a4_71 : decode cJ6_numberOfTrailingZeros_0f7a4 71 = .ok (.iconst 2, 1) := by decide +kernel
theorem dJ6_numberOfTrailingZeros_0f7a4_72 : decode cJ6_numberOfTrailingZeros_0f7a4 72 = .ok (.iushr, 1) := by decide +kernel
theorem dJ6_numberOfTrailingZeros_0f7a4_73 : decode cJ6_numberOfTrailingZeros_0f7a4 73 = .ok (.istore_n 0, 1) := by decide +kernel
theorem dJ6_numberOfTrailingZeros_0f7a4_74 : decode cJ6_numberOfTrailingZeros_0f7a4 74 = .ok (.iload_n 1, 1) := by decide +kernel
theorem dJ6_numberOfTrailingZeros_0f7a4_75 : decode cJ6_numberOfTrailingZeros_0f7a4 75 = .ok (.iload_n 0, 1) := by decide +kernel
theorem dJ6_numberOfTrailingZeros_0f7a4_76 : decode cJ6_numberOfTrailingZeros_0f7a4 76 = .ok (.iconst 1, 1) := by decide +kernel
theorem dJ6_numberOfTrailingZeros_0f7a4_77 : decode cJ6_numberOfTrailingZeros_0f7a4 77 = .ok (.iushr, 1) := by decide +kernel
theorem dJ6_numberOfTrailingZeros_0f7a4_78 : decode cJ6_numberOfTrailingZeros_0f7a4 78 = .ok (.iadd, 1) := by decide +kernel
theorem dJ6_numberOfTrailingZeros_0f7a4_79 : decode cJ6_numberOfTrailingZeros_0f7a4 79 = .ok (.ireturn, 1) := by decide +kernel
theorem dJ6_bitCount_0f7a4_0 : decode cJ6_bitCount_0f7a4 0 = .ok (.iload_n 0, 1) := by decide +kernel
theorem dJ6_bitCount_0f7a4_1 : decode cJ6_bitCount_0f7a4 1 = .ok (.iload_n 0, 1) := by decide +kernel
theorem dJ6_bitCount_0f7a4_2 : decode cJ6_bitCount_0f7a4 2 = .ok (.iconst 1, 1) := by decide +kernel
theorem dJ6_bitCount_0f7a4_3 : decode cJ6_bitCount_0f7a4 3 = .ok (.iushr, 1) := by decide +kernel
theorem dJ6_bitCount_0f7a4_4 : decode cJ6_bitCount_0f7a4 4 = .ok (.ldc_w 265, 3) := by decide +kernel
theorem dJ6_bitCount_0f7a4_7 : decode cJ6_bitCount_0f7a4 7 = .ok (.iand, 1) := by decide +kernel
theorem dJ6_bitCount_0f7a4_8 : decode cJ6_bitCount_0f7a4 8 = .ok (.isub, 1) := by decide +kernel
theorem dJ6_bitCount_0f7a4_9 : decode cJ6_bitCount_0f7a4 9 = .ok (.istore_n 0, 1) := by decide +kernel
theorem dJ6_bitCount_0f7a4_10 : decode cJ6_bitCount_0f7a4 10 = .ok (.iload_n 0, 1) := by decide +kernel
theorem dJ6_bitCount_0f7a4_11 : decode cJ6_bitCount_0f7a4 11 = .ok (.ldc_w 266, 3) := by decide +kernel
theorem dJ6_bitCount_0f7a4_14 : decode cJ6_bitCount_0f7a4 14 = .ok (.iand, 1) := by decide +kernel
theorem dJ6_bitCount_0f7a4_15 : decode cJ6_bitCount_0f7a4 15 = .ok (.iload_n 0, 1) := by decide +kernel
theorem dJ6_bitCount_0f7a4_16 : decode cJ6_bitCount_0f7a4 16 = .ok (.iconst 2, 1) := by decide +kernel
theorem dJ6_bitCount_0f7a4_17 : decode cJ6_bitCount_0f7a4 17 = .ok (.iushr, 1) := by decide +kernel
theorem dJ6_bitCount_0f7a4_18 : decode cJ6_bitCount_0f7a4 18 = .ok (.ldc_w 266, 3) := by decide +kernel
theorem dJ6_bitCount_0f7a4_21 : decode cJ6_bitCount_0f7a4 21 = .ok (.iand, 1) := by decide +kernel
theorem dJ6_bitCount_0f7a4_22 : decode cJ6_bitCount_0f7a4 22 = .ok (.iadd, 1) := by decide +kernel
theorem dJ6_bitCount_0f7a4_23 : decode cJ6_bitCount_0f7a4 23 = .ok (.istore_n 0, 1) := by decide +kernel
theorem dJ6_bitCount_0f7a4_24 : decode cJ6_bitCount_0f7a4 24 = .ok (.iload_n 0, 1) := by decide +kernel
theorem dJ6_bitCount_0f7a4_25 : decode cJ6_bitCount_0f7a4 25 = .ok (.iload_n 0, 1) := by decide +kernel
theorem dJ6_bitCount_0f7a4_26 : decode cJ6_bitCount_0f7a4 26 = .ok (.iconst 4, 1) := by decide +kernel
theorem dJ6_bitCount_0f7a4_27 : decode cJ6_bitCount_0f7a4 27 = .ok (.iushr, 1) := by decide +kernel
theorem dJ6_bitCount_0f7a4_28 : decode cJ6_bitCount_0f7a4 28 = .ok (.iadd, 1) := by decide +kernel
theorem dJ6_bitCount_0f7a4_29 : decode cJ6_bitCount_0f7a4 29 = .ok (.ldc_w 267, 3) := by decide +kernel
theorem dJ6_bitCount_0f7a4_32 : decode cJ6_bitCount_0f7a4 32 = .ok (.iand, 1) := by decide +kernel
theorem dJ6_bitCount_0f7a4_33 : decode cJ6_bitCount_0f7a4 33 = .ok (.istore_n 0, 1) := by decide +kernel
theorem dJ6_bitCount_0f7a4_34 : decode cJ6_bitCount_0f7a4 34 = .ok (.iload_n 0, 1) := by decide +kernel
theorem dJ6_bitCount_0f7a4_35 : decode cJ6_bitCount_0f7a4 35 = .ok (.iload_n 0, 1) := by decide +kernel
theorem dJ6_bitCount_0f7a4_36 : decode cJ6_bitCount_0f7a4 36 = .ok (.bipush 8, 2) := by decide +kernel
theorem dJ6_bitCount_0f7a4_38 : decode cJ6_bitCount_0f7a4 38 = .ok (.iushr, 1) := by decide +kernel
theorem dJ6_bitCount_0f7a4_39 : decode cJ6_bitCount_0f7a4 39 = .ok (.iadd, 1) := by decide +kernel
theorem dJ6_bitCount_0f7a4_40 : decode cJ6_bitCount_0f7a4 40 = .ok (.istore_n 0, 1) := by decide +kernel
theorem dJ6_bitCount_0f7a4_41 : decode cJ6_bitCount_0f7a4 41 = .ok (.iload_n 0, 1) := by decide +kernel
theorem dJ6_bitCount_0f7a4_42 : decode cJ6_bitCount_0f7a4 42 = .ok (.iload_n 0, 1) := by decide +kernel
theorem dJ6_bitCount_0f7a4_43 : decode cJ6_bitCount_0f7a4 43 = .ok (.bipush 16, 2) := by decide +kernel
theorem dJ6_bitCount_0f7a4_45 : decode cJ6_bitCount_0f7a4 45 = .ok (.iushr, 1) := by decide +kernel
theorem dJ6_bitCount_0f7a4_46 : decode cJ6_bitCount_0f7a4 46 = .ok (.iadd, 1) := by decide +kernel
theorem dJ6_bitCount_0f7a4_47 : decode cJ6_bitCount_0f7a4 47 = .ok (.istore_n 0, 1) := by decide +kernel
theorem dJ6_bitCount_0f7a4_48 : decode cJ6_bitCount_0f7a4 48 = .ok (.iload_n 0, 1) := by decide +kernel
theorem dJ6_bitCount_0f7a4_49 : decode cJ6_bitCount_0f7a4 49 = .ok (.bipush 63, 2) := by decide +kernel
theorem dJ6_bitCount_0f7a4_51 : decode cJ6_bitCount_0f7a4 51 = .ok (.iand, 1) := by decide +kernel
theorem dJ6_bitCount_0f7a4_52 : decode cJ6_bitCount_0f7a4 52 = .ok (.ireturn, 1) := by decide +kernel
theorem dJ9_max_7cf53_0 : decode cJ9_max_7cf53 0 = .ok (.iload_n 0, 1) := by decide +kernel
theorem dJ9_max_7cf53_1 : decode cJ9_max_7cf53 1 = .ok (.iload_n 1, 1) := by decide +kernel
theorem dJ9_max_7cf53_2 : decode cJ9_max_7cf53 2 = .ok (.if_icmp .lt 7, 3) := by decide +kernel
theorem dJ9_max_7cf53_5 : decode cJ9_max_7cf53 5 = .ok (.iload_n 0, 1) := by decide +kernel
theorem dJ9_max_7cf53_6 : decode cJ9_max_7cf53 6 = .ok (.goto 4, 3) := by decide +kernel
theorem dJ9_max_7cf53_9 : decode cJ9_max_7cf53 9 = .ok (.iload_n 1, 1) := by decide +kernel
theorem dJ9_max_7cf53_10 : decode cJ9_max_7cf53 10 = .ok (.ireturn, 1) := by decide +kernel
theorem dJ9_min_7cf53_0 : decode cJ9_min_7cf53 0 = .ok (.iload_n 0, 1) := by decide +kernel
theorem dJ9_min_7cf53_1 : decode cJ9_min_7cf53 1 = .ok (.iload_n 1, 1) := by decide +kernel
theorem dJ9_min_7cf53_2 : decode cJ9_min_7cf53 2 = .ok (.if_icmp .gt 7, 3) := by decide +kernel
theorem dJ9_min_7cf53_5 : decode cJ9_min_7cf53 5 = .ok (.iload_n 0, 1) := by decide +kernel
theorem dJ9_min_7cf53_6 : decode cJ9_min_7cf53 6 = .ok (.goto 4, 3) := by decide +kernel
theorem dJ9_min_7cf53_9 : decode cJ9_min_7cf53 9 = .ok (.iload_n 1, 1) := by decide +kernel
theorem dJ9_min_7cf53_10 : decode cJ9_min_7cf53 10 = .ok (.ireturn, 1) := by decide +kernel
theorem dJ0_length_8abf5_0 : decode cJ0_length_8abf5 0 = .ok (.aload_n 0, 1) := by decide +kernel
theorem dJ0_length_8abf5_1 : decode cJ0_length_8abf5 1 = .ok (.getfield 9, 3) := by decide +kernel
theorem dJ0_length_8abf5_4 : decode cJ0_length_8abf5 4 = .ok (.arraylength, 1) := by decide +kernel
theorem dJ0_length_8abf5_5 : decode cJ0_length_8abf5 5 = .ok (.aload_n 0, 1) := by decide +kernel
theorem dJ0_length_8abf5_6 : decode cJ0_length_8abf5 6 = .ok (.invokevirtual 335, 3) := by decide +kernel
theorem dJ0_length_8abf5_9 : decode cJ0_length_8abf5 9 = .ok (.ishr, 1) := by decide +kernel
theorem dJ0_length_8abf5_10 : decode cJ0_length_8abf5 10 = .ok (.ireturn, 1) := by decide +kernel
theorem dJ0_charAt_5068e_0 : decode cJ0_charAt_5068e 0 = .ok (.aload_n 0, 1) := by decide +kernel
theorem dJ0_charAt_5068e_1 : decode cJ0_charAt_5068e 1 = .ok (.invokevirtual 492, 3) := by decide +kernel
theorem dJ0_charAt_5068e_4 : decode cJ0_charAt_5068e 4 = .ok (.ifCond .eq 12, 3) := by decide +kernel
theorem dJ0_charAt_5068e_7 : decode cJ0_charAt_5068e 7 = .ok (.aload_n 0, 1) := by decide +kernel
theorem dJ0_charAt_5068e_8 : decode cJ0_charAt_5068e 8 = .ok (.getfield 9, 3) := by decide +kernel
theorem dJ0_charAt_5068e_11 : decode cJ0_charAt_5068e 11 = .ok (.iload_n 1, 1) := by decide +kernel
theorem dJ0_charAt_5068e_12 : decode cJ0_charAt_5068e 12 = .ok (.invokestatic 495, 3) := by decide +kernel
theorem dJ0_charAt_5068e_15 : decode cJ0_charAt_5068e 15 = .ok (.ireturn, 1) := by decide +kernel
theorem dJ0_charAt_5068e_16 : decode cJ0_charAt_5068e 16 = .ok (.aload_n 0, 1) := by decide +kernel
theorem dJ0_charAt_5068e_17 : decode cJ0_charAt_5068e 17 = .ok (.getfield 9, 3) := by decide +kernel
theorem dJ0_charAt_5068e_20 : decode cJ0_charAt_5068e 20 = .ok (.iload_n 1, 1) := by decide +kernel
theorem dJ0_charAt_5068e_21 : decode cJ0_charAt_5068e 21 = .ok (.invokestatic 498, 3) := by decide +kernel
theorem dJ0_charAt_5068e_24 : decode cJ0_charAt_5068e 24 = .ok (.ireturn, 1) := by decide +kernel
theorem dJ0_coder_7d493_0 : decode cJ0_coder_7d493 0 = .ok (.getstatic 38, 3) := by decide +kernel
theorem dJ0_coder_7d493_3 : decode cJ0_coder_7d493 3 = .ok (.ifCond .eq 10, 3) := by decide +kernel
theorem dJ0_coder_7d493_6 : decode cJ0_coder_7d493 6 = .ok (.aload_n 0, 1) := by decide +kernel
theorem dJ0_coder_7d493_7 : decode cJ0_coder_7d493 7 = .ok (.getfield 15, 3) := by decide +kernel
theorem dJ0_coder_7d493_10 : decode cJ0_coder_7d493 10 = .ok (.goto 4, 3) := by decide +kernel
theorem dJ0_coder_7d493_13 : decode cJ0_coder_7d493 13 = .ok (.iconst 1, 1) := by decide +kernel
theorem dJ0_coder_7d493_14 : decode cJ0_coder_7d493 14 = .ok (.ireturn, 1) := by decide +kernel
theorem dJ0_isLatin1_aae02_0 : decode cJ0_isLatin1_aae02 0 = .ok (.getstatic 38, 3) := by decide +kernel
theorem dJ0_isLatin1_aae02_3 : decode cJ0_isLatin1_aae02 3 = .ok (.ifCond .eq 14, 3) := by decide +kernel
theorem dJ0_isLatin1_aae02_6 : decode cJ0_isLatin1_aae02 6 = .ok (.aload_n 0, 1) := by decide +kernel
theorem dJ0_isLatin1_aae02_7 : decode cJ0_isLatin1_aae02 7 = .ok (.getfield 15, 3) := by decide +kernel
theorem dJ0_isLatin1_aae02_10 : decode cJ0_isLatin1_aae02 10 = .ok (.ifCond .ne 7, 3) := by decide +kernel
theorem dJ0_isLatin1_aae02_13 : decode cJ0_isLatin1_aae02 13 = .ok (.iconst 1, 1) := by decide +kernel
theorem dJ0_isLatin1_aae02_14 : decode cJ0_isLatin1_aae02 14 = .ok (.goto 4, 3) := by decide +kernel
theorem dJ0_isLatin1_aae02_17 : decode cJ0_isLatin1_aae02 17 = .ok (.iconst 0, 1) := by decide +kernel
theorem dJ0_isLatin1_aae02_18 : decode cJ0_isLatin1_aae02 18 = .ok (.ireturn, 1) := by decide +kernel
theorem dJ0_checkIndex_df160_0 : decode cJ0_checkIndex_df160 0 = .ok (.iload_n 0, 1) := by decide +kernel
theorem dJ0_checkIndex_df160_1 : decode cJ0_checkIndex_df160 1 = .ok (.iload_n 1, 1) := by decide +kernel
theorem dJ0_checkIndex_df160_2 : decode cJ0_checkIndex_df160 2 = .ok (.getstatic 1053, 3) := by decide +kernel
theorem dJ0_checkIndex_df160_5 : decode cJ0_checkIndex_df160 5 = .ok (.invokestatic 1059, 3) := by decide +kernel
theorem dJ0_checkIndex_df160_8 : decode cJ0_checkIndex_df160 8 = .ok (.pop, 1) := by decide +kernel
theorem dJ0_checkIndex_df160_9 : decode cJ0_checkIndex_df160 9 = .ok (.return_, 1) := by decide +kernel
theorem dJ1_charAt_3b067_0 : decode cJ1_charAt_3b067 0 = .ok (.iload_n 1, 1) := by decide +kernel
theorem dJ1_charAt_3b067_1 : decode cJ1_charAt_3b067 1 = .ok (.aload_n 0, 1) := by decide +kernel
theorem dJ1_charAt_3b067_2 : decode cJ1_charAt_3b067 2 = .ok (.arraylength, 1) := by decide +kernel
theorem dJ1_charAt_3b067_3 : decode cJ1_charAt_3b067 3 = .ok (.invokestatic 9, 3) := by decide +kernel
theorem dJ1_charAt_3b067_6 : decode cJ1_charAt_3b067 6 = .ok (.aload_n 0, 1) := by decide +kernel
theorem dJ1_charAt_3b067_7 : decode cJ1_charAt_3b067 7 = .ok (.iload_n 1, 1) := by decide +kernel
theorem dJ1_charAt_3b067_8 : decode cJ1_charAt_3b067 8 = .ok (.baload, 1) := by decide +kernel
theorem dJ1_charAt_3b067_9 : decode cJ1_charAt_3b067 9 = .ok (.sipush 255, 3) := by decide +kernel
theorem dJ1_charAt_3b067_12 : decode cJ1_charAt_3b067 12 = .ok (.iand, 1) := by decide +kernel
theorem dJ1_charAt_3b067_13 : decode cJ1_charAt_3b067 13 = .ok (.i2c, 1) := by decide +kernel
theorem dJ1_charAt_3b067_14 : decode cJ1_charAt_3b067 14 = .ok (.ireturn, 1) := by decide +kernel
theorem dJ2_getChar_3b067_0 : decode cJ2_getChar_3b067 0 = .ok (.getstatic 44, 3) := by decide +kernel
theorem dJ2_getChar_3b067_3 : decode cJ2_getChar_3b067 3 = .ok (.ifCond .ne 25, 3) := by decide +kernel
theorem dJ2_getChar_3b067_6 : decode cJ2_getChar_3b067 6 = .ok (.iload_n 1, 1) := by decide +kernel
theorem dJ2_getChar_3b067_7 : decode cJ2_getChar_3b067 7 = .ok (.ifCond .lt 11, 3) := by decide +kernel
theorem dJ2_getChar_3b067_10 : decode cJ2_getChar_3b067 10 = .ok (.iload_n 1, 1) := by decide +kernel
theorem dJ2_getChar_3b067_11 : decode cJ2_getChar_3b067 11 = .ok (.aload_n 0, 1) := by decide +kernel
theorem dJ2_getChar_3b067_12 : decode cJ2_getChar_3b067 12 = .ok (.invokestatic 48, 3) := by decide +kernel
theorem dJ2_getChar_3b067_15 : decode cJ2_getChar_3b067 15 = .ok (.if_icmp .lt 13, 3) := by decide +kernel
theorem dJ2_getChar_3b067_18 : decode cJ2_getChar_3b067 18 = .ok (.new 52, 3) := by decide +kernel
theorem dJ2_getChar_3b067_21 : decode cJ2_getChar_3b067 21 = .ok (.dup, 1) := by decide +kernel
theorem dJ2_getChar_3b067_22 : decode cJ2_getChar_3b067 22 = .ok (.ldc 54, 2) := by decide +kernel
theorem dJ2_getChar_3b067_24 : decode cJ2_getChar_3b067 24 = .ok (.invokespecial 56, 3) := by decide +kernel
theorem dJ2_getChar_3b067_27 : decode cJ2_getChar_3b067 27 = .ok (.athrow, 1) := by decide +kernel
theorem dJ2_getChar_3b067_28 : decode cJ2_getChar_3b067 28 = .ok (.iload_n 1, 1) := by decide +kernel
theorem dJ2_getChar_3b067_29 : decode cJ2_getChar_3b067 29 = .ok (.iconst 1, 1) := by decide +kernel
theorem dJ2_getChar_3b067_30 : decode cJ2_getChar_3b067 30 = .ok (.ishl, 1) := by decide +kernel
theorem dJ2_getChar_3b067_31 : decode cJ2_getChar_3b067 31 = .ok (.istore_n 1, 1) := by decide +kernel
theorem dJ2_getChar_3b067_32 : decode cJ2_getChar_3b067 32 = .ok (.aload_n 0, 1) := by decide +kernel
theorem dJ2_getChar_3b067_33 : decode cJ2_getChar_3b067 33 = .ok (.iload_n 1, 1) := by decide +kernel
theorem dJ2_getChar_3b067_34 : decode cJ2_getChar_3b067 34 = .ok (.iinc 1 1, 3) := by decide +kernel
theorem dJ2_getChar_3b067_37 : decode cJ2_getChar_3b067 37 = .ok (.baload, 1) := by decide +kernel
theorem dJ2_getChar_3b067_38 : decode cJ2_getChar_3b067 38 = .ok (.sipush 255, 3) := by decide +kernel
theorem dJ2_getChar_3b067_41 : decode cJ2_getChar_3b067 41 = .ok (.iand, 1) := by decide +kernel
theorem dJ2_getChar_3b067_42 : decode cJ2_getChar_3b067 42 = .ok (.getstatic 59, 3) := by decide +kernel
theorem dJ2_getChar_3b067_45 : decode cJ2_getChar_3b067 45 = .ok (.ishl, 1) := by decide +kernel
theorem dJ2_getChar_3b067_46 : decode cJ2_getChar_3b067 46 = .ok (.aload_n 0, 1) := by decide +kernel
theorem dJ2_getChar_3b067_47 : decode cJ2_getChar_3b067 47 = .ok (.iload_n 1, 1) := by decide +kernel
theorem dJ2_getChar_3b067_48 : decode cJ2_getChar_3b067 48 = .ok (.baload, 1) := by decide +kernel
theorem dJ2_getChar_3b067_49 : decode cJ2_getChar_3b067 49 = .ok (.sipush 255, 3) := by decide +kernel
theorem dJ2_getChar_3b067_52 : decode cJ2_getChar_3b067 52 = .ok (.iand, 1) := by decide +kernel
theorem dJ2_getChar_3b067_53 : decode cJ2_getChar_3b067 53 = .ok (.getstatic 63, 3) := by decide +kernel
theorem dJ2_getChar_3b067_56 : decode cJ2_getChar_3b067 56 = .ok (.ishl, 1) := by decide +kernel
theorem dJ2_getChar_3b067_57 : decode cJ2_getChar_3b067 57 = .ok (.ior, 1) := by decide +kernel
theorem dJ2_getChar_3b067_58 : decode cJ2_getChar_3b067 58 = .ok (.i2c, 1) := by decide +kernel
theorem dJ2_getChar_3b067_59 : decode cJ2_getChar_3b067 59 = .ok (.ireturn, 1) := by decide +kernel
theorem dJ2_length_9d52b_0 : decode cJ2_length_9d52b 0 = .ok (.aload_n 0, 1) := by decide +kernel
theorem dJ2_length_9d52b_1 : decode cJ2_length_9d52b 1 = .ok (.arraylength, 1) := by decide +kernel
theorem dJ2_length_9d52b_2 : decode cJ2_length_9d52b 2 = .ok (.iconst 1, 1) := by decide +kernel
theorem dJ2_length_9d52b_3 : decode cJ2_length_9d52b 3 = .ok (.ishr, 1) := by decide +kernel
theorem dJ2_length_9d52b_4 : decode cJ2_length_9d52b 4 = .ok (.ireturn, 1) := by decide +kernel
theorem dJ2_charAt_3b067_0 : decode cJ2_charAt_3b067 0 = .ok (.iload_n 1, 1) := by decide +kernel
theorem dJ2_charAt_3b067_1 : decode cJ2_charAt_3b067 1 = .ok (.aload_n 0, 1) := by decide +kernel
theorem dJ2_charAt_3b067_2 : decode cJ2_charAt_3b067 2 = .ok (.invokestatic 67, 3) := by decide +kernel
theorem dJ2_charAt_3b067_5 : decode cJ2_charAt_3b067 5 = .ok (.aload_n 0, 1) := by decide +kernel
theorem dJ2_charAt_3b067_6 : decode cJ2_charAt_3b067 6 = .ok (.iload_n 1, 1) := by decide +kernel
theorem dJ2_charAt_3b067_7 : decode cJ2_charAt_3b067 7 = .ok (.invokestatic 71, 3) := by decide +kernel
theorem dJ2_charAt_3b067_10 : decode cJ2_charAt_3b067 10 = .ok (.ireturn, 1) := by decide +kernel
theorem dJ2_checkIndex_2214a_0 : decode cJ2_checkIndex_2214a 0 = .ok (.iload_n 0, 1) := by decide +kernel
theorem dJ2_checkIndex_2214a_1 : decode cJ2_checkIndex_2214a 1 = .ok (.aload_n 1, 1) := by decide +kernel
theorem dJ2_checkIndex_2214a_2 : decode cJ2_checkIndex_2214a 2 = .ok (.invokestatic 48, 3) := by decide +kernel
theorem dJ2_checkIndex_2214a_5 : decode cJ2_checkIndex_2214a 5 = .ok (.invokestatic 414, 3) := by decide +kernel
theorem dJ2_checkIndex_2214a_8 : decode cJ2_checkIndex_2214a 8 = .ok (.return_, 1) := by decide +kernel
theorem dJ3_checkIndex_8e157_0 : decode cJ3_checkIndex_8e157 0 = .ok (.iload_n 0, 1) := by decide +kernel
theorem dJ3_checkIndex_8e157_1 : decode cJ3_checkIndex_8e157 1 = .ok (.ifCond .lt 8, 3) := by decide +kernel
theorem dJ3_checkIndex_8e157_4 : decode cJ3_checkIndex_8e157 4 = .ok (.iload_n 0, 1) := by decide +kernel
theorem dJ3_checkIndex_8e157_5 : decode cJ3_checkIndex_8e157 5 = .ok (.iload_n 1, 1) := by decide +kernel
theorem dJ3_checkIndex_8e157_6 : decode cJ3_checkIndex_8e157 6 = .ok (.if_icmp .lt 10, 3) := by decide +kernel
theorem dJ3_checkIndex_8e157_9 : decode cJ3_checkIndex_8e157 9 = .ok (.aload_n 2, 1) := by decide +kernel
theorem dJ3_checkIndex_8e157_10 : decode cJ3_checkIndex_8e157 10 = .ok (.iload_n 0, 1) := by decide +kernel
theorem dJ3_checkIndex_8e157_11 : decode cJ3_checkIndex_8e157 11 = .ok (.iload_n 1, 1) := by decide +kernel
theorem dJ3_checkIndex_8e157_12 : decode cJ3_checkIndex_8e157 12 = .ok (.invokestatic 95, 3) := by decide +kernel
theorem dJ3_checkIndex_8e157_15 : decode cJ3_checkIndex_8e157 15 = .ok (.athrow, 1) := by decide +kernel
theorem dJ3_checkIndex_8e157_16 : decode cJ3_checkIndex_8e157 16 = .ok (.iload_n 0, 1) := by decide +kernel
theorem dJ3_checkIndex_8e157_17 : decode cJ3_checkIndex_8e157 17 = .ok (.ireturn, 1) := by decide +kernel
theorem dL_row_0 : decode cL_row 0 = .ok (.aload_n 3, 1) := by decide +kernel
theorem dL_row_1 : decode cL_row 1 = .ok (.iconst 0, 1) := by decide +kernel
theorem dL_row_2 : decode cL_row 2 = .ok (.aload_n 0, 1) := by decide +kernel
theorem dL_row_3 : decode cL_row 3 = .ok (.iload_n 1, 1) := by decide +kernel
theorem dL_row_4 : decode cL_row 4 = .ok (.iload_n 2, 1) := by decide +kernel
theorem dL_row_5 : decode cL_row 5 = .ok (.invokevirtual 7, 3) := by decide +kernel
theorem dL_row_8 : decode cL_row 8 = .ok (.i2l, 1) := by decide +kernel
theorem dL_row_9 : decode cL_row 9 = .ok (.lastore, 1) := by decide +kernel
theorem dL_row_10 : decode cL_row 10 = .ok (.goto 7, 3) := by decide +kernel
theorem dL_row_13 : decode cL_row 13 = .ok (.astore 4, 2) := by decide +kernel
theorem dL_row_15 : decode cL_row 15 = .ok (.iconst 1, 1) := by decide +kernel
theorem dL_row_16 : decode cL_row 16 = .ok (.ireturn, 1) := by decide +kernel
theorem dL_row_17 : decode cL_row 17 = .ok (.iconst 0, 1) := by decide +kernel
theorem dL_row_18 : decode cL_row 18 = .ok (.ireturn, 1) := by decide +kernel
theorem dL_law_0 : decode cL_law 0 = .ok (.new 8, 3) := by decide +kernel
theorem dL_law_3 : decode cL_law 3 = .ok (.dup, 1) := by decide +kernel
theorem dL_law_4 : decode cL_law 4 = .ok (.invokespecial 15, 3) := by decide +kernel
theorem dL_law_7 : decode cL_law 7 = .ok (.astore_n 1, 1) := by decide +kernel
theorem dL_law_8 : decode cL_law 8 = .ok (.new 16, 3) := by decide +kernel
theorem dL_law_11 : decode cL_law 11 = .ok (.dup, 1) := by decide +kernel
theorem dL_law_12 : decode cL_law 12 = .ok (.invokespecial 18, 3) := by decide +kernel
theorem dL_law_15 : decode cL_law 15 = .ok (.astore_n 2, 1) := by decide +kernel
theorem dL_law_16 : decode cL_law 16 = .ok (.iconst 1, 1) := by decide +kernel
theorem dL_law_17 : decode cL_law 17 = .ok (.newarray .long, 2) := by decide +kernel
theorem dL_law_19 : decode cL_law 19 = .ok (.astore_n 3, 1) := by decide +kernel
theorem dL_law_20 : decode cL_law 20 = .ok (.iconst 0, 1) := by decide +kernel
theorem dL_law_21 : decode cL_law 21 = .ok (.istore 4, 2) := by decide +kernel
theorem dL_law_23 : decode cL_law 23 = .ok (.iload 4, 2) := by decide +kernel
theorem dL_law_25 : decode cL_law 25 = .ok (.aload_n 0, 1) := by decide +kernel
theorem dL_law_26 : decode cL_law 26 = .ok (.arraylength, 1) := by decide +kernel
theorem dL_law_27 : decode cL_law 27 = .ok (.bipush 6, 2) := by decide +kernel
theorem dL_law_29 : decode cL_law 29 = .ok (.isub, 1) := by decide +kernel
theorem dL_law_30 : decode cL_law 30 = .ok (.if_icmp .gt 1761, 3) := by decide +kernel
theorem dL_law_33 : decode cL_law 33 = .ok (.aload_n 0, 1) := by decide +kernel
theorem dL_law_34 : decode cL_law 34 = .ok (.iload 4, 2) := by decide +kernel
theorem dL_law_36 : decode cL_law 36 = .ok (.iaload, 1) := by decide +kernel
theorem dL_law_37 : decode cL_law 37 = .ok (.bipush 63, 2) := by decide +kernel
theorem dL_law_39 : decode cL_law 39 = .ok (.iand, 1) := by decide +kernel
theorem dL_law_40 : decode cL_law 40 = .ok (.tableswitch 1745 0 41 #[184, 257, 294, 307, 320, 357, 394, 443, 492, 529, 566, 615, 652, 689, 726, 763, 800, 849, 886, 923, 960, 997, 1046, 1083, 1120, 1157, 1182, 1219, 1244, 1305, 1354, 1403, 1440, 1477, 1502, 1539, 1588, 1601, 1626, 1651, 1719, 1732], 184) := by decide +kernel
theorem dL_law_224 : decode cL_law 224 = .ok (.aload_n 1, 1) := by decide +kernel
theorem dL_law_225 : decode cL_law 225 = .ok (.aload_n 0, 1) := by decide +kernel
theorem dL_law_226 : decode cL_law 226 = .ok (.iload 4, 2) := by decide +kernel
theorem dL_law_228 : decode cL_law 228 = .ok (.iconst 1, 1) := by decide +kernel
theorem dL_law_229 : decode cL_law 229 = .ok (.iadd, 1) := by decide +kernel
theorem dL_law_230 : decode cL_law 230 = .ok (.iaload, 1) := by decide +kernel
theorem dL_law_231 : decode cL_law 231 = .ok (.aload_n 0, 1) := by decide +kernel
theorem dL_law_232 : decode cL_law 232 = .ok (.iload 4, 2) := by decide +kernel
theorem dL_law_234 : decode cL_law 234 = .ok (.iconst 2, 1) := by decide +kernel
theorem dL_law_235 : decode cL_law 235 = .ok (.iadd, 1) := by decide +kernel
theorem dL_law_236 : decode cL_law 236 = .ok (.iaload, 1) := by decide +kernel
theorem dL_law_237 : decode cL_law 237 = .ok (.aload_n 0, 1) := by decide +kernel
theorem dL_law_238 : decode cL_law 238 = .ok (.iload 4, 2) := by decide +kernel
theorem dL_law_240 : decode cL_law 240 = .ok (.iconst 3, 1) := by decide +kernel
theorem dL_law_241 : decode cL_law 241 = .ok (.iadd, 1) := by decide +kernel
theorem dL_law_242 : decode cL_law 242 = .ok (.iaload, 1) := by decide +kernel
theorem dL_law_243 : decode cL_law 243 = .ok (.aload_n 0, 1) := by decide +kernel
theorem dL_law_244 : decode cL_law 244 = .ok (.iload 4, 2) := by decide +kernel
theorem dL_law_246 : decode cL_law 246 = .ok (.iconst 4, 1) := by decide +kernel
theorem dL_law_247 : decode cL_law 247 = .ok (.iadd, 1) := by decide +kernel
theorem dL_law_248 : decode cL_law 248 = .ok (.iaload, 1) := by decide +kernel
theorem dL_law_249 : decode cL_law 249 = .ok (.aload_n 0, 1) := by decide +kernel
theorem dL_law_250 : decode cL_law 250 = .ok (.iload 4, 2) := by decide +kernel
theorem dL_law_252 : decode cL_law 252 = .ok (.iconst 5, 1) := by decide +kernel
theorem dL_law_253 : decode cL_law 253 = .ok (.iadd, 1) := by decide +kernel
theorem dL_law_254 : decode cL_law 254 = .ok (.iaload, 1) := by decide +kernel
theorem dL_law_255 : decode cL_law 255 = .ok (.invokevirtual 19, 3) := by decide +kernel
theorem dL_law_258 : decode cL_law 258 = .ok (.aload_n 2, 1) := by decide +kernel
theorem dL_law_259 : decode cL_law 259 = .ok (.aload_n 0, 1) := by decide +kernel
theorem dL_law_260 : decode cL_law 260 = .ok (.iload 4, 2) := by decide +kernel
theorem dL_law_262 : decode cL_law 262 = .ok (.iconst 1, 1) := by decide +kernel
theorem dL_law_263 : decode cL_law 263 = .ok (.iadd, 1) := by decide +kernel
theorem dL_law_264 : decode cL_law 264 = .ok (.iaload, 1) := by decide +kernel
theorem dL_law_265 : decode cL_law 265 = .ok (.aload_n 0, 1) := by decide +kernel
theorem dL_law_266 : decode cL_law 266 = .ok (.iload 4, 2) := by decide +kernel
theorem dL_law_268 : decode cL_law 268 = .ok (.iconst 2, 1) := by decide +kernel
theorem dL_law_269 : decode cL_law 269 = .ok (.iadd, 1) := by decide +kernel
theorem dL_law_270 : decode cL_law 270 = .ok (.iaload, 1) := by decide +kernel
theorem dL_law_271 : decode cL_law 271 = .ok (.aload_n 0, 1) := by decide +kernel
theorem dL_law_272 : decode cL_law 272 = .ok (.iload 4, 2) := by decide +kernel
theorem dL_law_274 : decode cL_law 274 = .ok (.iconst 3, 1) := by decide +kernel
theorem dL_law_275 : decode cL_law 275 = .ok (.iadd, 1) := by decide +kernel
theorem dL_law_276 : decode cL_law 276 = .ok (.iaload, 1) := by decide +kernel
theorem dL_law_277 : decode cL_law 277 = .ok (.aload_n 0, 1) := by decide +kernel
theorem dL_law_278 : decode cL_law 278 = .ok (.iload 4, 2) := by decide +kernel
theorem dL_law_280 : decode cL_law 280 = .ok (.iconst 4, 1) := by decide +kernel
theorem dL_law_281 : decode cL_law 281 = .ok (.iadd, 1) := by decide +kernel
theorem dL_law_282 : decode cL_law 282 = .ok (.iaload, 1) := by decide +kernel
theorem dL_law_283 : decode cL_law 283 = .ok (.aload_n 0, 1) := by decide +kernel
theorem dL_law_284 : decode cL_law 284 = .ok (.iload 4, 2) := by decide +kernel
theorem dL_law_286 : decode cL_law 286 = .ok (.iconst 5, 1) := by decide +kernel
theorem dL_law_287 : decode cL_law 287 = .ok (.iadd, 1) := by decide +kernel
theorem dL_law_288 : decode cL_law 288 = .ok (.iaload, 1) := by decide +kernel
theorem dL_law_289 : decode cL_law 289 = .ok (.invokevirtual 23, 3) := by decide +kernel
theorem dL_law_292 : decode cL_law 292 = .ok (.if_icmp .eq 1493, 3) := by decide +kernel
theorem dL_law_295 : decode cL_law 295 = .ok (.iconst 0, 1) := by decide +kernel
theorem dL_law_296 : decode cL_law 296 = .ok (.ireturn, 1) := by decide +kernel
theorem dL_law_297 : decode cL_law 297 = .ok (.aload_n 1, 1) := by decide +kernel
theorem dL_law_298 : decode cL_law 298 = .ok (.aload_n 0, 1) := by decide +kernel
theorem dL_law_299 : decode cL_law 299 = .ok (.iload 4, 2) := by decide +kernel
theorem dL_law_301 : decode cL_law 301 = .ok (.iconst 1, 1) := by decide +kernel
theorem dL_law_302 : decode cL_law 302 = .ok (.iadd, 1) := by decide +kernel
theorem dL_law_303 : decode cL_law 303 = .ok (.iaload, 1) := by decide +kernel
theorem dL_law_304 : decode cL_law 304 = .ok (.aload_n 0, 1) := by decide +kernel
theorem dL_law_305 : decode cL_law 305 = .ok (.iload 4, 2) := by decide +kernel
theorem dL_law_307 : decode cL_law 307 = .ok (.iconst 2, 1) := by decide +kernel
theorem dL_law_308 : decode cL_law 308 = .ok (.iadd, 1) := by decide +kernel
theorem dL_law_309 : decode cL_law 309 = .ok (.iaload, 1) := by decide +kernel
theorem dL_law_310 : decode cL_law 310 = .ok (.invokevirtual 24, 3) := by decide +kernel
theorem dL_law_313 : decode cL_law 313 = .ok (.aload_n 2, 1) := by decide +kernel
theorem dL_law_314 : decode cL_law 314 = .ok (.aload_n 0, 1) := by decide +kernel
theorem dL_law_315 : decode cL_law 315 = .ok (.iload 4, 2) := by decide +kernel
theorem dL_law_317 : decode cL_law 317 = .ok (.iconst 1, 1) := by decide +kernel
theorem dL_law_318 : decode cL_law 318 = .ok (.iadd, 1) := by decide +kernel
theorem dL_law_319 : decode cL_law 319 = .ok (.iaload, 1) := by decide +kernel
theorem dL_law_320 : decode cL_law 320 = .ok (.aload_n 0, 1) := by decide +kernel
theorem dL_law_321 : decode cL_law 321 = .ok (.iload 4, 2) := by decide +kernel
theorem dL_law_323 : decode cL_law 323 = .ok (.iconst 2, 1) := by decide +kernel
theorem dL_law_324 : decode cL_law 324 = .ok (.iadd, 1) := by decide +kernel
theorem dL_law_325 : decode cL_law 325 = .ok (.iaload, 1) := by decide +kernel
theorem dL_law_326 : decode cL_law 326 = .ok (.invokevirtual 27, 3) := by decide +kernel
theorem dL_law_329 : decode cL_law 329 = .ok (.if_icmp .eq 1456, 3) := by decide +kernel
theorem dL_law_332 : decode cL_law 332 = .ok (.iconst 0, 1) := by decide +kernel
theorem dL_law_333 : decode cL_law 333 = .ok (.ireturn, 1) := by decide +kernel
theorem dL_law_334 : decode cL_law 334 = .ok (.aload_n 1, 1) := by decide +kernel
theorem dL_law_335 : decode cL_law 335 = .ok (.invokevirtual 28, 3) := by decide +kernel
theorem dL_law_338 : decode cL_law 338 = .ok (.aload_n 2, 1) := by decide +kernel
theorem dL_law_339 : decode cL_law 339 = .ok (.invokevirtual 32, 3) := by decide +kernel
theorem dL_law_342 : decode cL_law 342 = .ok (.if_icmp .eq 1443, 3) := by decide +kernel
theorem dL_law_345 : decode cL_law 345 = .ok (.iconst 0, 1) := by decide +kernel
theorem dL_law_346 : decode cL_law 346 = .ok (.ireturn, 1) := by decide +kernel
theorem dL_law_347 : decode cL_law 347 = .ok (.aload_n 1, 1) := by decide +kernel
theorem dL_law_348 : decode cL_law 348 = .ok (.invokevirtual 33, 3) := by decide +kernel
theorem dL_law_351 : decode cL_law 351 = .ok (.aload_n 2, 1) := by decide +kernel
theorem dL_law_352 : decode cL_law 352 = .ok (.invokevirtual 36, 3) := by decide +kernel
theorem dL_law_355 : decode cL_law 355 = .ok (.if_icmp .eq 1430, 3) := by decide +kernel
theorem dL_law_358 : decode cL_law 358 = .ok (.iconst 0, 1) := by decide +kernel
theorem dL_law_359 : decode cL_law 359 = .ok (.ireturn, 1) := by decide +kernel
theorem dL_law_360 : decode cL_law 360 = .ok (.aload_n 1, 1) := by decide +kernel
theorem dL_law_361 : decode cL_law 361 = .ok (.aload_n 0, 1) := by decide +kernel
theorem dL_law_362 : decode cL_law 362 = .ok (.iload 4, 2) := by decide +kernel
theorem dL_law_364 : decode cL_law 364 = .ok (.iconst 1, 1) := by decide +kernel
theorem dL_law_365 : decode cL_law 365 = .ok (.iadd, 1) := by decide +kernel
theorem dL_law_366 : decode cL_law 366 = .ok (.iaload, 1) := by decide +kernel
theorem dL_law_367 : decode cL_law 367 = .ok (.aload_n 0, 1) := by decide +kernel
theorem dL_law_368 : decode cL_law 368 = .ok (.iload 4, 2) := by decide +kernel
theorem dL_law_370 : decode cL_law 370 = .ok (.iconst 2, 1) := by decide +kernel
theorem dL_law_371 : decode cL_law 371 = .ok (.iadd, 1) := by decide +kernel
theorem dL_law_372 : decode cL_law 372 = .ok (.iaload, 1) := by decide +kernel
theorem dL_law_373 : decode cL_law 373 = .ok (.invokevirtual 37, 3) := by decide +kernel
theorem dL_law_376 : decode cL_law 376 = .ok (.aload_n 2, 1) := by decide +kernel
theorem dL_law_377 : decode cL_law 377 = .ok (.aload_n 0, 1) := by decide +kernel
theorem dL_law_378 : decode cL_law 378 = .ok (.iload 4, 2) := by decide +kernel
theorem dL_law_380 : decode cL_law 380 = .ok (.iconst 1, 1) := by decide +kernel
theorem dL_law_381 : decode cL_law 381 = .ok (.iadd, 1) := by decide +kernel
theorem dL_law_382 : decode cL_law 382 = .ok (.iaload, 1) := by decide +kernel
theorem dL_law_383 : decode cL_law 383 = .ok (.aload_n 0, 1) := by decide +kernel
theorem dL_law_384 : decode cL_law 384 = .ok (.iload 4, 2) := by decide +kernel
theorem dL_law_386 : decode cL_law 386 = .ok (.iconst 2, 1) := by decide +kernel
theorem dL_law_387 : decode cL_law 387 = .ok (.iadd, 1) := by decide +kernel
theorem dL_law_388 : decode cL_law 388 = .ok (.iaload, 1) := by decide +kernel
theorem dL_law_389 : decode cL_law 389 = .ok (.invokevirtual 40, 3) := by decide +kernel
theorem dL_law_392 : decode cL_law 392 = .ok (.if_icmp .eq 1393, 3) := by decide +kernel
theorem dL_law_395 : decode cL_law 395 = .ok (.iconst 0, 1) := by decide +kernel
theorem dL_law_396 : decode cL_law 396 = .ok (.ireturn, 1) := by decide +kernel
theorem dL_law_397 : decode cL_law 397 = .ok (.aload_n 1, 1) := by decide +kernel
theorem dL_law_398 : decode cL_law 398 = .ok (.aload_n 0, 1) := by decide +kernel
theorem dL_law_399 : decode cL_law 399 = .ok (.iload 4, 2) := by decide +kernel
theorem dL_law_401 : decode cL_law 401 = .ok (.iconst 1, 1) := by decide +kernel
theorem dL_law_402 : decode cL_law 402 = .ok (.iadd, 1) := by decide +kernel
theorem dL_law_403 : decode cL_law 403 = .ok (.iaload, 1) := by decide +kernel
theorem dL_law_404 : decode cL_law 404 = .ok (.aload_n 0, 1) := by decide +kernel
theorem dL_law_405 : decode cL_law 405 = .ok (.iload 4, 2) := by decide +kernel
theorem dL_law_407 : decode cL_law 407 = .ok (.iconst 2, 1) := by decide +kernel
theorem dL_law_408 : decode cL_law 408 = .ok (.iadd, 1) := by decide +kernel
theorem dL_law_409 : decode cL_law 409 = .ok (.iaload, 1) := by decide +kernel
theorem dL_law_410 : decode cL_law 410 = .ok (.invokevirtual 41, 3) := by decide +kernel
theorem dL_law_413 : decode cL_law 413 = .ok (.aload_n 2, 1) := by decide +kernel
theorem dL_law_414 : decode cL_law 414 = .ok (.aload_n 0, 1) := by decide +kernel
theorem dL_law_415 : decode cL_law 415 = .ok (.iload 4, 2) := by decide +kernel
theorem dL_law_417 : decode cL_law 417 = .ok (.iconst 1, 1) := by decide +kernel
theorem dL_law_418 : decode cL_law 418 = .ok (.iadd, 1) := by decide +kernel
theorem dL_law_419 : decode cL_law 419 = .ok (.iaload, 1) := by decide +kernel
theorem dL_law_420 : decode cL_law 420 = .ok (.aload_n 0, 1) := by decide +kernel
theorem dL_law_421 : decode cL_law 421 = .ok (.iload 4, 2) := by decide +kernel
theorem dL_law_423 : decode cL_law 423 = .ok (.iconst 2, 1) := by decide +kernel
theorem dL_law_424 : decode cL_law 424 = .ok (.iadd, 1) := by decide +kernel
theorem dL_law_425 : decode cL_law 425 = .ok (.iaload, 1) := by decide +kernel
theorem dL_law_426 : decode cL_law 426 = .ok (.invokevirtual 44, 3) := by decide +kernel
theorem dL_law_429 : decode cL_law 429 = .ok (.if_icmp .eq 1356, 3) := by decide +kernel
theorem dL_law_432 : decode cL_law 432 = .ok (.iconst 0, 1) := by decide +kernel
theorem dL_law_433 : decode cL_law 433 = .ok (.ireturn, 1) := by decide +kernel
theorem dL_law_434 : decode cL_law 434 = .ok (.aload_n 1, 1) := by decide +kernel
theorem dL_law_435 : decode cL_law 435 = .ok (.aload_n 0, 1) := by decide +kernel
theorem dL_law_436 : decode cL_law 436 = .ok (.iload 4, 2) := by decide +kernel
theorem dL_law_438 : decode cL_law 438 = .ok (.iconst 1, 1) := by decide +kernel
theorem dL_law_439 : decode cL_law 439 = .ok (.iadd, 1) := by decide +kernel
theorem dL_law_440 : decode cL_law 440 = .ok (.iaload, 1) := by decide +kernel
theorem dL_law_441 : decode cL_law 441 = .ok (.aload_n 0, 1) := by decide +kernel
theorem dL_law_442 : decode cL_law 442 = .ok (.iload 4, 2) := by decide +kernel
theorem dL_law_444 : decode cL_law 444 = .ok (.iconst 2, 1) := by decide +kernel
theorem dL_law_445 : decode cL_law 445 = .ok (.iadd, 1) := by decide +kernel
theorem dL_law_446 : decode cL_law 446 = .ok (.iaload, 1) := by decide +kernel
theorem dL_law_447 : decode cL_law 447 = .ok (.aload_n 0, 1) := by decide +kernel
theorem dL_law_448 : decode cL_law 448 = .ok (.iload 4, 2) := by decide +kernel
theorem dL_law_450 : decode cL_law 450 = .ok (.iconst 3, 1) := by decide +kernel
theorem dL_law_451 : decode cL_law 451 = .ok (.iadd, 1) := by decide +kernel
theorem dL_law_452 : decode cL_law 452 = .ok (.iaload, 1) := by decide +kernel
theorem dL_law_453 : decode cL_law 453 = .ok (.invokevirtual 45, 3) := by decide +kernel
theorem dL_law_456 : decode cL_law 456 = .ok (.aload_n 2, 1) := by decide +kernel
theorem dL_law_457 : decode cL_law 457 = .ok (.aload_n 0, 1) := by decide +kernel
theorem dL_law_458 : decode cL_law 458 = .ok (.iload 4, 2) := by decide +kernel
theorem dL_law_460 : decode cL_law 460 = .ok (.iconst 1, 1) := by decide +kernel
theorem dL_law_461 : decode cL_law 461 = .ok (.iadd, 1) := by decide +kernel
theorem dL_law_462 : decode cL_law 462 = .ok (.iaload, 1) := by decide +kernel
theorem dL_law_463 : decode cL_law 463 = .ok (.aload_n 0, 1) := by decide +kernel
theorem dL_law_464 : decode cL_law 464 = .ok (.iload 4, 2) := by decide +kernel
theorem dL_law_466 : decode cL_law 466 = .ok (.iconst 2, 1) := by decide +kernel
theorem dL_law_467 : decode cL_law 467 = .ok (.iadd, 1) := by decide +kernel
theorem dL_law_468 : decode cL_law 468 = .ok (.iaload, 1) := by decide +kernel
theorem dL_law_469 : decode cL_law 469 = .ok (.aload_n 0, 1) := by decide +kernel
theorem dL_law_470 : decode cL_law 470 = .ok (.iload 4, 2) := by decide +kernel
theorem dL_law_472 : decode cL_law 472 = .ok (.iconst 3, 1) := by decide +kernel
theorem dL_law_473 : decode cL_law 473 = .ok (.iadd, 1) := by decide +kernel
theorem dL_law_474 : decode cL_law 474 = .ok (.iaload, 1) := by decide +kernel
theorem dL_law_475 : decode cL_law 475 = .ok (.invokevirtual 49, 3) := by decide +kernel
theorem dL_law_478 : decode cL_law 478 = .ok (.if_icmp .eq 1307, 3) := by decide +kernel
theorem dL_law_481 : decode cL_law 481 = .ok (.iconst 0, 1) := by decide +kernel
theorem dL_law_482 : decode cL_law 482 = .ok (.ireturn, 1) := by decide +kernel
theorem dL_law_483 : decode cL_law 483 = .ok (.aload_n 1, 1) := by decide +kernel
theorem dL_law_484 : decode cL_law 484 = .ok (.aload_n 0, 1) := by decide +kernel
theorem dL_law_485 : decode cL_law 485 = .ok (.iload 4, 2) := by decide +kernel
theorem dL_law_487 : decode cL_law 487 = .ok (.iconst 1, 1) := by decide +kernel
theorem dL_law_488 : decode cL_law 488 = .ok (.iadd, 1) := by decide +kernel
theorem dL_law_489 : decode cL_law 489 = .ok (.iaload, 1) := by decide +kernel
theorem dL_law_490 : decode cL_law 490 = .ok (.aload_n 0, 1) := by decide +kernel
theorem dL_law_491 : decode cL_law 491 = .ok (.iload 4, 2) := by decide +kernel
theorem dL_law_493 : decode cL_law 493 = .ok (.iconst 2, 1) := by decide +kernel
theorem dL_law_494 : decode cL_law 494 = .ok (.iadd, 1) := by decide +kernel
theorem dL_law_495 : decode cL_law 495 = .ok (.iaload, 1) := by decide +kernel
theorem dL_law_496 : decode cL_law 496 = .ok (.aload_n 0, 1) := by decide +kernel
theorem dL_law_497 : decode cL_law 497 = .ok (.iload 4, 2) := by decide +kernel
theorem dL_law_499 : decode cL_law 499 = .ok (.iconst 3, 1) := by decide +kernel
theorem dL_law_500 : decode cL_law 500 = .ok (.iadd, 1) := by decide +kernel
theorem dL_law_501 : decode cL_law 501 = .ok (.iaload, 1) := by decide +kernel
theorem dL_law_502 : decode cL_law 502 = .ok (.invokevirtual 50, 3) := by decide +kernel
theorem dL_law_505 : decode cL_law 505 = .ok (.aload_n 2, 1) := by decide +kernel
theorem dL_law_506 : decode cL_law 506 = .ok (.aload_n 0, 1) := by decide +kernel
theorem dL_law_507 : decode cL_law 507 = .ok (.iload 4, 2) := by decide +kernel
theorem dL_law_509 : decode cL_law 509 = .ok (.iconst 1, 1) := by decide +kernel
theorem dL_law_510 : decode cL_law 510 = .ok (.iadd, 1) := by decide +kernel
theorem dL_law_511 : decode cL_law 511 = .ok (.iaload, 1) := by decide +kernel
theorem dL_law_512 : decode cL_law 512 = .ok (.aload_n 0, 1) := by decide +kernel
theorem dL_law_513 : decode cL_law 513 = .ok (.iload 4, 2) := by decide +kernel
theorem dL_law_515 : decode cL_law 515 = .ok (.iconst 2, 1) := by decide +kernel
theorem dL_law_516 : decode cL_law 516 = .ok (.iadd, 1) := by decide +kernel
theorem dL_law_517 : decode cL_law 517 = .ok (.iaload, 1) := by decide +kernel
theorem dL_law_518 : decode cL_law 518 = .ok (.aload_n 0, 1) := by decide +kernel
theorem dL_law_519 : decode cL_law 519 = .ok (.iload 4, 2) := by decide +kernel
theorem dL_law_521 : decode cL_law 521 = .ok (.iconst 3, 1) := by decide +kernel
theorem dL_law_522 : decode cL_law 522 = .ok (.iadd, 1) := by decide +kernel
theorem dL_law_523 : decode cL_law 523 = .ok (.iaload, 1) := by decide +kernel
theorem dL_law_524 : decode cL_law 524 = .ok (.invokevirtual 53, 3) := by decide +kernel
theorem dL_law_527 : decode cL_law 527 = .ok (.if_icmp .eq 1258, 3) := by decide +kernel
theorem dL_law_530 : decode cL_law 530 = .ok (.iconst 0, 1) := by decide +kernel
theorem dL_law_531 : decode cL_law 531 = .ok (.ireturn, 1) := by decide +kernel
theorem dL_law_532 : decode cL_law 532 = .ok (.aload_n 1, 1) := by decide +kernel
theorem dL_law_533 : decode cL_law 533 = .ok (.aload_n 0, 1) := by decide +kernel
theorem dL_law_534 : decode cL_law 534 = .ok (.iload 4, 2) := by decide +kernel
theorem dL_law_536 : decode cL_law 536 = .ok (.iconst 1, 1) := by decide +kernel
theorem dL_law_537 : decode cL_law 537 = .ok (.iadd, 1) := by decide +kernel
theorem dL_law_538 : decode cL_law 538 = .ok (.iaload, 1) := by decide +kernel
theorem dL_law_539 : decode cL_law 539 = .ok (.aload_n 0, 1) := by decide +kernel
theorem dL_law_540 : decode cL_law 540 = .ok (.iload 4, 2) := by decide +kernel
theorem dL_law_542 : decode cL_law 542 = .ok (.iconst 2, 1) := by decide +kernel
theorem dL_law_543 : decode cL_law 543 = .ok (.iadd, 1) := by decide +kernel
theorem dL_law_544 : decode cL_law 544 = .ok (.iaload, 1) := by decide +kernel
theorem dL_law_545 : decode cL_law 545 = .ok (.invokevirtual 54, 3) := by decide +kernel
theorem dL_law_548 : decode cL_law 548 = .ok (.aload_n 2, 1) := by decide +kernel
theorem dL_law_549 : decode cL_law 549 = .ok (.aload_n 0, 1) := by decide +kernel
theorem dL_law_550 : decode cL_law 550 = .ok (.iload 4, 2) := by decide +kernel
theorem dL_law_552 : decode cL_law 552 = .ok (.iconst 1, 1) := by decide +kernel
theorem dL_law_553 : decode cL_law 553 = .ok (.iadd, 1) := by decide +kernel
theorem dL_law_554 : decode cL_law 554 = .ok (.iaload, 1) := by decide +kernel
theorem dL_law_555 : decode cL_law 555 = .ok (.aload_n 0, 1) := by decide +kernel
theorem dL_law_556 : decode cL_law 556 = .ok (.iload 4, 2) := by decide +kernel
theorem dL_law_558 : decode cL_law 558 = .ok (.iconst 2, 1) := by decide +kernel
theorem dL_law_559 : decode cL_law 559 = .ok (.iadd, 1) := by decide +kernel
theorem dL_law_560 : decode cL_law 560 = .ok (.iaload, 1) := by decide +kernel
theorem dL_law_561 : decode cL_law 561 = .ok (.invokevirtual 57, 3) := by decide +kernel
theorem dL_law_564 : decode cL_law 564 = .ok (.if_icmp .eq 1221, 3) := by decide +kernel
theorem dL_law_567 : decode cL_law 567 = .ok (.iconst 0, 1) := by decide +kernel
theorem dL_law_568 : decode cL_law 568 = .ok (.ireturn, 1) := by decide +kernel
theorem dL_law_569 : decode cL_law 569 = .ok (.aload_n 1, 1) := by decide +kernel
theorem dL_law_570 : decode cL_law 570 = .ok (.aload_n 0, 1) := by decide +kernel
theorem dL_law_571 : decode cL_law 571 = .ok (.iload 4, 2) := by decide +kernel
theorem dL_law_573 : decode cL_law 573 = .ok (.iconst 1, 1) := by decide +kernel
theorem dL_law_574 : decode cL_law 574 = .ok (.iadd, 1) := by decide +kernel
theorem dL_law_575 : decode cL_law 575 = .ok (.iaload, 1) := by decide +kernel
theorem dL_law_576 : decode cL_law 576 = .ok (.aload_n 0, 1) := by decide +kernel
theorem dL_law_577 : decode cL_law 577 = .ok (.iload 4, 2) := by decide +kernel
theorem dL_law_579 : decode cL_law 579 = .ok (.iconst 2, 1) := by decide +kernel
theorem dL_law_580 : decode cL_law 580 = .ok (.iadd, 1) := by decide +kernel
theorem dL_law_581 : decode cL_law 581 = .ok (.iaload, 1) := by decide +kernel
theorem dL_law_582 : decode cL_law 582 = .ok (.invokevirtual 58, 3) := by decide +kernel
theorem dL_law_585 : decode cL_law 585 = .ok (.aload_n 2, 1) := by decide +kernel
theorem dL_law_586 : decode cL_law 586 = .ok (.aload_n 0, 1) := by decide +kernel
theorem dL_law_587 : decode cL_law 587 = .ok (.iload 4, 2) := by decide +kernel
theorem dL_law_589 : decode cL_law 589 = .ok (.iconst 1, 1) := by decide +kernel
theorem dL_law_590 : decode cL_law 590 = .ok (.iadd, 1) := by decide +kernel
theorem dL_law_591 : decode cL_law 591 = .ok (.iaload, 1) := by decide +kernel
theorem dL_law_592 : decode cL_law 592 = .ok (.aload_n 0, 1) := by decide +kernel
theorem dL_law_593 : decode cL_law 593 = .ok (.iload 4, 2) := by decide +kernel
theorem dL_law_595 : decode cL_law 595 = .ok (.iconst 2, 1) := by decide +kernel
theorem dL_law_596 : decode cL_law 596 = .ok (.iadd, 1) := by decide +kernel
theorem dL_law_597 : decode cL_law 597 = .ok (.iaload, 1) := by decide +kernel
theorem dL_law_598 : decode cL_law 598 = .ok (.invokevirtual 61, 3) := by decide +kernel
theorem dL_law_601 : decode cL_law 601 = .ok (.if_icmp .eq 1184, 3) := by decide +kernel
theorem dL_law_604 : decode cL_law 604 = .ok (.iconst 0, 1) := by decide +kernel
theorem dL_law_605 : decode cL_law 605 = .ok (.ireturn, 1) := by decide +kernel
theorem dL_law_606 : decode cL_law 606 = .ok (.aload_n 1, 1) := by decide +kernel
theorem dL_law_607 : decode cL_law 607 = .ok (.aload_n 0, 1) := by decide +kernel
theorem dL_law_608 : decode cL_law 608 = .ok (.iload 4, 2) := by decide +kernel
theorem dL_law_610 : decode cL_law 610 = .ok (.iconst 1, 1) := by decide +kernel
theorem dL_law_611 : decode cL_law 611 = .ok (.iadd, 1) := by decide +kernel
theorem dL_law_612 : decode cL_law 612 = .ok (.iaload, 1) := by decide +kernel
theorem dL_law_613 : decode cL_law 613 = .ok (.aload_n 0, 1) := by decide +kernel
theorem dL_law_614 : decode cL_law 614 = .ok (.iload 4, 2) := by decide +kernel
theorem dL_law_616 : decode cL_law 616 = .ok (.iconst 2, 1) := by decide +kernel
theorem dL_law_617 : decode cL_law 617 = .ok (.iadd, 1) := by decide +kernel
theorem dL_law_618 : decode cL_law 618 = .ok (.iaload, 1) := by decide +kernel
theorem dL_law_619 : decode cL_law 619 = .ok (.aload_n 0, 1) := by decide +kernel
theorem dL_law_620 : decode cL_law 620 = .ok (.iload 4, 2) := by decide +kernel
theorem dL_law_622 : decode cL_law 622 = .ok (.iconst 3, 1) := by decide +kernel
theorem dL_law_623 : decode cL_law 623 = .ok (.iadd, 1) := by decide +kernel
theorem dL_law_624 : decode cL_law 624 = .ok (.iaload, 1) := by decide +kernel
theorem dL_law_625 : decode cL_law 625 = .ok (.invokevirtual 62, 3) := by decide +kernel
theorem dL_law_628 : decode cL_law 628 = .ok (.aload_n 2, 1) := by decide +kernel
theorem dL_law_629 : decode cL_law 629 = .ok (.aload_n 0, 1) := by decide +kernel
theorem dL_law_630 : decode cL_law 630 = .ok (.iload 4, 2) := by decide +kernel
theorem dL_law_632 : decode cL_law 632 = .ok (.iconst 1, 1) := by decide +kernel
theorem dL_law_633 : decode cL_law 633 = .ok (.iadd, 1) := by decide +kernel
theorem dL_law_634 : decode cL_law 634 = .ok (.iaload, 1) := by decide +kernel
theorem dL_law_635 : decode cL_law 635 = .ok (.aload_n 0, 1) := by decide +kernel
theorem dL_law_636 : decode cL_law 636 = .ok (.iload 4, 2) := by decide +kernel
theorem dL_law_638 : decode cL_law 638 = .ok (.iconst 2, 1) := by decide +kernel
theorem dL_law_639 : decode cL_law 639 = .ok (.iadd, 1) := by decide +kernel
theorem dL_law_640 : decode cL_law 640 = .ok (.iaload, 1) := by decide +kernel
theorem dL_law_641 : decode cL_law 641 = .ok (.aload_n 0, 1) := by decide +kernel
theorem dL_law_642 : decode cL_law 642 = .ok (.iload 4, 2) := by decide +kernel
theorem dL_law_644 : decode cL_law 644 = .ok (.iconst 3, 1) := by decide +kernel
theorem dL_law_645 : decode cL_law 645 = .ok (.iadd, 1) := by decide +kernel
theorem dL_law_646 : decode cL_law 646 = .ok (.iaload, 1) := by decide +kernel
theorem dL_law_647 : decode cL_law 647 = .ok (.invokevirtual 65, 3) := by decide +kernel
theorem dL_law_650 : decode cL_law 650 = .ok (.if_icmp .eq 1135, 3) := by decide +kernel
theorem dL_law_653 : decode cL_law 653 = .ok (.iconst 0, 1) := by decide +kernel
theorem dL_law_654 : decode cL_law 654 = .ok (.ireturn, 1) := by decide +kernel
theorem dL_law_655 : decode cL_law 655 = .ok (.aload_n 1, 1) := by decide +kernel
theorem dL_law_656 : decode cL_law 656 = .ok (.aload_n 0, 1) := by decide +kernel
theorem dL_law_657 : decode cL_law 657 = .ok (.iload 4, 2) := by decide +kernel
theorem dL_law_659 : decode cL_law 659 = .ok (.iconst 1, 1) := by decide +kernel
theorem dL_law_660 : decode cL_law 660 = .ok (.iadd, 1) := by decide +kernel
theorem dL_law_661 : decode cL_law 661 = .ok (.iaload, 1) := by decide +kernel
theorem dL_law_662 : decode cL_law 662 = .ok (.aload_n 0, 1) := by decide +kernel
theorem dL_law_663 : decode cL_law 663 = .ok (.iload 4, 2) := by decide +kernel
theorem dL_law_665 : decode cL_law 665 = .ok (.iconst 2, 1) := by decide +kernel
theorem dL_law_666 : decode cL_law 666 = .ok (.iadd, 1) := by decide +kernel
theorem dL_law_667 : decode cL_law 667 = .ok (.iaload, 1) := by decide +kernel
theorem dL_law_668 : decode cL_law 668 = .ok (.invokevirtual 66, 3) := by decide +kernel
theorem dL_law_671 : decode cL_law 671 = .ok (.aload_n 2, 1) := by decide +kernel
theorem dL_law_672 : decode cL_law 672 = .ok (.aload_n 0, 1) := by decide +kernel
theorem dL_law_673 : decode cL_law 673 = .ok (.iload 4, 2) := by decide +kernel
theorem dL_law_675 : decode cL_law 675 = .ok (.iconst 1, 1) := by decide +kernel
theorem dL_law_676 : decode cL_law 676 = .ok (.iadd, 1) := by decide +kernel
theorem dL_law_677 : decode cL_law 677 = .ok (.iaload, 1) := by decide +kernel
theorem dL_law_678 : decode cL_law 678 = .ok (.aload_n 0, 1) := by decide +kernel
theorem dL_law_679 : decode cL_law 679 = .ok (.iload 4, 2) := by decide +kernel
theorem dL_law_681 : decode cL_law 681 = .ok (.iconst 2, 1) := by decide +kernel
theorem dL_law_682 : decode cL_law 682 = .ok (.iadd, 1) := by decide +kernel
theorem dL_law_683 : decode cL_law 683 = .ok (.iaload, 1) := by decide +kernel
theorem dL_law_684 : decode cL_law 684 = .ok (.invokevirtual 69, 3) := by decide +kernel
theorem dL_law_687 : decode cL_law 687 = .ok (.if_icmp .eq 1098, 3) := by decide +kernel
theorem dL_law_690 : decode cL_law 690 = .ok (.iconst 0, 1) := by decide +kernel
theorem dL_law_691 : decode cL_law 691 = .ok (.ireturn, 1) := by decide +kernel
theorem dL_law_692 : decode cL_law 692 = .ok (.aload_n 1, 1) := by decide +kernel
theorem dL_law_693 : decode cL_law 693 = .ok (.aload_n 0, 1) := by decide +kernel
theorem dL_law_694 : decode cL_law 694 = .ok (.iload 4, 2) := by decide +kernel
theorem dL_law_696 : decode cL_law 696 = .ok (.iconst 1, 1) := by decide +kernel
theorem dL_law_697 : decode cL_law 697 = .ok (.iadd, 1) := by decide +kernel
theorem dL_law_698 : decode cL_law 698 = .ok (.iaload, 1) := by decide +kernel
theorem dL_law_699 : decode cL_law 699 = .ok (.aload_n 0, 1) := by decide +kernel
theorem dL_law_700 : decode cL_law 700 = .ok (.iload 4, 2) := by decide +kernel
theorem dL_law_702 : decode cL_law 702 = .ok (.iconst 2, 1) := by decide +kernel
theorem dL_law_703 : decode cL_law 703 = .ok (.iadd, 1) := by decide +kernel
theorem dL_law_704 : decode cL_law 704 = .ok (.iaload, 1) := by decide +kernel
theorem dL_law_705 : decode cL_law 705 = .ok (.invokevirtual 70, 3) := by decide +kernel
theorem dL_law_708 : decode cL_law 708 = .ok (.aload_n 2, 1) := by decide +kernel
theorem dL_law_709 : decode cL_law 709 = .ok (.aload_n 0, 1) := by decide +kernel
theorem dL_law_710 : decode cL_law 710 = .ok (.iload 4, 2) := by decide +kernel
theorem dL_law_712 : decode cL_law 712 = .ok (.iconst 1, 1) := by decide +kernel
theorem dL_law_713 : decode cL_law 713 = .ok (.iadd, 1) := by decide +kernel
theorem dL_law_714 : decode cL_law 714 = .ok (.iaload, 1) := by decide +kernel
theorem dL_law_715 : decode cL_law 715 = .ok (.aload_n 0, 1) := by decide +kernel
theorem dL_law_716 : decode cL_law 716 = .ok (.iload 4, 2) := by decide +kernel
theorem dL_law_718 : decode cL_law 718 = .ok (.iconst 2, 1) := by decide +kernel
theorem dL_law_719 : decode cL_law 719 = .ok (.iadd, 1) := by decide +kernel
theorem dL_law_720 : decode cL_law 720 = .ok (.iaload, 1) := by decide +kernel
theorem dL_law_721 : decode cL_law 721 = .ok (.invokevirtual 73, 3) := by decide +kernel
theorem dL_law_724 : decode cL_law 724 = .ok (.if_icmp .eq 1061, 3) := by decide +kernel
theorem dL_law_727 : decode cL_law 727 = .ok (.iconst 0, 1) := by decide +kernel
theorem dL_law_728 : decode cL_law 728 = .ok (.ireturn, 1) := by decide +kernel
theorem dL_law_729 : decode cL_law 729 = .ok (.aload_n 1, 1) := by decide +kernel
theorem dL_law_730 : decode cL_law 730 = .ok (.aload_n 0, 1) := by decide +kernel
theorem dL_law_731 : decode cL_law 731 = .ok (.iload 4, 2) := by decide +kernel
theorem dL_law_733 : decode cL_law 733 = .ok (.iconst 1, 1) := by decide +kernel
theorem dL_law_734 : decode cL_law 734 = .ok (.iadd, 1) := by decide +kernel
theorem dL_law_735 : decode cL_law 735 = .ok (.iaload, 1) := by decide +kernel
theorem dL_law_736 : decode cL_law 736 = .ok (.aload_n 0, 1) := by decide +kernel
theorem dL_law_737 : decode cL_law 737 = .ok (.iload 4, 2) := by decide +kernel
theorem dL_law_739 : decode cL_law 739 = .ok (.iconst 2, 1) := by decide +kernel
theorem dL_law_740 : decode cL_law 740 = .ok (.iadd, 1) := by decide +kernel
theorem dL_law_741 : decode cL_law 741 = .ok (.iaload, 1) := by decide +kernel
theorem dL_law_742 : decode cL_law 742 = .ok (.invokevirtual 74, 3) := by decide +kernel
theorem dL_law_745 : decode cL_law 745 = .ok (.aload_n 2, 1) := by decide +kernel
theorem dL_law_746 : decode cL_law 746 = .ok (.aload_n 0, 1) := by decide +kernel
theorem dL_law_747 : decode cL_law 747 = .ok (.iload 4, 2) := by decide +kernel
theorem dL_law_749 : decode cL_law 749 = .ok (.iconst 1, 1) := by decide +kernel
theorem dL_law_750 : decode cL_law 750 = .ok (.iadd, 1) := by decide +kernel
theorem dL_law_751 : decode cL_law 751 = .ok (.iaload, 1) := by decide +kernel
theorem dL_law_752 : decode cL_law 752 = .ok (.aload_n 0, 1) := by decide +kernel
theorem dL_law_753 : decode cL_law 753 = .ok (.iload 4, 2) := by decide +kernel
theorem dL_law_755 : decode cL_law 755 = .ok (.iconst 2, 1) := by decide +kernel
theorem dL_law_756 : decode cL_law 756 = .ok (.iadd, 1) := by decide +kernel
theorem dL_law_757 : decode cL_law 757 = .ok (.iaload, 1) := by decide +kernel
theorem dL_law_758 : decode cL_law 758 = .ok (.invokevirtual 77, 3) := by decide +kernel
theorem dL_law_761 : decode cL_law 761 = .ok (.if_icmp .eq 1024, 3) := by decide +kernel
theorem dL_law_764 : decode cL_law 764 = .ok (.iconst 0, 1) := by decide +kernel
theorem dL_law_765 : decode cL_law 765 = .ok (.ireturn, 1) := by decide +kernel
theorem dL_law_766 : decode cL_law 766 = .ok (.aload_n 1, 1) := by decide +kernel
theorem dL_law_767 : decode cL_law 767 = .ok (.aload_n 0, 1) := by decide +kernel
theorem dL_law_768 : decode cL_law 768 = .ok (.iload 4, 2) := by decide +kernel
theorem dL_law_770 : decode cL_law 770 = .ok (.iconst 1, 1) := by decide +kernel
theorem dL_law_771 : decode cL_law 771 = .ok (.iadd, 1) := by decide +kernel
theorem dL_law_772 : decode cL_law 772 = .ok (.iaload, 1) := by decide +kernel
theorem dL_law_773 : decode cL_law 773 = .ok (.aload_n 0, 1) := by decide +kernel
theorem dL_law_774 : decode cL_law 774 = .ok (.iload 4, 2) := by decide +kernel
theorem dL_law_776 : decode cL_law 776 = .ok (.iconst 2, 1) := by decide +kernel
theorem dL_law_777 : decode cL_law 777 = .ok (.iadd, 1) := by decide +kernel
theorem dL_law_778 : decode cL_law 778 = .ok (.iaload, 1) := by decide +kernel
theorem dL_law_779 : decode cL_law 779 = .ok (.invokevirtual 78, 3) := by decide +kernel
theorem dL_law_782 : decode cL_law 782 = .ok (.aload_n 2, 1) := by decide +kernel
theorem dL_law_783 : decode cL_law 783 = .ok (.aload_n 0, 1) := by decide +kernel
theorem dL_law_784 : decode cL_law 784 = .ok (.iload 4, 2) := by decide +kernel
theorem dL_law_786 : decode cL_law 786 = .ok (.iconst 1, 1) := by decide +kernel
theorem dL_law_787 : decode cL_law 787 = .ok (.iadd, 1) := by decide +kernel
theorem dL_law_788 : decode cL_law 788 = .ok (.iaload, 1) := by decide +kernel
theorem dL_law_789 : decode cL_law 789 = .ok (.aload_n 0, 1) := by decide +kernel
theorem dL_law_790 : decode cL_law 790 = .ok (.iload 4, 2) := by decide +kernel
theorem dL_law_792 : decode cL_law 792 = .ok (.iconst 2, 1) := by decide +kernel
theorem dL_law_793 : decode cL_law 793 = .ok (.iadd, 1) := by decide +kernel
theorem dL_law_794 : decode cL_law 794 = .ok (.iaload, 1) := by decide +kernel
theorem dL_law_795 : decode cL_law 795 = .ok (.invokevirtual 81, 3) := by decide +kernel
theorem dL_law_798 : decode cL_law 798 = .ok (.if_icmp .eq 987, 3) := by decide +kernel
theorem dL_law_801 : decode cL_law 801 = .ok (.iconst 0, 1) := by decide +kernel
theorem dL_law_802 : decode cL_law 802 = .ok (.ireturn, 1) := by decide +kernel
theorem dL_law_803 : decode cL_law 803 = .ok (.aload_n 1, 1) := by decide +kernel
theorem dL_law_804 : decode cL_law 804 = .ok (.aload_n 0, 1) := by decide +kernel
theorem dL_law_805 : decode cL_law 805 = .ok (.iload 4, 2) := by decide +kernel
theorem dL_law_807 : decode cL_law 807 = .ok (.iconst 1, 1) := by decide +kernel
theorem dL_law_808 : decode cL_law 808 = .ok (.iadd, 1) := by decide +kernel
theorem dL_law_809 : decode cL_law 809 = .ok (.iaload, 1) := by decide +kernel
theorem dL_law_810 : decode cL_law 810 = .ok (.aload_n 0, 1) := by decide +kernel
theorem dL_law_811 : decode cL_law 811 = .ok (.iload 4, 2) := by decide +kernel
theorem dL_law_813 : decode cL_law 813 = .ok (.iconst 2, 1) := by decide +kernel
theorem dL_law_814 : decode cL_law 814 = .ok (.iadd, 1) := by decide +kernel
theorem dL_law_815 : decode cL_law 815 = .ok (.iaload, 1) := by decide +kernel
theorem dL_law_816 : decode cL_law 816 = .ok (.invokevirtual 82, 3) := by decide +kernel
theorem dL_law_819 : decode cL_law 819 = .ok (.aload_n 2, 1) := by decide +kernel
theorem dL_law_820 : decode cL_law 820 = .ok (.aload_n 0, 1) := by decide +kernel
theorem dL_law_821 : decode cL_law 821 = .ok (.iload 4, 2) := by decide +kernel
theorem dL_law_823 : decode cL_law 823 = .ok (.iconst 1, 1) := by decide +kernel
theorem dL_law_824 : decode cL_law 824 = .ok (.iadd, 1) := by decide +kernel
theorem dL_law_825 : decode cL_law 825 = .ok (.iaload, 1) := by decide +kernel
theorem dL_law_826 : decode cL_law 826 = .ok (.aload_n 0, 1) := by decide +kernel
theorem dL_law_827 : decode cL_law 827 = .ok (.iload 4, 2) := by decide +kernel
theorem dL_law_829 : decode cL_law 829 = .ok (.iconst 2, 1) := by decide +kernel
theorem dL_law_830 : decode cL_law 830 = .ok (.iadd, 1) := by decide +kernel
theorem dL_law_831 : decode cL_law 831 = .ok (.iaload, 1) := by decide +kernel
theorem dL_law_832 : decode cL_law 832 = .ok (.invokevirtual 85, 3) := by decide +kernel
theorem dL_law_835 : decode cL_law 835 = .ok (.if_icmp .eq 950, 3) := by decide +kernel
theorem dL_law_838 : decode cL_law 838 = .ok (.iconst 0, 1) := by decide +kernel
theorem dL_law_839 : decode cL_law 839 = .ok (.ireturn, 1) := by decide +kernel
theorem dL_law_840 : decode cL_law 840 = .ok (.aload_n 1, 1) := by decide +kernel
theorem dL_law_841 : decode cL_law 841 = .ok (.aload_n 0, 1) := by decide +kernel
theorem dL_law_842 : decode cL_law 842 = .ok (.iload 4, 2) := by decide +kernel
theorem dL_law_844 : decode cL_law 844 = .ok (.iconst 1, 1) := by decide +kernel
theorem dL_law_845 : decode cL_law 845 = .ok (.iadd, 1) := by decide +kernel
theorem dL_law_846 : decode cL_law 846 = .ok (.iaload, 1) := by decide +kernel
theorem dL_law_847 : decode cL_law 847 = .ok (.aload_n 0, 1) := by decide +kernel
theorem dL_law_848 : decode cL_law 848 = .ok (.iload 4, 2) := by decide +kernel
theorem dL_law_850 : decode cL_law 850 = .ok (.iconst 2, 1) := by decide +kernel
theorem dL_law_851 : decode cL_law 851 = .ok (.iadd, 1) := by decide +kernel
theorem dL_law_852 : decode cL_law 852 = .ok (.iaload, 1) := by decide +kernel
theorem dL_law_853 : decode cL_law 853 = .ok (.aload_n 0, 1) := by decide +kernel
theorem dL_law_854 : decode cL_law 854 = .ok (.iload 4, 2) := by decide +kernel
theorem dL_law_856 : decode cL_law 856 = .ok (.iconst 3, 1) := by decide +kernel
theorem dL_law_857 : decode cL_law 857 = .ok (.iadd, 1) := by decide +kernel
theorem dL_law_858 : decode cL_law 858 = .ok (.iaload, 1) := by decide +kernel
theorem dL_law_859 : decode cL_law 859 = .ok (.invokevirtual 86, 3) := by decide +kernel
theorem dL_law_862 : decode cL_law 862 = .ok (.aload_n 2, 1) := by decide +kernel
theorem dL_law_863 : decode cL_law 863 = .ok (.aload_n 0, 1) := by decide +kernel
theorem dL_law_864 : decode cL_law 864 = .ok (.iload 4, 2) := by decide +kernel
theorem dL_law_866 : decode cL_law 866 = .ok (.iconst 1, 1) := by decide +kernel
theorem dL_law_867 : decode cL_law 867 = .ok (.iadd, 1) := by decide +kernel
theorem dL_law_868 : decode cL_law 868 = .ok (.iaload, 1) := by decide +kernel
theorem dL_law_869 : decode cL_law 869 = .ok (.aload_n 0, 1) := by decide +kernel
theorem dL_law_870 : decode cL_law 870 = .ok (.iload 4, 2) := by decide +kernel
theorem dL_law_872 : decode cL_law 872 = .ok (.iconst 2, 1) := by decide +kernel
theorem dL_law_873 : decode cL_law 873 = .ok (.iadd, 1) := by decide +kernel
theorem dL_law_874 : decode cL_law 874 = .ok (.iaload, 1) := by decide +kernel
theorem dL_law_875 : decode cL_law 875 = .ok (.aload_n 0, 1) := by decide +kernel
theorem dL_law_876 : decode cL_law 876 = .ok (.iload 4, 2) := by decide +kernel
theorem dL_law_878 : decode cL_law 878 = .ok (.iconst 3, 1) := by decide +kernel
theorem dL_law_879 : decode cL_law 879 = .ok (.iadd, 1) := by decide +kernel
theorem dL_law_880 : decode cL_law 880 = .ok (.iaload, 1) := by decide +kernel
theorem dL_law_881 : decode cL_law 881 = .ok (.invokevirtual 89, 3) := by decide +kernel
theorem dL_law_884 : decode cL_law 884 = .ok (.if_icmp .eq 901, 3) := by decide +kernel
theorem dL_law_887 : decode cL_law 887 = .ok (.iconst 0, 1) := by decide +kernel
theorem dL_law_888 : decode cL_law 888 = .ok (.ireturn, 1) := by decide +kernel
theorem dL_law_889 : decode cL_law 889 = .ok (.aload_n 1, 1) := by decide +kernel
theorem dL_law_890 : decode cL_law 890 = .ok (.aload_n 0, 1) := by decide +kernel
theorem dL_law_891 : decode cL_law 891 = .ok (.iload 4, 2) := by decide +kernel
theorem dL_law_893 : decode cL_law 893 = .ok (.iconst 1, 1) := by decide +kernel
theorem dL_law_894 : decode cL_law 894 = .ok (.iadd, 1) := by decide +kernel
theorem dL_law_895 : decode cL_law 895 = .ok (.iaload, 1) := by decide +kernel
theorem dL_law_896 : decode cL_law 896 = .ok (.aload_n 0, 1) := by decide +kernel
theorem dL_law_897 : decode cL_law 897 = .ok (.iload 4, 2) := by decide +kernel
theorem dL_law_899 : decode cL_law 899 = .ok (.iconst 2, 1) := by decide +kernel
theorem dL_law_900 : decode cL_law 900 = .ok (.iadd, 1) := by decide +kernel
theorem dL_law_901 : decode cL_law 901 = .ok (.iaload, 1) := by decide +kernel
theorem dL_law_902 : decode cL_law 902 = .ok (.invokevirtual 90, 3) := by decide +kernel
theorem dL_law_905 : decode cL_law 905 = .ok (.aload_n 2, 1) := by decide +kernel
theorem dL_law_906 : decode cL_law 906 = .ok (.aload_n 0, 1) := by decide +kernel
theorem dL_law_907 : decode cL_law 907 = .ok (.iload 4, 2) := by decide +kernel
theorem dL_law_909 : decode cL_law 909 = .ok (.iconst 1, 1) := by decide +kernel
theorem dL_law_910 : decode cL_law 910 = .ok (.iadd, 1) := by decide +kernel
theorem dL_law_911 : decode cL_law 911 = .ok (.iaload, 1) := by decide +kernel
theorem dL_law_912 : decode cL_law 912 = .ok (.aload_n 0, 1) := by decide +kernel
theorem dL_law_913 : decode cL_law 913 = .ok (.iload 4, 2) := by decide +kernel
theorem dL_law_915 : decode cL_law 915 = .ok (.iconst 2, 1) := by decide +kernel
theorem dL_law_916 : decode cL_law 916 = .ok (.iadd, 1) := by decide +kernel
theorem dL_law_917 : decode cL_law 917 = .ok (.iaload, 1) := by decide +kernel
theorem dL_law_918 : decode cL_law 918 = .ok (.invokevirtual 93, 3) := by decide +kernel
theorem dL_law_921 : decode cL_law 921 = .ok (.if_icmp .eq 864, 3) := by decide +kernel
theorem dL_law_924 : decode cL_law 924 = .ok (.iconst 0, 1) := by decide +kernel
theorem dL_law_925 : decode cL_law 925 = .ok (.ireturn, 1) := by decide +kernel
theorem dL_law_926 : decode cL_law 926 = .ok (.aload_n 1, 1) := by decide +kernel
theorem dL_law_927 : decode cL_law 927 = .ok (.aload_n 0, 1) := by decide +kernel
theorem dL_law_928 : decode cL_law 928 = .ok (.iload 4, 2) := by decide +kernel
theorem dL_law_930 : decode cL_law 930 = .ok (.iconst 1, 1) := by decide +kernel
theorem dL_law_931 : decode cL_law 931 = .ok (.iadd, 1) := by decide +kernel
theorem dL_law_932 : decode cL_law 932 = .ok (.iaload, 1) := by decide +kernel
theorem dL_law_933 : decode cL_law 933 = .ok (.aload_n 0, 1) := by decide +kernel
theorem dL_law_934 : decode cL_law 934 = .ok (.iload 4, 2) := by decide +kernel
theorem dL_law_936 : decode cL_law 936 = .ok (.iconst 2, 1) := by decide +kernel
theorem dL_law_937 : decode cL_law 937 = .ok (.iadd, 1) := by decide +kernel
theorem dL_law_938 : decode cL_law 938 = .ok (.iaload, 1) := by decide +kernel
theorem dL_law_939 : decode cL_law 939 = .ok (.invokevirtual 94, 3) := by decide +kernel
theorem dL_law_942 : decode cL_law 942 = .ok (.aload_n 2, 1) := by decide +kernel
theorem dL_law_943 : decode cL_law 943 = .ok (.aload_n 0, 1) := by decide +kernel
theorem dL_law_944 : decode cL_law 944 = .ok (.iload 4, 2) := by decide +kernel
theorem dL_law_946 : decode cL_law 946 = .ok (.iconst 1, 1) := by decide +kernel
theorem dL_law_947 : decode cL_law 947 = .ok (.iadd, 1) := by decide +kernel
theorem dL_law_948 : decode cL_law 948 = .ok (.iaload, 1) := by decide +kernel
theorem dL_law_949 : decode cL_law 949 = .ok (.aload_n 0, 1) := by decide +kernel
theorem dL_law_950 : decode cL_law 950 = .ok (.iload 4, 2) := by decide +kernel
theorem dL_law_952 : decode cL_law 952 = .ok (.iconst 2, 1) := by decide +kernel
theorem dL_law_953 : decode cL_law 953 = .ok (.iadd, 1) := by decide +kernel
theorem dL_law_954 : decode cL_law 954 = .ok (.iaload, 1) := by decide +kernel
theorem dL_law_955 : decode cL_law 955 = .ok (.invokevirtual 97, 3) := by decide +kernel
theorem dL_law_958 : decode cL_law 958 = .ok (.if_icmp .eq 827, 3) := by decide +kernel
theorem dL_law_961 : decode cL_law 961 = .ok (.iconst 0, 1) := by decide +kernel
theorem dL_law_962 : decode cL_law 962 = .ok (.ireturn, 1) := by decide +kernel
theorem dL_law_963 : decode cL_law 963 = .ok (.aload_n 1, 1) := by decide +kernel
theorem dL_law_964 : decode cL_law 964 = .ok (.aload_n 0, 1) := by decide +kernel
theorem dL_law_965 : decode cL_law 965 = .ok (.iload 4, 2) := by decide +kernel
theorem dL_law_967 : decode cL_law 967 = .ok (.iconst 1, 1) := by decide +kernel
theorem dL_law_968 : decode cL_law 968 = .ok (.iadd, 1) := by decide +kernel
theorem dL_law_969 : decode cL_law 969 = .ok (.iaload, 1) := by decide +kernel
theorem dL_law_970 : decode cL_law 970 = .ok (.aload_n 0, 1) := by decide +kernel
theorem dL_law_971 : decode cL_law 971 = .ok (.iload 4, 2) := by decide +kernel
theorem dL_law_973 : decode cL_law 973 = .ok (.iconst 2, 1) := by decide +kernel
theorem dL_law_974 : decode cL_law 974 = .ok (.iadd, 1) := by decide +kernel
theorem dL_law_975 : decode cL_law 975 = .ok (.iaload, 1) := by decide +kernel
theorem dL_law_976 : decode cL_law 976 = .ok (.invokevirtual 98, 3) := by decide +kernel
theorem dL_law_979 : decode cL_law 979 = .ok (.aload_n 2, 1) := by decide +kernel
theorem dL_law_980 : decode cL_law 980 = .ok (.aload_n 0, 1) := by decide +kernel
theorem dL_law_981 : decode cL_law 981 = .ok (.iload 4, 2) := by decide +kernel
theorem dL_law_983 : decode cL_law 983 = .ok (.iconst 1, 1) := by decide +kernel
theorem dL_law_984 : decode cL_law 984 = .ok (.iadd, 1) := by decide +kernel
theorem dL_law_985 : decode cL_law 985 = .ok (.iaload, 1) := by decide +kernel
theorem dL_law_986 : decode cL_law 986 = .ok (.aload_n 0, 1) := by decide +kernel
theorem dL_law_987 : decode cL_law 987 = .ok (.iload 4, 2) := by decide +kernel
theorem dL_law_989 : decode cL_law 989 = .ok (.iconst 2, 1) := by decide +kernel
theorem dL_law_990 : decode cL_law 990 = .ok (.iadd, 1) := by decide +kernel
theorem dL_law_991 : decode cL_law 991 = .ok (.iaload, 1) := by decide +kernel
theorem dL_law_992 : decode cL_law 992 = .ok (.invokevirtual 101, 3) := by decide +kernel
theorem dL_law_995 : decode cL_law 995 = .ok (.if_icmp .eq 790, 3) := by decide +kernel
theorem dL_law_998 : decode cL_law 998 = .ok (.iconst 0, 1) := by decide +kernel
theorem dL_law_999 : decode cL_law 999 = .ok (.ireturn, 1) := by decide +kernel
theorem dL_law_1000 : decode cL_law 1000 = .ok (.aload_n 1, 1) := by decide +kernel
theorem dL_law_1001 : decode cL_law 1001 = .ok (.aload_n 0, 1) := by decide +kernel
theorem dL_law_1002 : decode cL_law 1002 = .ok (.iload 4, 2) := by decide +kernel
theorem dL_law_1004 : decode cL_law 1004 = .ok (.iconst 1, 1) := by decide +kernel
theorem dL_law_1005 : decode cL_law 1005 = .ok (.iadd, 1) := by decide +kernel
theorem dL_law_1006 : decode cL_law 1006 = .ok (.iaload, 1) := by decide +kernel
theorem dL_law_1007 : decode cL_law 1007 = .ok (.aload_n 0, 1) := by decide +kernel
theorem dL_law_1008 : decode cL_law 1008 = .ok (.iload 4, 2) := by decide +kernel
theorem dL_law_1010 : decode cL_law 1010 = .ok (.iconst 2, 1) := by decide +kernel
theorem dL_law_1011 : decode cL_law 1011 = .ok (.iadd, 1) := by decide +kernel
theorem dL_law_1012 : decode cL_law 1012 = .ok (.iaload, 1) := by decide +kernel
theorem dL_law_1013 : decode cL_law 1013 = .ok (.invokevirtual 102, 3) := by decide +kernel
theorem dL_law_1016 : decode cL_law 1016 = .ok (.aload_n 2, 1) := by decide +kernel
theorem dL_law_1017 : decode cL_law 1017 = .ok (.aload_n 0, 1) := by decide +kernel
theorem dL_law_1018 : decode cL_law 1018 = .ok (.iload 4, 2) := by decide +kernel
theorem dL_law_1020 : decode cL_law 1020 = .ok (.iconst 1, 1) := by decide +kernel
theorem dL_law_1021 : decode cL_law 1021 = .ok (.iadd, 1) := by decide +kernel
theorem dL_law_1022 : decode cL_law 1022 = .ok (.iaload, 1) := by decide +kernel
theorem dL_law_1023 : decode cL_law 1023 = .ok (.aload_n 0, 1) := by decide +kernel
theorem dL_law_1024 : decode cL_law 1024 = .ok (.iload 4, 2) := by decide +kernel
theorem dL_law_1026 : decode cL_law 1026 = .ok (.iconst 2, 1) := by decide +kernel
theorem dL_law_1027 : decode cL_law 1027 = .ok (.iadd, 1) := by decide +kernel
theorem dL_law_1028 : decode cL_law 1028 = .ok (.iaload, 1) := by decide +kernel
theorem dL_law_1029 : decode cL_law 1029 = .ok (.invokevirtual 105, 3) := by decide +kernel
theorem dL_law_1032 : decode cL_law 1032 = .ok (.if_icmp .eq 753, 3) := by decide +kernel
theorem dL_law_1035 : decode cL_law 1035 = .ok (.iconst 0, 1) := by decide +kernel
theorem dL_law_1036 : decode cL_law 1036 = .ok (.ireturn, 1) := by decide +kernel
theorem dL_law_1037 : decode cL_law 1037 = .ok (.aload_n 1, 1) := by decide +kernel
theorem dL_law_1038 : decode cL_law 1038 = .ok (.aload_n 0, 1) := by decide +kernel
theorem dL_law_1039 : decode cL_law 1039 = .ok (.iload 4, 2) := by decide +kernel
theorem dL_law_1041 : decode cL_law 1041 = .ok (.iconst 1, 1) := by decide +kernel
theorem dL_law_1042 : decode cL_law 1042 = .ok (.iadd, 1) := by decide +kernel
theorem dL_law_1043 : decode cL_law 1043 = .ok (.iaload, 1) := by decide +kernel
theorem dL_law_1044 : decode cL_law 1044 = .ok (.aload_n 0, 1) := by decide +kernel
theorem dL_law_1045 : decode cL_law 1045 = .ok (.iload 4, 2) := by decide +kernel
theorem dL_law_1047 : decode cL_law 1047 = .ok (.iconst 2, 1) := by decide +kernel
theorem dL_law_1048 : decode cL_law 1048 = .ok (.iadd, 1) := by decide +kernel
theorem dL_law_1049 : decode cL_law 1049 = .ok (.iaload, 1) := by decide +kernel
theorem dL_law_1050 : decode cL_law 1050 = .ok (.aload_n 0, 1) := by decide +kernel
theorem dL_law_1051 : decode cL_law 1051 = .ok (.iload 4, 2) := by decide +kernel
theorem dL_law_1053 : decode cL_law 1053 = .ok (.iconst 3, 1) := by decide +kernel
theorem dL_law_1054 : decode cL_law 1054 = .ok (.iadd, 1) := by decide +kernel
theorem dL_law_1055 : decode cL_law 1055 = .ok (.iaload, 1) := by decide +kernel
theorem dL_law_1056 : decode cL_law 1056 = .ok (.invokevirtual 106, 3) := by decide +kernel
theorem dL_law_1059 : decode cL_law 1059 = .ok (.aload_n 2, 1) := by decide +kernel
theorem dL_law_1060 : decode cL_law 1060 = .ok (.aload_n 0, 1) := by decide +kernel
theorem dL_law_1061 : decode cL_law 1061 = .ok (.iload 4, 2) := by decide +kernel
theorem dL_law_1063 : decode cL_law 1063 = .ok (.iconst 1, 1) := by decide +kernel
theorem dL_law_1064 : decode cL_law 1064 = .ok (.iadd, 1) := by decide +kernel
theorem dL_law_1065 : decode cL_law 1065 = .ok (.iaload, 1) := by decide +kernel
theorem dL_law_1066 : decode cL_law 1066 = .ok (.aload_n 0, 1) := by decide +kernel
theorem dL_law_1067 : decode cL_law 1067 = .ok (.iload 4, 2) := by decide +kernel
theorem dL_law_1069 : decode cL_law 1069 = .ok (.iconst 2, 1) := by decide +kernel
theorem dL_law_1070 : decode cL_law 1070 = .ok (.iadd, 1) := by decide +kernel
theorem dL_law_1071 : decode cL_law 1071 = .ok (.iaload, 1) := by decide +kernel
theorem dL_law_1072 : decode cL_law 1072 = .ok (.aload_n 0, 1) := by decide +kernel
theorem dL_law_1073 : decode cL_law 1073 = .ok (.iload 4, 2) := by decide +kernel
theorem dL_law_1075 : decode cL_law 1075 = .ok (.iconst 3, 1) := by decide +kernel
theorem dL_law_1076 : decode cL_law 1076 = .ok (.iadd, 1) := by decide +kernel
theorem dL_law_1077 : decode cL_law 1077 = .ok (.iaload, 1) := by decide +kernel
theorem dL_law_1078 : decode cL_law 1078 = .ok (.invokevirtual 109, 3) := by decide +kernel
theorem dL_law_1081 : decode cL_law 1081 = .ok (.if_icmp .eq 704, 3) := by decide +kernel
theorem dL_law_1084 : decode cL_law 1084 = .ok (.iconst 0, 1) := by decide +kernel
theorem dL_law_1085 : decode cL_law 1085 = .ok (.ireturn, 1) := by decide +kernel
theorem dL_law_1086 : decode cL_law 1086 = .ok (.aload_n 1, 1) := by decide +kernel
theorem dL_law_1087 : decode cL_law 1087 = .ok (.aload_n 0, 1) := by decide +kernel
theorem dL_law_1088 : decode cL_law 1088 = .ok (.iload 4, 2) := by decide +kernel
theorem dL_law_1090 : decode cL_law 1090 = .ok (.iconst 1, 1) := by decide +kernel
theorem dL_law_1091 : decode cL_law 1091 = .ok (.iadd, 1) := by decide +kernel
theorem dL_law_1092 : decode cL_law 1092 = .ok (.iaload, 1) := by decide +kernel
theorem dL_law_1093 : decode cL_law 1093 = .ok (.aload_n 0, 1) := by decide +kernel
theorem dL_law_1094 : decode cL_law 1094 = .ok (.iload 4, 2) := by decide +kernel
theorem dL_law_1096 : decode cL_law 1096 = .ok (.iconst 2, 1) := by decide +kernel
theorem dL_law_1097 : decode cL_law 1097 = .ok (.iadd, 1) := by decide +kernel
theorem dL_law_1098 : decode cL_law 1098 = .ok (.iaload, 1) := by decide +kernel
theorem dL_law_1099 : decode cL_law 1099 = .ok (.invokevirtual 110, 3) := by decide +kernel
theorem dL_law_1102 : decode cL_law 1102 = .ok (.aload_n 2, 1) := by decide +kernel
theorem dL_law_1103 : decode cL_law 1103 = .ok (.aload_n 0, 1) := by decide +kernel
theorem dL_law_1104 : decode cL_law 1104 = .ok (.iload 4, 2) := by decide +kernel
theorem dL_law_1106 : decode cL_law 1106 = .ok (.iconst 1, 1) := by decide +kernel
theorem dL_law_1107 : decode cL_law 1107 = .ok (.iadd, 1) := by decide +kernel
theorem dL_law_1108 : decode cL_law 1108 = .ok (.iaload, 1) := by decide +kernel
theorem dL_law_1109 : decode cL_law 1109 = .ok (.aload_n 0, 1) := by decide +kernel
theorem dL_law_1110 : decode cL_law 1110 = .ok (.iload 4, 2) := by decide +kernel
theorem dL_law_1112 : decode cL_law 1112 = .ok (.iconst 2, 1) := by decide +kernel
theorem dL_law_1113 : decode cL_law 1113 = .ok (.iadd, 1) := by decide +kernel
theorem dL_law_1114 : decode cL_law 1114 = .ok (.iaload, 1) := by decide +kernel
theorem dL_law_1115 : decode cL_law 1115 = .ok (.invokevirtual 113, 3) := by decide +kernel
theorem dL_law_1118 : decode cL_law 1118 = .ok (.if_icmp .eq 667, 3) := by decide +kernel
theorem dL_law_1121 : decode cL_law 1121 = .ok (.iconst 0, 1) := by decide +kernel
theorem dL_law_1122 : decode cL_law 1122 = .ok (.ireturn, 1) := by decide +kernel
theorem dL_law_1123 : decode cL_law 1123 = .ok (.aload_n 1, 1) := by decide +kernel
theorem dL_law_1124 : decode cL_law 1124 = .ok (.aload_n 0, 1) := by decide +kernel
theorem dL_law_1125 : decode cL_law 1125 = .ok (.iload 4, 2) := by decide +kernel
theorem dL_law_1127 : decode cL_law 1127 = .ok (.iconst 1, 1) := by decide +kernel
theorem dL_law_1128 : decode cL_law 1128 = .ok (.iadd, 1) := by decide +kernel
theorem dL_law_1129 : decode cL_law 1129 = .ok (.iaload, 1) := by decide +kernel
theorem dL_law_1130 : decode cL_law 1130 = .ok (.aload_n 0, 1) := by decide +kernel
theorem dL_law_1131 : decode cL_law 1131 = .ok (.iload 4, 2) := by decide +kernel
theorem dL_law_1133 : decode cL_law 1133 = .ok (.iconst 2, 1) := by decide +kernel
theorem dL_law_1134 : decode cL_law 1134 = .ok (.iadd, 1) := by decide +kernel
theorem dL_law_1135 : decode cL_law 1135 = .ok (.iaload, 1) := by decide +kernel
theorem dL_law_1136 : decode cL_law 1136 = .ok (.invokevirtual 114, 3) := by decide +kernel
theorem dL_law_1139 : decode cL_law 1139 = .ok (.aload_n 2, 1) := by decide +kernel
theorem dL_law_1140 : decode cL_law 1140 = .ok (.aload_n 0, 1) := by decide +kernel
theorem dL_law_1141 : decode cL_law 1141 = .ok (.iload 4, 2) := by decide +kernel
theorem dL_law_1143 : decode cL_law 1143 = .ok (.iconst 1, 1) := by decide +kernel
theorem dL_law_1144 : decode cL_law 1144 = .ok (.iadd, 1) := by decide +kernel
theorem dL_law_1145 : decode cL_law 1145 = .ok (.iaload, 1) := by decide +kernel
theorem dL_law_1146 : decode cL_law 1146 = .ok (.aload_n 0, 1) := by decide +kernel
theorem dL_law_1147 : decode cL_law 1147 = .ok (.iload 4, 2) := by decide +kernel
theorem dL_law_1149 : decode cL_law 1149 = .ok (.iconst 2, 1) := by decide +kernel
theorem dL_law_1150 : decode cL_law 1150 = .ok (.iadd, 1) := by decide +kernel
theorem dL_law_1151 : decode cL_law 1151 = .ok (.iaload, 1) := by decide +kernel
theorem dL_law_1152 : decode cL_law 1152 = .ok (.invokevirtual 117, 3) := by decide +kernel
theorem dL_law_1155 : decode cL_law 1155 = .ok (.if_icmp .eq 630, 3) := by decide +kernel
theorem dL_law_1158 : decode cL_law 1158 = .ok (.iconst 0, 1) := by decide +kernel
theorem dL_law_1159 : decode cL_law 1159 = .ok (.ireturn, 1) := by decide +kernel
theorem dL_law_1160 : decode cL_law 1160 = .ok (.aload_n 1, 1) := by decide +kernel
theorem dL_law_1161 : decode cL_law 1161 = .ok (.aload_n 0, 1) := by decide +kernel
theorem dL_law_1162 : decode cL_law 1162 = .ok (.iload 4, 2) := by decide +kernel
theorem dL_law_1164 : decode cL_law 1164 = .ok (.iconst 1, 1) := by decide +kernel
theorem dL_law_1165 : decode cL_law 1165 = .ok (.iadd, 1) := by decide +kernel
theorem dL_law_1166 : decode cL_law 1166 = .ok (.iaload, 1) := by decide +kernel
theorem dL_law_1167 : decode cL_law 1167 = .ok (.aload_n 0, 1) := by decide +kernel
theorem dL_law_1168 : decode cL_law 1168 = .ok (.iload 4, 2) := by decide +kernel
theorem dL_law_1170 : decode cL_law 1170 = .ok (.iconst 2, 1) := by decide +kernel
theorem dL_law_1171 : decode cL_law 1171 = .ok (.iadd, 1) := by decide +kernel
theorem dL_law_1172 : decode cL_law 1172 = .ok (.iaload, 1) := by decide +kernel
theorem dL_law_1173 : decode cL_law 1173 = .ok (.invokevirtual 118, 3) := by decide +kernel
theorem dL_law_1176 : decode cL_law 1176 = .ok (.aload_n 2, 1) := by decide +kernel
theorem dL_law_1177 : decode cL_law 1177 = .ok (.aload_n 0, 1) := by decide +kernel
theorem dL_law_1178 : decode cL_law 1178 = .ok (.iload 4, 2) := by decide +kernel
theorem dL_law_1180 : decode cL_law 1180 = .ok (.iconst 1, 1) := by decide +kernel
theorem dL_law_1181 : decode cL_law 1181 = .ok (.iadd, 1) := by decide +kernel
theorem dL_law_1182 : decode cL_law 1182 = .ok (.iaload, 1) := by decide +kernel
theorem dL_law_1183 : decode cL_law 1183 = .ok (.aload_n 0, 1) := by decide +kernel
theorem dL_law_1184 : decode cL_law 1184 = .ok (.iload 4, 2) := by decide +kernel
theorem dL_law_1186 : decode cL_law 1186 = .ok (.iconst 2, 1) := by decide +kernel
theorem dL_law_1187 : decode cL_law 1187 = .ok (.iadd, 1) := by decide +kernel
theorem dL_law_1188 : decode cL_law 1188 = .ok (.iaload, 1) := by decide +kernel
theorem dL_law_1189 : decode cL_law 1189 = .ok (.invokevirtual 121, 3) := by decide +kernel
theorem dL_law_1192 : decode cL_law 1192 = .ok (.if_icmp .eq 593, 3) := by decide +kernel
theorem dL_law_1195 : decode cL_law 1195 = .ok (.iconst 0, 1) := by decide +kernel
theorem dL_law_1196 : decode cL_law 1196 = .ok (.ireturn, 1) := by decide +kernel
theorem dL_law_1197 : decode cL_law 1197 = .ok (.aload_n 1, 1) := by decide +kernel
theorem dL_law_1198 : decode cL_law 1198 = .ok (.aload_n 0, 1) := by decide +kernel
theorem dL_law_1199 : decode cL_law 1199 = .ok (.iload 4, 2) := by decide +kernel
theorem dL_law_1201 : decode cL_law 1201 = .ok (.iconst 1, 1) := by decide +kernel
theorem dL_law_1202 : decode cL_law 1202 = .ok (.iadd, 1) := by decide +kernel
theorem dL_law_1203 : decode cL_law 1203 = .ok (.iaload, 1) := by decide +kernel
theorem dL_law_1204 : decode cL_law 1204 = .ok (.invokevirtual 122, 3) := by decide +kernel
theorem dL_law_1207 : decode cL_law 1207 = .ok (.aload_n 2, 1) := by decide +kernel
theorem dL_law_1208 : decode cL_law 1208 = .ok (.aload_n 0, 1) := by decide +kernel
theorem dL_law_1209 : decode cL_law 1209 = .ok (.iload 4, 2) := by decide +kernel
theorem dL_law_1211 : decode cL_law 1211 = .ok (.iconst 1, 1) := by decide +kernel
theorem dL_law_1212 : decode cL_law 1212 = .ok (.iadd, 1) := by decide +kernel
theorem dL_law_1213 : decode cL_law 1213 = .ok (.iaload, 1) := by decide +kernel
theorem dL_law_1214 : decode cL_law 1214 = .ok (.invokevirtual 126, 3) := by decide +kernel
theorem dL_law_1217 : decode cL_law 1217 = .ok (.if_icmp .eq 568, 3) := by decide +kernel
theorem dL_law_1220 : decode cL_law 1220 = .ok (.iconst 0, 1) := by decide +kernel
theorem dL_law_1221 : decode cL_law 1221 = .ok (.ireturn, 1) := by decide +kernel
theorem dL_law_1222 : decode cL_law 1222 = .ok (.aload_n 1, 1) := by decide +kernel
theorem dL_law_1223 : decode cL_law 1223 = .ok (.aload_n 0, 1) := by decide +kernel
theorem dL_law_1224 : decode cL_law 1224 = .ok (.iload 4, 2) := by decide +kernel
theorem dL_law_1226 : decode cL_law 1226 = .ok (.iconst 1, 1) := by decide +kernel
theorem dL_law_1227 : decode cL_law 1227 = .ok (.iadd, 1) := by decide +kernel
theorem dL_law_1228 : decode cL_law 1228 = .ok (.iaload, 1) := by decide +kernel
theorem dL_law_1229 : decode cL_law 1229 = .ok (.aload_n 0, 1) := by decide +kernel
theorem dL_law_1230 : decode cL_law 1230 = .ok (.iload 4, 2) := by decide +kernel
theorem dL_law_1232 : decode cL_law 1232 = .ok (.iconst 2, 1) := by decide +kernel
theorem dL_law_1233 : decode cL_law 1233 = .ok (.iadd, 1) := by decide +kernel
theorem dL_law_1234 : decode cL_law 1234 = .ok (.iaload, 1) := by decide +kernel
theorem dL_law_1235 : decode cL_law 1235 = .ok (.invokevirtual 127, 3) := by decide +kernel
theorem dL_law_1238 : decode cL_law 1238 = .ok (.aload_n 2, 1) := by decide +kernel
theorem dL_law_1239 : decode cL_law 1239 = .ok (.aload_n 0, 1) := by decide +kernel
theorem dL_law_1240 : decode cL_law 1240 = .ok (.iload 4, 2) := by decide +kernel
theorem dL_law_1242 : decode cL_law 1242 = .ok (.iconst 1, 1) := by decide +kernel
theorem dL_law_1243 : decode cL_law 1243 = .ok (.iadd, 1) := by decide +kernel
theorem dL_law_1244 : decode cL_law 1244 = .ok (.iaload, 1) := by decide +kernel
theorem dL_law_1245 : decode cL_law 1245 = .ok (.aload_n 0, 1) := by decide +kernel
theorem dL_law_1246 : decode cL_law 1246 = .ok (.iload 4, 2) := by decide +kernel
theorem dL_law_1248 : decode cL_law 1248 = .ok (.iconst 2, 1) := by decide +kernel
theorem dL_law_1249 : decode cL_law 1249 = .ok (.iadd, 1) := by decide +kernel
theorem dL_law_1250 : decode cL_law 1250 = .ok (.iaload, 1) := by decide +kernel
theorem dL_law_1251 : decode cL_law 1251 = .ok (.invokevirtual 130, 3) := by decide +kernel
theorem dL_law_1254 : decode cL_law 1254 = .ok (.if_icmp .eq 531, 3) := by decide +kernel
theorem dL_law_1257 : decode cL_law 1257 = .ok (.iconst 0, 1) := by decide +kernel
theorem dL_law_1258 : decode cL_law 1258 = .ok (.ireturn, 1) := by decide +kernel
theorem dL_law_1259 : decode cL_law 1259 = .ok (.aload_n 1, 1) := by decide +kernel
theorem dL_law_1260 : decode cL_law 1260 = .ok (.aload_n 0, 1) := by decide +kernel
theorem dL_law_1261 : decode cL_law 1261 = .ok (.iload 4, 2) := by decide +kernel
theorem dL_law_1263 : decode cL_law 1263 = .ok (.iconst 1, 1) := by decide +kernel
theorem dL_law_1264 : decode cL_law 1264 = .ok (.iadd, 1) := by decide +kernel
theorem dL_law_1265 : decode cL_law 1265 = .ok (.iaload, 1) := by decide +kernel
theorem dL_law_1266 : decode cL_law 1266 = .ok (.invokevirtual 131, 3) := by decide +kernel
theorem dL_law_1269 : decode cL_law 1269 = .ok (.aload_n 2, 1) := by decide +kernel
theorem dL_law_1270 : decode cL_law 1270 = .ok (.aload_n 0, 1) := by decide +kernel
theorem dL_law_1271 : decode cL_law 1271 = .ok (.iload 4, 2) := by decide +kernel
theorem dL_law_1273 : decode cL_law 1273 = .ok (.iconst 1, 1) := by decide +kernel
theorem dL_law_1274 : decode cL_law 1274 = .ok (.iadd, 1) := by decide +kernel
theorem dL_law_1275 : decode cL_law 1275 = .ok (.iaload, 1) := by decide +kernel
theorem dL_law_1276 : decode cL_law 1276 = .ok (.invokevirtual 134, 3) := by decide +kernel
theorem dL_law_1279 : decode cL_law 1279 = .ok (.if_icmp .eq 506, 3) := by decide +kernel
theorem dL_law_1282 : decode cL_law 1282 = .ok (.iconst 0, 1) := by decide +kernel
theorem dL_law_1283 : decode cL_law 1283 = .ok (.ireturn, 1) := by decide +kernel
theorem dL_law_1284 : decode cL_law 1284 = .ok (.aload_n 1, 1) := by decide +kernel
theorem dL_law_1285 : decode cL_law 1285 = .ok (.aload_n 0, 1) := by decide +kernel
theorem dL_law_1286 : decode cL_law 1286 = .ok (.iload 4, 2) := by decide +kernel
theorem dL_law_1288 : decode cL_law 1288 = .ok (.iconst 1, 1) := by decide +kernel
theorem dL_law_1289 : decode cL_law 1289 = .ok (.iadd, 1) := by decide +kernel
theorem dL_law_1290 : decode cL_law 1290 = .ok (.iaload, 1) := by decide +kernel
theorem dL_law_1291 : decode cL_law 1291 = .ok (.aload_n 0, 1) := by decide +kernel
theorem dL_law_1292 : decode cL_law 1292 = .ok (.iload 4, 2) := by decide +kernel
theorem dL_law_1294 : decode cL_law 1294 = .ok (.iconst 2, 1) := by decide +kernel
theorem dL_law_1295 : decode cL_law 1295 = .ok (.iadd, 1) := by decide +kernel
theorem dL_law_1296 : decode cL_law 1296 = .ok (.iaload, 1) := by decide +kernel
theorem dL_law_1297 : decode cL_law 1297 = .ok (.aload_n 0, 1) := by decide +kernel
theorem dL_law_1298 : decode cL_law 1298 = .ok (.iload 4, 2) := by decide +kernel
theorem dL_law_1300 : decode cL_law 1300 = .ok (.iconst 3, 1) := by decide +kernel
theorem dL_law_1301 : decode cL_law 1301 = .ok (.iadd, 1) := by decide +kernel
theorem dL_law_1302 : decode cL_law 1302 = .ok (.iaload, 1) := by decide +kernel
theorem dL_law_1303 : decode cL_law 1303 = .ok (.aload_n 0, 1) := by decide +kernel
theorem dL_law_1304 : decode cL_law 1304 = .ok (.iload 4, 2) := by decide +kernel
theorem dL_law_1306 : decode cL_law 1306 = .ok (.iconst 4, 1) := by decide +kernel
theorem dL_law_1307 : decode cL_law 1307 = .ok (.iadd, 1) := by decide +kernel
theorem dL_law_1308 : decode cL_law 1308 = .ok (.iaload, 1) := by decide +kernel
theorem dL_law_1309 : decode cL_law 1309 = .ok (.invokevirtual 135, 3) := by decide +kernel
theorem dL_law_1312 : decode cL_law 1312 = .ok (.aload_n 2, 1) := by decide +kernel
theorem dL_law_1313 : decode cL_law 1313 = .ok (.aload_n 0, 1) := by decide +kernel
theorem dL_law_1314 : decode cL_law 1314 = .ok (.iload 4, 2) := by decide +kernel
theorem dL_law_1316 : decode cL_law 1316 = .ok (.iconst 1, 1) := by decide +kernel
theorem dL_law_1317 : decode cL_law 1317 = .ok (.iadd, 1) := by decide +kernel
theorem dL_law_1318 : decode cL_law 1318 = .ok (.iaload, 1) := by decide +kernel
theorem dL_law_1319 : decode cL_law 1319 = .ok (.aload_n 0, 1) := by decide +kernel
theorem dL_law_1320 : decode cL_law 1320 = .ok (.iload 4, 2) := by decide +kernel
theorem dL_law_1322 : decode cL_law 1322 = .ok (.iconst 2, 1) := by decide +kernel
theorem dL_law_1323 : decode cL_law 1323 = .ok (.iadd, 1) := by decide +kernel
theorem dL_law_1324 : decode cL_law 1324 = .ok (.iaload, 1) := by decide +kernel
theorem dL_law_1325 : decode cL_law 1325 = .ok (.aload_n 0, 1) := by decide +kernel
theorem dL_law_1326 : decode cL_law 1326 = .ok (.iload 4, 2) := by decide +kernel
theorem dL_law_1328 : decode cL_law 1328 = .ok (.iconst 3, 1) := by decide +kernel
theorem dL_law_1329 : decode cL_law 1329 = .ok (.iadd, 1) := by decide +kernel
theorem dL_law_1330 : decode cL_law 1330 = .ok (.iaload, 1) := by decide +kernel
theorem dL_law_1331 : decode cL_law 1331 = .ok (.aload_n 0, 1) := by decide +kernel
theorem dL_law_1332 : decode cL_law 1332 = .ok (.iload 4, 2) := by decide +kernel
theorem dL_law_1334 : decode cL_law 1334 = .ok (.iconst 4, 1) := by decide +kernel
theorem dL_law_1335 : decode cL_law 1335 = .ok (.iadd, 1) := by decide +kernel
theorem dL_law_1336 : decode cL_law 1336 = .ok (.iaload, 1) := by decide +kernel
theorem dL_law_1337 : decode cL_law 1337 = .ok (.invokevirtual 139, 3) := by decide +kernel
theorem dL_law_1340 : decode cL_law 1340 = .ok (.if_icmp .eq 445, 3) := by decide +kernel
theorem dL_law_1343 : decode cL_law 1343 = .ok (.iconst 0, 1) := by decide +kernel
theorem dL_law_1344 : decode cL_law 1344 = .ok (.ireturn, 1) := by decide +kernel
theorem dL_law_1345 : decode cL_law 1345 = .ok (.aload_n 1, 1) := by decide +kernel
theorem dL_law_1346 : decode cL_law 1346 = .ok (.aload_n 0, 1) := by decide +kernel
theorem dL_law_1347 : decode cL_law 1347 = .ok (.iload 4, 2) := by decide +kernel
theorem dL_law_1349 : decode cL_law 1349 = .ok (.iconst 1, 1) := by decide +kernel
theorem dL_law_1350 : decode cL_law 1350 = .ok (.iadd, 1) := by decide +kernel
theorem dL_law_1351 : decode cL_law 1351 = .ok (.iaload, 1) := by decide +kernel
theorem dL_law_1352 : decode cL_law 1352 = .ok (.aload_n 0, 1) := by decide +kernel
theorem dL_law_1353 : decode cL_law 1353 = .ok (.iload 4, 2) := by decide +kernel
theorem dL_law_1355 : decode cL_law 1355 = .ok (.iconst 2, 1) := by decide +kernel
theorem dL_law_1356 : decode cL_law 1356 = .ok (.iadd, 1) := by decide +kernel
theorem dL_law_1357 : decode cL_law 1357 = .ok (.iaload, 1) := by decide +kernel
theorem dL_law_1358 : decode cL_law 1358 = .ok (.aload_n 0, 1) := by decide +kernel
theorem dL_law_1359 : decode cL_law 1359 = .ok (.iload 4, 2) := by decide +kernel
theorem dL_law_1361 : decode cL_law 1361 = .ok (.iconst 3, 1) := by decide +kernel
theorem dL_law_1362 : decode cL_law 1362 = .ok (.iadd, 1) := by decide +kernel
theorem dL_law_1363 : decode cL_law 1363 = .ok (.iaload, 1) := by decide +kernel
theorem dL_law_1364 : decode cL_law 1364 = .ok (.invokevirtual 140, 3) := by decide +kernel
theorem dL_law_1367 : decode cL_law 1367 = .ok (.aload_n 2, 1) := by decide +kernel
theorem dL_law_1368 : decode cL_law 1368 = .ok (.aload_n 0, 1) := by decide +kernel
theorem dL_law_1369 : decode cL_law 1369 = .ok (.iload 4, 2) := by decide +kernel
theorem dL_law_1371 : decode cL_law 1371 = .ok (.iconst 1, 1) := by decide +kernel
theorem dL_law_1372 : decode cL_law 1372 = .ok (.iadd, 1) := by decide +kernel
theorem dL_law_1373 : decode cL_law 1373 = .ok (.iaload, 1) := by decide +kernel
theorem dL_law_1374 : decode cL_law 1374 = .ok (.aload_n 0, 1) := by decide +kernel
theorem dL_law_1375 : decode cL_law 1375 = .ok (.iload 4, 2) := by decide +kernel
theorem dL_law_1377 : decode cL_law 1377 = .ok (.iconst 2, 1) := by decide +kernel
theorem dL_law_1378 : decode cL_law 1378 = .ok (.iadd, 1) := by decide +kernel
theorem dL_law_1379 : decode cL_law 1379 = .ok (.iaload, 1) := by decide +kernel
theorem dL_law_1380 : decode cL_law 1380 = .ok (.aload_n 0, 1) := by decide +kernel
theorem dL_law_1381 : decode cL_law 1381 = .ok (.iload 4, 2) := by decide +kernel
theorem dL_law_1383 : decode cL_law 1383 = .ok (.iconst 3, 1) := by decide +kernel
theorem dL_law_1384 : decode cL_law 1384 = .ok (.iadd, 1) := by decide +kernel
theorem dL_law_1385 : decode cL_law 1385 = .ok (.iaload, 1) := by decide +kernel
theorem dL_law_1386 : decode cL_law 1386 = .ok (.invokevirtual 143, 3) := by decide +kernel
theorem dL_law_1389 : decode cL_law 1389 = .ok (.if_icmp .eq 396, 3) := by decide +kernel
theorem dL_law_1392 : decode cL_law 1392 = .ok (.iconst 0, 1) := by decide +kernel
theorem dL_law_1393 : decode cL_law 1393 = .ok (.ireturn, 1) := by decide +kernel
theorem dL_law_1394 : decode cL_law 1394 = .ok (.aload_n 1, 1) := by decide +kernel
theorem dL_law_1395 : decode cL_law 1395 = .ok (.aload_n 0, 1) := by decide +kernel
theorem dL_law_1396 : decode cL_law 1396 = .ok (.iload 4, 2) := by decide +kernel
theorem dL_law_1398 : decode cL_law 1398 = .ok (.iconst 1, 1) := by decide +kernel
theorem dL_law_1399 : decode cL_law 1399 = .ok (.iadd, 1) := by decide +kernel
theorem dL_law_1400 : decode cL_law 1400 = .ok (.iaload, 1) := by decide +kernel
theorem dL_law_1401 : decode cL_law 1401 = .ok (.aload_n 0, 1) := by decide +kernel
theorem dL_law_1402 : decode cL_law 1402 = .ok (.iload 4, 2) := by decide +kernel
theorem dL_law_1404 : decode cL_law 1404 = .ok (.iconst 2, 1) := by decide +kernel
theorem dL_law_1405 : decode cL_law 1405 = .ok (.iadd, 1) := by decide +kernel
theorem dL_law_1406 : decode cL_law 1406 = .ok (.iaload, 1) := by decide +kernel
theorem dL_law_1407 : decode cL_law 1407 = .ok (.aload_n 0, 1) := by decide +kernel
theorem dL_law_1408 : decode cL_law 1408 = .ok (.iload 4, 2) := by decide +kernel
theorem dL_law_1410 : decode cL_law 1410 = .ok (.iconst 3, 1) := by decide +kernel
theorem dL_law_1411 : decode cL_law 1411 = .ok (.iadd, 1) := by decide +kernel
theorem dL_law_1412 : decode cL_law 1412 = .ok (.iaload, 1) := by decide +kernel
theorem dL_law_1413 : decode cL_law 1413 = .ok (.invokevirtual 144, 3) := by decide +kernel
theorem dL_law_1416 : decode cL_law 1416 = .ok (.aload_n 2, 1) := by decide +kernel
theorem dL_law_1417 : decode cL_law 1417 = .ok (.aload_n 0, 1) := by decide +kernel
theorem dL_law_1418 : decode cL_law 1418 = .ok (.iload 4, 2) := by decide +kernel
theorem dL_law_1420 : decode cL_law 1420 = .ok (.iconst 1, 1) := by decide +kernel
theorem dL_law_1421 : decode cL_law 1421 = .ok (.iadd, 1) := by decide +kernel
theorem dL_law_1422 : decode cL_law 1422 = .ok (.iaload, 1) := by decide +kernel
theorem dL_law_1423 : decode cL_law 1423 = .ok (.aload_n 0, 1) := by decide +kernel
theorem dL_law_1424 : decode cL_law 1424 = .ok (.iload 4, 2) := by decide +kernel
theorem dL_law_1426 : decode cL_law 1426 = .ok (.iconst 2, 1) := by decide +kernel
theorem dL_law_1427 : decode cL_law 1427 = .ok (.iadd, 1) := by decide +kernel
theorem dL_law_1428 : decode cL_law 1428 = .ok (.iaload, 1) := by decide +kernel
theorem dL_law_1429 : decode cL_law 1429 = .ok (.aload_n 0, 1) := by decide +kernel
theorem dL_law_1430 : decode cL_law 1430 = .ok (.iload 4, 2) := by decide +kernel
theorem dL_law_1432 : decode cL_law 1432 = .ok (.iconst 3, 1) := by decide +kernel
theorem dL_law_1433 : decode cL_law 1433 = .ok (.iadd, 1) := by decide +kernel
theorem dL_law_1434 : decode cL_law 1434 = .ok (.iaload, 1) := by decide +kernel
theorem dL_law_1435 : decode cL_law 1435 = .ok (.invokevirtual 147, 3) := by decide +kernel
theorem dL_law_1438 : decode cL_law 1438 = .ok (.if_icmp .eq 347, 3) := by decide +kernel
theorem dL_law_1441 : decode cL_law 1441 = .ok (.iconst 0, 1) := by decide +kernel
theorem dL_law_1442 : decode cL_law 1442 = .ok (.ireturn, 1) := by decide +kernel
theorem dL_law_1443 : decode cL_law 1443 = .ok (.aload_n 1, 1) := by decide +kernel
theorem dL_law_1444 : decode cL_law 1444 = .ok (.aload_n 0, 1) := by decide +kernel
theorem dL_law_1445 : decode cL_law 1445 = .ok (.iload 4, 2) := by decide +kernel
theorem dL_law_1447 : decode cL_law 1447 = .ok (.iconst 1, 1) := by decide +kernel
theorem dL_law_1448 : decode cL_law 1448 = .ok (.iadd, 1) := by decide +kernel
theorem dL_law_1449 : decode cL_law 1449 = .ok (.iaload, 1) := by decide +kernel
theorem dL_law_1450 : decode cL_law 1450 = .ok (.aload_n 0, 1) := by decide +kernel
theorem dL_law_1451 : decode cL_law 1451 = .ok (.iload 4, 2) := by decide +kernel
theorem dL_law_1453 : decode cL_law 1453 = .ok (.iconst 2, 1) := by decide +kernel
theorem dL_law_1454 : decode cL_law 1454 = .ok (.iadd, 1) := by decide +kernel
theorem dL_law_1455 : decode cL_law 1455 = .ok (.iaload, 1) := by decide +kernel
theorem dL_law_1456 : decode cL_law 1456 = .ok (.invokevirtual 148, 3) := by decide +kernel
theorem dL_law_1459 : decode cL_law 1459 = .ok (.aload_n 2, 1) := by decide +kernel
theorem dL_law_1460 : decode cL_law 1460 = .ok (.aload_n 0, 1) := by decide +kernel
theorem dL_law_1461 : decode cL_law 1461 = .ok (.iload 4, 2) := by decide +kernel
theorem dL_law_1463 : decode cL_law 1463 = .ok (.iconst 1, 1) := by decide +kernel
theorem dL_law_1464 : decode cL_law 1464 = .ok (.iadd, 1) := by decide +kernel
theorem dL_law_1465 : decode cL_law 1465 = .ok (.iaload, 1) := by decide +kernel
theorem dL_law_1466 : decode cL_law 1466 = .ok (.aload_n 0, 1) := by decide +kernel
theorem dL_law_1467 : decode cL_law 1467 = .ok (.iload 4, 2) := by decide +kernel
theorem dL_law_1469 : decode cL_law 1469 = .ok (.iconst 2, 1) := by decide +kernel
theorem dL_law_1470 : decode cL_law 1470 = .ok (.iadd, 1) := by decide +kernel
theorem dL_law_1471 : decode cL_law 1471 = .ok (.iaload, 1) := by decide +kernel
theorem dL_law_1472 : decode cL_law 1472 = .ok (.invokevirtual 151, 3) := by decide +kernel
theorem dL_law_1475 : decode cL_law 1475 = .ok (.if_icmp .eq 310, 3) := by decide +kernel
theorem dL_law_1478 : decode cL_law 1478 = .ok (.iconst 0, 1) := by decide +kernel
theorem dL_law_1479 : decode cL_law 1479 = .ok (.ireturn, 1) := by decide +kernel
theorem dL_law_1480 : decode cL_law 1480 = .ok (.aload_n 1, 1) := by decide +kernel
theorem dL_law_1481 : decode cL_law 1481 = .ok (.aload_n 0, 1) := by decide +kernel
theorem dL_law_1482 : decode cL_law 1482 = .ok (.iload 4, 2) := by decide +kernel
theorem dL_law_1484 : decode cL_law 1484 = .ok (.iconst 1, 1) := by decide +kernel
theorem dL_law_1485 : decode cL_law 1485 = .ok (.iadd, 1) := by decide +kernel
theorem dL_law_1486 : decode cL_law 1486 = .ok (.iaload, 1) := by decide +kernel
theorem dL_law_1487 : decode cL_law 1487 = .ok (.aload_n 0, 1) := by decide +kernel
theorem dL_law_1488 : decode cL_law 1488 = .ok (.iload 4, 2) := by decide +kernel
theorem dL_law_1490 : decode cL_law 1490 = .ok (.iconst 2, 1) := by decide +kernel
theorem dL_law_1491 : decode cL_law 1491 = .ok (.iadd, 1) := by decide +kernel
theorem dL_law_1492 : decode cL_law 1492 = .ok (.iaload, 1) := by decide +kernel
theorem dL_law_1493 : decode cL_law 1493 = .ok (.invokevirtual 152, 3) := by decide +kernel
theorem dL_law_1496 : decode cL_law 1496 = .ok (.aload_n 2, 1) := by decide +kernel
theorem dL_law_1497 : decode cL_law 1497 = .ok (.aload_n 0, 1) := by decide +kernel
theorem dL_law_1498 : decode cL_law 1498 = .ok (.iload 4, 2) := by decide +kernel
theorem dL_law_1500 : decode cL_law 1500 = .ok (.iconst 1, 1) := by decide +kernel
theorem dL_law_1501 : decode cL_law 1501 = .ok (.iadd, 1) := by decide +kernel
theorem dL_law_1502 : decode cL_law 1502 = .ok (.iaload, 1) := by decide +kernel
theorem dL_law_1503 : decode cL_law 1503 = .ok (.aload_n 0, 1) := by decide +kernel
theorem dL_law_1504 : decode cL_law 1504 = .ok (.iload 4, 2) := by decide +kernel
theorem dL_law_1506 : decode cL_law 1506 = .ok (.iconst 2, 1) := by decide +kernel
theorem dL_law_1507 : decode cL_law 1507 = .ok (.iadd, 1) := by decide +kernel
theorem dL_law_1508 : decode cL_law 1508 = .ok (.iaload, 1) := by decide +kernel
theorem dL_law_1509 : decode cL_law 1509 = .ok (.invokevirtual 155, 3) := by decide +kernel
theorem dL_law_1512 : decode cL_law 1512 = .ok (.if_icmp .eq 273, 3) := by decide +kernel
theorem dL_law_1515 : decode cL_law 1515 = .ok (.iconst 0, 1) := by decide +kernel
theorem dL_law_1516 : decode cL_law 1516 = .ok (.ireturn, 1) := by decide +kernel
theorem dL_law_1517 : decode cL_law 1517 = .ok (.aload_n 1, 1) := by decide +kernel
theorem dL_law_1518 : decode cL_law 1518 = .ok (.aload_n 0, 1) := by decide +kernel
theorem dL_law_1519 : decode cL_law 1519 = .ok (.iload 4, 2) := by decide +kernel
theorem dL_law_1521 : decode cL_law 1521 = .ok (.iconst 1, 1) := by decide +kernel
theorem dL_law_1522 : decode cL_law 1522 = .ok (.iadd, 1) := by decide +kernel
theorem dL_law_1523 : decode cL_law 1523 = .ok (.iaload, 1) := by decide +kernel
theorem dL_law_1524 : decode cL_law 1524 = .ok (.invokevirtual 156, 3) := by decide +kernel
theorem dL_law_1527 : decode cL_law 1527 = .ok (.aload_n 2, 1) := by decide +kernel
theorem dL_law_1528 : decode cL_law 1528 = .ok (.aload_n 0, 1) := by decide +kernel
theorem dL_law_1529 : decode cL_law 1529 = .ok (.iload 4, 2) := by decide +kernel
theorem dL_law_1531 : decode cL_law 1531 = .ok (.iconst 1, 1) := by decide +kernel
theorem dL_law_1532 : decode cL_law 1532 = .ok (.iadd, 1) := by decide +kernel
theorem dL_law_1533 : decode cL_law 1533 = .ok (.iaload, 1) := by decide +kernel
theorem dL_law_1534 : decode cL_law 1534 = .ok (.invokevirtual 159, 3) := by decide +kernel
theorem dL_law_1537 : decode cL_law 1537 = .ok (.if_icmp .eq 248, 3) := by decide +kernel
theorem dL_law_1540 : decode cL_law 1540 = .ok (.iconst 0, 1) := by decide +kernel
theorem dL_law_1541 : decode cL_law 1541 = .ok (.ireturn, 1) := by decide +kernel
theorem dL_law_1542 : decode cL_law 1542 = .ok (.aload_n 1, 1) := by decide +kernel
theorem dL_law_1543 : decode cL_law 1543 = .ok (.aload_n 0, 1) := by decide +kernel
theorem dL_law_1544 : decode cL_law 1544 = .ok (.iload 4, 2) := by decide +kernel
theorem dL_law_1546 : decode cL_law 1546 = .ok (.iconst 1, 1) := by decide +kernel
theorem dL_law_1547 : decode cL_law 1547 = .ok (.iadd, 1) := by decide +kernel
theorem dL_law_1548 : decode cL_law 1548 = .ok (.iaload, 1) := by decide +kernel
theorem dL_law_1549 : decode cL_law 1549 = .ok (.aload_n 0, 1) := by decide +kernel
theorem dL_law_1550 : decode cL_law 1550 = .ok (.iload 4, 2) := by decide +kernel
theorem dL_law_1552 : decode cL_law 1552 = .ok (.iconst 2, 1) := by decide +kernel
theorem dL_law_1553 : decode cL_law 1553 = .ok (.iadd, 1) := by decide +kernel
theorem dL_law_1554 : decode cL_law 1554 = .ok (.iaload, 1) := by decide +kernel
theorem dL_law_1555 : decode cL_law 1555 = .ok (.invokevirtual 160, 3) := by decide +kernel
theorem dL_law_1558 : decode cL_law 1558 = .ok (.aload_n 2, 1) := by decide +kernel
theorem dL_law_1559 : decode cL_law 1559 = .ok (.aload_n 0, 1) := by decide +kernel
theorem dL_law_1560 : decode cL_law 1560 = .ok (.iload 4, 2) := by decide +kernel
theorem dL_law_1562 : decode cL_law 1562 = .ok (.iconst 1, 1) := by decide +kernel
theorem dL_law_1563 : decode cL_law 1563 = .ok (.iadd, 1) := by decide +kernel
theorem dL_law_1564 : decode cL_law 1564 = .ok (.iaload, 1) := by decide +kernel
theorem dL_law_1565 : decode cL_law 1565 = .ok (.aload_n 0, 1) := by decide +kernel
theorem dL_law_1566 : decode cL_law 1566 = .ok (.iload 4, 2) := by decide +kernel
theorem dL_law_1568 : decode cL_law 1568 = .ok (.iconst 2, 1) := by decide +kernel
theorem dL_law_1569 : decode cL_law 1569 = .ok (.iadd, 1) := by decide +kernel
theorem dL_law_1570 : decode cL_law 1570 = .ok (.iaload, 1) := by decide +kernel
theorem dL_law_1571 : decode cL_law 1571 = .ok (.invokevirtual 163, 3) := by decide +kernel
theorem dL_law_1574 : decode cL_law 1574 = .ok (.if_icmp .eq 211, 3) := by decide +kernel
theorem dL_law_1577 : decode cL_law 1577 = .ok (.iconst 0, 1) := by decide +kernel
theorem dL_law_1578 : decode cL_law 1578 = .ok (.ireturn, 1) := by decide +kernel
theorem dL_law_1579 : decode cL_law 1579 = .ok (.aload_n 1, 1) := by decide +kernel
theorem dL_law_1580 : decode cL_law 1580 = .ok (.aload_n 0, 1) := by decide +kernel
theorem dL_law_1581 : decode cL_law 1581 = .ok (.iload 4, 2) := by decide +kernel
theorem dL_law_1583 : decode cL_law 1583 = .ok (.iconst 1, 1) := by decide +kernel
theorem dL_law_1584 : decode cL_law 1584 = .ok (.iadd, 1) := by decide +kernel
theorem dL_law_1585 : decode cL_law 1585 = .ok (.iaload, 1) := by decide +kernel
theorem dL_law_1586 : decode cL_law 1586 = .ok (.aload_n 0, 1) := by decide +kernel
theorem dL_law_1587 : decode cL_law 1587 = .ok (.iload 4, 2) := by decide +kernel
theorem dL_law_1589 : decode cL_law 1589 = .ok (.iconst 2, 1) := by decide +kernel
theorem dL_law_1590 : decode cL_law 1590 = .ok (.iadd, 1) := by decide +kernel
theorem dL_law_1591 : decode cL_law 1591 = .ok (.iaload, 1) := by decide +kernel
theorem dL_law_1592 : decode cL_law 1592 = .ok (.aload_n 0, 1) := by decide +kernel
theorem dL_law_1593 : decode cL_law 1593 = .ok (.iload 4, 2) := by decide +kernel
theorem dL_law_1595 : decode cL_law 1595 = .ok (.iconst 3, 1) := by decide +kernel
theorem dL_law_1596 : decode cL_law 1596 = .ok (.iadd, 1) := by decide +kernel
theorem dL_law_1597 : decode cL_law 1597 = .ok (.iaload, 1) := by decide +kernel
theorem dL_law_1598 : decode cL_law 1598 = .ok (.invokevirtual 164, 3) := by decide +kernel
theorem dL_law_1601 : decode cL_law 1601 = .ok (.aload_n 2, 1) := by decide +kernel
theorem dL_law_1602 : decode cL_law 1602 = .ok (.aload_n 0, 1) := by decide +kernel
theorem dL_law_1603 : decode cL_law 1603 = .ok (.iload 4, 2) := by decide +kernel
theorem dL_law_1605 : decode cL_law 1605 = .ok (.iconst 1, 1) := by decide +kernel
theorem dL_law_1606 : decode cL_law 1606 = .ok (.iadd, 1) := by decide +kernel
theorem dL_law_1607 : decode cL_law 1607 = .ok (.iaload, 1) := by decide +kernel
theorem dL_law_1608 : decode cL_law 1608 = .ok (.aload_n 0, 1) := by decide +kernel
theorem dL_law_1609 : decode cL_law 1609 = .ok (.iload 4, 2) := by decide +kernel
theorem dL_law_1611 : decode cL_law 1611 = .ok (.iconst 2, 1) := by decide +kernel
theorem dL_law_1612 : decode cL_law 1612 = .ok (.iadd, 1) := by decide +kernel
theorem dL_law_1613 : decode cL_law 1613 = .ok (.iaload, 1) := by decide +kernel
theorem dL_law_1614 : decode cL_law 1614 = .ok (.aload_n 0, 1) := by decide +kernel
theorem dL_law_1615 : decode cL_law 1615 = .ok (.iload 4, 2) := by decide +kernel
theorem dL_law_1617 : decode cL_law 1617 = .ok (.iconst 3, 1) := by decide +kernel
theorem dL_law_1618 : decode cL_law 1618 = .ok (.iadd, 1) := by decide +kernel
theorem dL_law_1619 : decode cL_law 1619 = .ok (.iaload, 1) := by decide +kernel
theorem dL_law_1620 : decode cL_law 1620 = .ok (.invokevirtual 167, 3) := by decide +kernel
theorem dL_law_1623 : decode cL_law 1623 = .ok (.if_icmp .eq 162, 3) := by decide +kernel
theorem dL_law_1626 : decode cL_law 1626 = .ok (.iconst 0, 1) := by decide +kernel
theorem dL_law_1627 : decode cL_law 1627 = .ok (.ireturn, 1) := by decide +kernel
theorem dL_law_1628 : decode cL_law 1628 = .ok (.aload_n 1, 1) := by decide +kernel
theorem dL_law_1629 : decode cL_law 1629 = .ok (.invokevirtual 168, 3) := by decide +kernel
theorem dL_law_1632 : decode cL_law 1632 = .ok (.aload_n 2, 1) := by decide +kernel
theorem dL_law_1633 : decode cL_law 1633 = .ok (.invokevirtual 171, 3) := by decide +kernel
theorem dL_law_1636 : decode cL_law 1636 = .ok (.if_icmp .eq 149, 3) := by decide +kernel
theorem dL_law_1639 : decode cL_law 1639 = .ok (.iconst 0, 1) := by decide +kernel
theorem dL_law_1640 : decode cL_law 1640 = .ok (.ireturn, 1) := by decide +kernel
theorem dL_law_1641 : decode cL_law 1641 = .ok (.aload_n 1, 1) := by decide +kernel
theorem dL_law_1642 : decode cL_law 1642 = .ok (.aload_n 0, 1) := by decide +kernel
theorem dL_law_1643 : decode cL_law 1643 = .ok (.iload 4, 2) := by decide +kernel
theorem dL_law_1645 : decode cL_law 1645 = .ok (.iconst 1, 1) := by decide +kernel
theorem dL_law_1646 : decode cL_law 1646 = .ok (.iadd, 1) := by decide +kernel
theorem dL_law_1647 : decode cL_law 1647 = .ok (.iaload, 1) := by decide +kernel
theorem dL_law_1648 : decode cL_law 1648 = .ok (.invokevirtual 172, 3) := by decide +kernel
theorem dL_law_1651 : decode cL_law 1651 = .ok (.aload_n 2, 1) := by decide +kernel
theorem dL_law_1652 : decode cL_law 1652 = .ok (.aload_n 0, 1) := by decide +kernel
theorem dL_law_1653 : decode cL_law 1653 = .ok (.iload 4, 2) := by decide +kernel
theorem dL_law_1655 : decode cL_law 1655 = .ok (.iconst 1, 1) := by decide +kernel
theorem dL_law_1656 : decode cL_law 1656 = .ok (.iadd, 1) := by decide +kernel
theorem dL_law_1657 : decode cL_law 1657 = .ok (.iaload, 1) := by decide +kernel
theorem dL_law_1658 : decode cL_law 1658 = .ok (.invokevirtual 176, 3) := by decide +kernel
theorem dL_law_1661 : decode cL_law 1661 = .ok (.if_icmp .eq 124, 3) := by decide +kernel
theorem dL_law_1664 : decode cL_law 1664 = .ok (.iconst 0, 1) := by decide +kernel
theorem dL_law_1665 : decode cL_law 1665 = .ok (.ireturn, 1) := by decide +kernel
theorem dL_law_1666 : decode cL_law 1666 = .ok (.aload_n 1, 1) := by decide +kernel
theorem dL_law_1667 : decode cL_law 1667 = .ok (.aload_n 0, 1) := by decide +kernel
theorem dL_law_1668 : decode cL_law 1668 = .ok (.iload 4, 2) := by decide +kernel
theorem dL_law_1670 : decode cL_law 1670 = .ok (.iconst 1, 1) := by decide +kernel
theorem dL_law_1671 : decode cL_law 1671 = .ok (.iadd, 1) := by decide +kernel
theorem dL_law_1672 : decode cL_law 1672 = .ok (.iaload, 1) := by decide +kernel
theorem dL_law_1673 : decode cL_law 1673 = .ok (.invokevirtual 177, 3) := by decide +kernel
theorem dL_law_1676 : decode cL_law 1676 = .ok (.aload_n 2, 1) := by decide +kernel
theorem dL_law_1677 : decode cL_law 1677 = .ok (.aload_n 0, 1) := by decide +kernel
theorem dL_law_1678 : decode cL_law 1678 = .ok (.iload 4, 2) := by decide +kernel
theorem dL_law_1680 : decode cL_law 1680 = .ok (.iconst 1, 1) := by decide +kernel
theorem dL_law_1681 : decode cL_law 1681 = .ok (.iadd, 1) := by decide +kernel
theorem dL_law_1682 : decode cL_law 1682 = .ok (.iaload, 1) := by decide +kernel
theorem dL_law_1683 : decode cL_law 1683 = .ok (.invokevirtual 180, 3) := by decide +kernel
theorem dL_law_1686 : decode cL_law 1686 = .ok (.if_icmp .eq 99, 3) := by decide +kernel
theorem dL_law_1689 : decode cL_law 1689 = .ok (.iconst 0, 1) := by decide +kernel
theorem dL_law_1690 : decode cL_law 1690 = .ok (.ireturn, 1) := by decide +kernel
theorem dL_law_1691 : decode cL_law 1691 = .ok (.aload_n 1, 1) := by decide +kernel
theorem dL_law_1692 : decode cL_law 1692 = .ok (.aload_n 0, 1) := by decide +kernel
theorem dL_law_1693 : decode cL_law 1693 = .ok (.iload 4, 2) := by decide +kernel
theorem dL_law_1695 : decode cL_law 1695 = .ok (.iconst 1, 1) := by decide +kernel
theorem dL_law_1696 : decode cL_law 1696 = .ok (.iadd, 1) := by decide +kernel
theorem dL_law_1697 : decode cL_law 1697 = .ok (.iaload, 1) := by decide +kernel
theorem dL_law_1698 : decode cL_law 1698 = .ok (.aload_n 0, 1) := by decide +kernel
theorem dL_law_1699 : decode cL_law 1699 = .ok (.iload 4, 2) := by decide +kernel
theorem dL_law_1701 : decode cL_law 1701 = .ok (.iconst 2, 1) := by decide +kernel
theorem dL_law_1702 : decode cL_law 1702 = .ok (.iadd, 1) := by decide +kernel
theorem dL_law_1703 : decode cL_law 1703 = .ok (.iaload, 1) := by decide +kernel
theorem dL_law_1704 : decode cL_law 1704 = .ok (.aload_n 3, 1) := by decide +kernel
theorem dL_law_1705 : decode cL_law 1705 = .ok (.invokestatic 181, 3) := by decide +kernel
theorem dL_law_1708 : decode cL_law 1708 = .ok (.istore 5, 2) := by decide +kernel
theorem dL_law_1710 : decode cL_law 1710 = .ok (.aload_n 2, 1) := by decide +kernel
theorem dL_law_1711 : decode cL_law 1711 = .ok (.aload_n 0, 1) := by decide +kernel
theorem dL_law_1712 : decode cL_law 1712 = .ok (.iload 4, 2) := by decide +kernel
theorem dL_law_1714 : decode cL_law 1714 = .ok (.iconst 1, 1) := by decide +kernel
theorem dL_law_1715 : decode cL_law 1715 = .ok (.iadd, 1) := by decide +kernel
theorem dL_law_1716 : decode cL_law 1716 = .ok (.iaload, 1) := by decide +kernel
theorem dL_law_1717 : decode cL_law 1717 = .ok (.aload_n 0, 1) := by decide +kernel
theorem dL_law_1718 : decode cL_law 1718 = .ok (.iload 4, 2) := by decide +kernel
theorem dL_law_1720 : decode cL_law 1720 = .ok (.iconst 2, 1) := by decide +kernel
theorem dL_law_1721 : decode cL_law 1721 = .ok (.iadd, 1) := by decide +kernel
theorem dL_law_1722 : decode cL_law 1722 = .ok (.iaload, 1) := by decide +kernel
theorem dL_law_1723 : decode cL_law 1723 = .ok (.invokevirtual 186, 3) := by decide +kernel
theorem dL_law_1726 : decode cL_law 1726 = .ok (.istore 6, 2) := by decide +kernel
theorem dL_law_1728 : decode cL_law 1728 = .ok (.aload_n 2, 1) := by decide +kernel
theorem dL_law_1729 : decode cL_law 1729 = .ok (.invokevirtual 187, 3) := by decide +kernel
theorem dL_law_1732 : decode cL_law 1732 = .ok (.iload 5, 2) := by decide +kernel
theorem dL_law_1734 : decode cL_law 1734 = .ok (.if_icmp .eq 5, 3) := by decide +kernel
theorem dL_law_1737 : decode cL_law 1737 = .ok (.iconst 0, 1) := by decide +kernel
theorem dL_law_1738 : decode cL_law 1738 = .ok (.ireturn, 1) := by decide +kernel
theorem dL_law_1739 : decode cL_law 1739 = .ok (.iload 5, 2) := by decide +kernel
theorem dL_law_1741 : decode cL_law 1741 = .ok (.ifCond .ne 15, 3) := by decide +kernel
theorem dL_law_1744 : decode cL_law 1744 = .ok (.aload_n 3, 1) := by decide +kernel
theorem dL_law_1745 : decode cL_law 1745 = .ok (.iconst 0, 1) := by decide +kernel
theorem dL_law_1746 : decode cL_law 1746 = .ok (.laload, 1) := by decide +kernel
theorem dL_law_1747 : decode cL_law 1747 = .ok (.iload 6, 2) := by decide +kernel
theorem dL_law_1749 : decode cL_law 1749 = .ok (.i2l, 1) := by decide +kernel
theorem dL_law_1750 : decode cL_law 1750 = .ok (.lcmp, 1) := by decide +kernel
theorem dL_law_1751 : decode cL_law 1751 = .ok (.ifCond .eq 5, 3) := by decide +kernel
theorem dL_law_1754 : decode cL_law 1754 = .ok (.iconst 0, 1) := by decide +kernel
theorem dL_law_1755 : decode cL_law 1755 = .ok (.ireturn, 1) := by decide +kernel
theorem dL_law_1756 : decode cL_law 1756 = .ok (.goto 29, 3) := by decide +kernel
theorem dL_law_1759 : decode cL_law 1759 = .ok (.aload_n 1, 1) := by decide +kernel
theorem dL_law_1760 : decode cL_law 1760 = .ok (.invokevirtual 190, 3) := by decide +kernel
theorem dL_law_1763 : decode cL_law 1763 = .ok (.aload_n 2, 1) := by decide +kernel
theorem dL_law_1764 : decode cL_law 1764 = .ok (.invokevirtual 193, 3) := by decide +kernel
theorem dL_law_1767 : decode cL_law 1767 = .ok (.if_icmp .eq 18, 3) := by decide +kernel
theorem dL_law_1770 : decode cL_law 1770 = .ok (.iconst 0, 1) := by decide +kernel
theorem dL_law_1771 : decode cL_law 1771 = .ok (.ireturn, 1) := by decide +kernel
theorem dL_law_1772 : decode cL_law 1772 = .ok (.aload_n 1, 1) := by decide +kernel
theorem dL_law_1773 : decode cL_law 1773 = .ok (.invokevirtual 194, 3) := by decide +kernel
theorem dL_law_1776 : decode cL_law 1776 = .ok (.aload_n 2, 1) := by decide +kernel
theorem dL_law_1777 : decode cL_law 1777 = .ok (.invokevirtual 197, 3) := by decide +kernel
theorem dL_law_1780 : decode cL_law 1780 = .ok (.if_icmp .eq 5, 3) := by decide +kernel
theorem dL_law_1783 : decode cL_law 1783 = .ok (.iconst 0, 1) := by decide +kernel
theorem dL_law_1784 : decode cL_law 1784 = .ok (.ireturn, 1) := by decide +kernel
theorem dL_law_1785 : decode cL_law 1785 = .ok (.iinc 4 6, 3) := by decide +kernel
theorem dL_law_1788 : decode cL_law 1788 = .ok (.goto (-1765), 3) := by decide +kernel
theorem dL_law_1791 : decode cL_law 1791 = .ok (.iconst 1, 1) := by decide +kernel
theorem dL_law_1792 : decode cL_law 1792 = .ok (.ireturn, 1) := by decide +kernel
