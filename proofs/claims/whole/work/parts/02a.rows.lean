theorem dX0_init_0 : decode cX0_init 0 = .ok (.aload_n 0, 1) := by decide +kernel
theorem dX0_init_1 : decode cX0_init 1 = .ok (.invokespecial 3, 3) := by decide +kernel
theorem dX0_init_4 : decode cX0_init 4 = .ok (.aload_n 0, 1) := by decide +kernel
theorem dX0_init_5 : decode cX0_init 5 = .ok (.sipush 204, 3) := by decide +kernel
theorem dX0_init_8 : decode cX0_init 8 = .ok (.newarray .int, 2) := by decide +kernel
theorem dX0_init_10 : decode cX0_init 10 = .ok (.putfield 9, 3) := by decide +kernel
theorem dX0_init_13 : decode cX0_init 13 = .ok (.aload_n 0, 1) := by decide +kernel
theorem dX0_init_14 : decode cX0_init 14 = .ok (.sipush 204, 3) := by decide +kernel
theorem dX0_init_17 : decode cX0_init 17 = .ok (.newarray .int, 2) := by decide +kernel
theorem dX0_init_19 : decode cX0_init 19 = .ok (.putfield 15, 3) := by decide +kernel
theorem dX0_init_22 : decode cX0_init 22 = .ok (.aload_n 0, 1) := by decide +kernel
theorem dX0_init_23 : decode cX0_init 23 = .ok (.sipush 204, 3) := by decide +kernel
theorem dX0_init_26 : decode cX0_init 26 = .ok (.newarray .int, 2) := by decide +kernel
theorem dX0_init_28 : decode cX0_init 28 = .ok (.putfield 18, 3) := by decide +kernel
theorem dX0_init_31 : decode cX0_init 31 = .ok (.aload_n 0, 1) := by decide +kernel
theorem dX0_init_32 : decode cX0_init 32 = .ok (.iconst 0, 1) := by decide +kernel
theorem dX0_init_33 : decode cX0_init 33 = .ok (.putfield 21, 3) := by decide +kernel
theorem dX0_init_36 : decode cX0_init 36 = .ok (.aload_n 0, 1) := by decide +kernel
theorem dX0_init_37 : decode cX0_init 37 = .ok (.bipush 17, 2) := by decide +kernel
theorem dX0_init_39 : decode cX0_init 39 = .ok (.newarray .int, 2) := by decide +kernel
theorem dX0_init_41 : decode cX0_init 41 = .ok (.putfield 25, 3) := by decide +kernel
theorem dX0_init_44 : decode cX0_init 44 = .ok (.aload_n 0, 1) := by decide +kernel
theorem dX0_init_45 : decode cX0_init 45 = .ok (.bipush 17, 2) := by decide +kernel
theorem dX0_init_47 : decode cX0_init 47 = .ok (.newarray .int, 2) := by decide +kernel
theorem dX0_init_49 : decode cX0_init 49 = .ok (.putfield 28, 3) := by decide +kernel
theorem dX0_init_52 : decode cX0_init 52 = .ok (.aload_n 0, 1) := by decide +kernel
theorem dX0_init_53 : decode cX0_init 53 = .ok (.iconst 0, 1) := by decide +kernel
theorem dX0_init_54 : decode cX0_init 54 = .ok (.putfield 31, 3) := by decide +kernel
theorem dX0_init_57 : decode cX0_init 57 = .ok (.return_, 1) := by decide +kernel
theorem dX0_fill_0 : decode cX0_fill 0 = .ok (.aload_n 0, 1) := by decide +kernel
theorem dX0_fill_1 : decode cX0_fill 1 = .ok (.iconst 0, 1) := by decide +kernel
theorem dX0_fill_2 : decode cX0_fill 2 = .ok (.putfield 21, 3) := by decide +kernel
theorem dX0_fill_5 : decode cX0_fill 5 = .ok (.aload_n 1, 1) := by decide +kernel
theorem dX0_fill_6 : decode cX0_fill 6 = .ok (.iload_n 2, 1) := by decide +kernel
theorem dX0_fill_7 : decode cX0_fill 7 = .ok (.invokevirtual 34, 3) := by decide +kernel
theorem dX0_fill_10 : decode cX0_fill 10 = .ok (.ifCond .ne 14, 3) := by decide +kernel
theorem dX0_fill_13 : decode cX0_fill 13 = .ok (.aload_n 0, 1) := by decide +kernel
theorem dX0_fill_14 : decode cX0_fill 14 = .ok (.iconst 0, 1) := by decide +kernel
theorem dX0_fill_15 : decode cX0_fill 15 = .ok (.iconst 0, 1) := by decide +kernel
theorem dX0_fill_16 : decode cX0_fill 16 = .ok (.aload_n 1, 1) := by decide +kernel
theorem dX0_fill_17 : decode cX0_fill 17 = .ok (.getfield 40, 3) := by decide +kernel
theorem dX0_fill_20 : decode cX0_fill 20 = .ok (.invokevirtual 43, 3) := by decide +kernel
theorem dX0_fill_23 : decode cX0_fill 23 = .ok (.return_, 1) := by decide +kernel
theorem dX0_fill_24 : decode cX0_fill 24 = .ok (.aload_n 0, 1) := by decide +kernel
theorem dX0_fill_25 : decode cX0_fill 25 = .ok (.aload_n 1, 1) := by decide +kernel
theorem dX0_fill_26 : decode cX0_fill 26 = .ok (.iload_n 2, 1) := by decide +kernel
theorem dX0_fill_27 : decode cX0_fill 27 = .ok (.invokevirtual 47, 3) := by decide +kernel
theorem dX0_fill_30 : decode cX0_fill 30 = .ok (.iconst 0, 1) := by decide +kernel
theorem dX0_fill_31 : decode cX0_fill 31 = .ok (.istore_n 3, 1) := by decide +kernel
theorem dX0_fill_32 : decode cX0_fill 32 = .ok (.iload_n 3, 1) := by decide +kernel
theorem dX0_fill_33 : decode cX0_fill 33 = .ok (.bipush 12, 2) := by decide +kernel
theorem dX0_fill_35 : decode cX0_fill 35 = .ok (.if_icmp .ge 36, 3) := by decide +kernel
theorem dX0_fill_38 : decode cX0_fill 38 = .ok (.aload_n 1, 1) := by decide +kernel
theorem dX0_fill_39 : decode cX0_fill 39 = .ok (.getfield 51, 3) := by decide +kernel
theorem dX0_fill_42 : decode cX0_fill 42 = .ok (.iload_n 3, 1) := by decide +kernel
theorem dX0_fill_43 : decode cX0_fill 43 = .ok (.invokevirtual 55, 3) := by decide +kernel
theorem dX0_fill_46 : decode cX0_fill 46 = .ok (.ifCond .ne 19, 3) := by decide +kernel
theorem dX0_fill_49 : decode cX0_fill 49 = .ok (.aload_n 0, 1) := by decide +kernel
theorem dX0_fill_50 : decode cX0_fill 50 = .ok (.iload_n 3, 1) := by decide +kernel
theorem dX0_fill_51 : decode cX0_fill 51 = .ok (.aload_n 1, 1) := by decide +kernel
theorem dX0_fill_52 : decode cX0_fill 52 = .ok (.iload_n 2, 1) := by decide +kernel
theorem dX0_fill_53 : decode cX0_fill 53 = .ok (.iload_n 3, 1) := by decide +kernel
theorem dX0_fill_54 : decode cX0_fill 54 = .ok (.invokevirtual 60, 3) := by decide +kernel
theorem dX0_fill_57 : decode cX0_fill 57 = .ok (.aload_n 1, 1) := by decide +kernel
theorem dX0_fill_58 : decode cX0_fill 58 = .ok (.getfield 40, 3) := by decide +kernel
theorem dX0_fill_61 : decode cX0_fill 61 = .ok (.iand, 1) := by decide +kernel
theorem dX0_fill_62 : decode cX0_fill 62 = .ok (.invokevirtual 64, 3) := by decide +kernel
theorem dX0_fill_65 : decode cX0_fill 65 = .ok (.iinc 3 1, 3) := by decide +kernel
theorem dX0_fill_68 : decode cX0_fill 68 = .ok (.goto (-36), 3) := by decide +kernel
theorem dX0_fill_71 : decode cX0_fill 71 = .ok (.return_, 1) := by decide +kernel
theorem dX0_addClass_0 : decode cX0_addClass 0 = .ok (.iconst 0, 1) := by decide +kernel
theorem dX0_addClass_1 : decode cX0_addClass 1 = .ok (.istore_n 3, 1) := by decide +kernel
theorem dX0_addClass_2 : decode cX0_addClass 2 = .ok (.iload_n 3, 1) := by decide +kernel
theorem dX0_addClass_3 : decode cX0_addClass 3 = .ok (.aload_n 0, 1) := by decide +kernel
theorem dX0_addClass_4 : decode cX0_addClass 4 = .ok (.getfield 31, 3) := by decide +kernel
theorem dX0_addClass_7 : decode cX0_addClass 7 = .ok (.if_icmp .ge 28, 3) := by decide +kernel
theorem dX0_addClass_10 : decode cX0_addClass 10 = .ok (.aload_n 0, 1) := by decide +kernel
theorem dX0_addClass_11 : decode cX0_addClass 11 = .ok (.iload_n 1, 1) := by decide +kernel
theorem dX0_addClass_12 : decode cX0_addClass 12 = .ok (.aload_n 0, 1) := by decide +kernel
theorem dX0_addClass_13 : decode cX0_addClass 13 = .ok (.getfield 25, 3) := by decide +kernel
theorem dX0_addClass_16 : decode cX0_addClass 16 = .ok (.iload_n 3, 1) := by decide +kernel
theorem dX0_addClass_17 : decode cX0_addClass 17 = .ok (.iaload, 1) := by decide +kernel
theorem dX0_addClass_18 : decode cX0_addClass 18 = .ok (.iload_n 2, 1) := by decide +kernel
theorem dX0_addClass_19 : decode cX0_addClass 19 = .ok (.aload_n 0, 1) := by decide +kernel
theorem dX0_addClass_20 : decode cX0_addClass 20 = .ok (.getfield 28, 3) := by decide +kernel
theorem dX0_addClass_23 : decode cX0_addClass 23 = .ok (.iload_n 3, 1) := by decide +kernel
theorem dX0_addClass_24 : decode cX0_addClass 24 = .ok (.iaload, 1) := by decide +kernel
theorem dX0_addClass_25 : decode cX0_addClass 25 = .ok (.iand, 1) := by decide +kernel
theorem dX0_addClass_26 : decode cX0_addClass 26 = .ok (.invokevirtual 43, 3) := by decide +kernel
theorem dX0_addClass_29 : decode cX0_addClass 29 = .ok (.iinc 3 1, 3) := by decide +kernel
theorem dX0_addClass_32 : decode cX0_addClass 32 = .ok (.goto (-30), 3) := by decide +kernel
theorem dX0_addClass_35 : decode cX0_addClass 35 = .ok (.return_, 1) := by decide +kernel
theorem dX0_addNew_0 : decode cX0_addNew 0 = .ok (.iconst 0, 1) := by decide +kernel
theorem dX0_addNew_1 : decode cX0_addNew 1 = .ok (.istore 4, 2) := by decide +kernel
theorem dX0_addNew_3 : decode cX0_addNew 3 = .ok (.iload 4, 2) := by decide +kernel
theorem dX0_addNew_5 : decode cX0_addNew 5 = .ok (.aload_n 0, 1) := by decide +kernel
theorem dX0_addNew_6 : decode cX0_addNew 6 = .ok (.getfield 21, 3) := by decide +kernel
theorem dX0_addNew_9 : decode cX0_addNew 9 = .ok (.if_icmp .ge 21, 3) := by decide +kernel
theorem dX0_addNew_12 : decode cX0_addNew 12 = .ok (.aload_n 0, 1) := by decide +kernel
theorem dX0_addNew_13 : decode cX0_addNew 13 = .ok (.getfield 18, 3) := by decide +kernel
theorem dX0_addNew_16 : decode cX0_addNew 16 = .ok (.iload 4, 2) := by decide +kernel
theorem dX0_addNew_18 : decode cX0_addNew 18 = .ok (.iaload, 1) := by decide +kernel
theorem dX0_addNew_19 : decode cX0_addNew 19 = .ok (.iload_n 3, 1) := by decide +kernel
theorem dX0_addNew_20 : decode cX0_addNew 20 = .ok (.if_icmp .ne 4, 3) := by decide +kernel
theorem dX0_addNew_23 : decode cX0_addNew 23 = .ok (.return_, 1) := by decide +kernel
theorem dX0_addNew_24 : decode cX0_addNew 24 = .ok (.iinc 4 1, 3) := by decide +kernel
theorem dX0_addNew_27 : decode cX0_addNew 27 = .ok (.goto (-24), 3) := by decide +kernel
theorem dX0_addNew_30 : decode cX0_addNew 30 = .ok (.aload_n 0, 1) := by decide +kernel
theorem dX0_addNew_31 : decode cX0_addNew 31 = .ok (.getfield 21, 3) := by decide +kernel
theorem dX0_addNew_34 : decode cX0_addNew 34 = .ok (.sipush 204, 3) := by decide +kernel
theorem dX0_addNew_37 : decode cX0_addNew 37 = .ok (.if_icmp .ge 43, 3) := by decide +kernel
theorem dX0_addNew_40 : decode cX0_addNew 40 = .ok (.aload_n 0, 1) := by decide +kernel
theorem dX0_addNew_41 : decode cX0_addNew 41 = .ok (.getfield 9, 3) := by decide +kernel
theorem dX0_addNew_44 : decode cX0_addNew 44 = .ok (.aload_n 0, 1) := by decide +kernel
theorem dX0_addNew_45 : decode cX0_addNew 45 = .ok (.getfield 21, 3) := by decide +kernel
theorem dX0_addNew_48 : decode cX0_addNew 48 = .ok (.iload_n 1, 1) := by decide +kernel
theorem dX0_addNew_49 : decode cX0_addNew 49 = .ok (.iastore, 1) := by decide +kernel
theorem dX0_addNew_50 : decode cX0_addNew 50 = .ok (.aload_n 0, 1) := by decide +kernel
theorem dX0_addNew_51 : decode cX0_addNew 51 = .ok (.getfield 15, 3) := by decide +kernel
theorem dX0_addNew_54 : decode cX0_addNew 54 = .ok (.aload_n 0, 1) := by decide +kernel
theorem dX0_addNew_55 : decode cX0_addNew 55 = .ok (.getfield 21, 3) := by decide +kernel
theorem dX0_addNew_58 : decode cX0_addNew 58 = .ok (.iload_n 2, 1) := by decide +kernel
theorem dX0_addNew_59 : decode cX0_addNew 59 = .ok (.iastore, 1) := by decide +kernel
theorem dX0_addNew_60 : decode cX0_addNew 60 = .ok (.aload_n 0, 1) := by decide +kernel
theorem dX0_addNew_61 : decode cX0_addNew 61 = .ok (.getfield 18, 3) := by decide +kernel
theorem dX0_addNew_64 : decode cX0_addNew 64 = .ok (.aload_n 0, 1) := by decide +kernel
theorem dX0_addNew_65 : decode cX0_addNew 65 = .ok (.getfield 21, 3) := by decide +kernel
theorem dX0_addNew_68 : decode cX0_addNew 68 = .ok (.iload_n 3, 1) := by decide +kernel
theorem dX0_addNew_69 : decode cX0_addNew 69 = .ok (.iastore, 1) := by decide +kernel
theorem dX0_addNew_70 : decode cX0_addNew 70 = .ok (.aload_n 0, 1) := by decide +kernel
theorem dX0_addNew_71 : decode cX0_addNew 71 = .ok (.dup, 1) := by decide +kernel
theorem dX0_addNew_72 : decode cX0_addNew 72 = .ok (.getfield 21, 3) := by decide +kernel
theorem dX0_addNew_75 : decode cX0_addNew 75 = .ok (.iconst 1, 1) := by decide +kernel
theorem dX0_addNew_76 : decode cX0_addNew 76 = .ok (.iadd, 1) := by decide +kernel
theorem dX0_addNew_77 : decode cX0_addNew 77 = .ok (.putfield 21, 3) := by decide +kernel
theorem dX0_addNew_80 : decode cX0_addNew 80 = .ok (.return_, 1) := by decide +kernel
theorem dX0_findStarts_0 : decode cX0_findStarts 0 = .ok (.aload_n 0, 1) := by decide +kernel
theorem dX0_findStarts_1 : decode cX0_findStarts 1 = .ok (.iconst 0, 1) := by decide +kernel
theorem dX0_findStarts_2 : decode cX0_findStarts 2 = .ok (.putfield 31, 3) := by decide +kernel
theorem dX0_findStarts_5 : decode cX0_findStarts 5 = .ok (.aload_n 0, 1) := by decide +kernel
theorem dX0_findStarts_6 : decode cX0_findStarts 6 = .ok (.ldc 70, 2) := by decide +kernel
theorem dX0_findStarts_8 : decode cX0_findStarts 8 = .ok (.invokevirtual 71, 3) := by decide +kernel
theorem dX0_findStarts_11 : decode cX0_findStarts 11 = .ok (.iconst 0, 1) := by decide +kernel
theorem dX0_findStarts_12 : decode cX0_findStarts 12 = .ok (.istore_n 3, 1) := by decide +kernel
theorem dX0_findStarts_13 : decode cX0_findStarts 13 = .ok (.iload_n 3, 1) := by decide +kernel
theorem dX0_findStarts_14 : decode cX0_findStarts 14 = .ok (.aload_n 1, 1) := by decide +kernel
theorem dX0_findStarts_15 : decode cX0_findStarts 15 = .ok (.getfield 75, 3) := by decide +kernel
theorem dX0_findStarts_18 : decode cX0_findStarts 18 = .ok (.if_icmp .ge 65, 3) := by decide +kernel
theorem dX0_findStarts_21 : decode cX0_findStarts 21 = .ok (.aload_n 1, 1) := by decide +kernel
theorem dX0_findStarts_22 : decode cX0_findStarts 22 = .ok (.iload_n 3, 1) := by decide +kernel
theorem dX0_findStarts_23 : decode cX0_findStarts 23 = .ok (.invokevirtual 78, 3) := by decide +kernel
theorem dX0_findStarts_26 : decode cX0_findStarts 26 = .ok (.astore 4, 2) := by decide +kernel
theorem dX0_findStarts_28 : decode cX0_findStarts 28 = .ok (.aload 4, 2) := by decide +kernel
theorem dX0_findStarts_30 : decode cX0_findStarts 30 = .ok (.ifnull 47, 3) := by decide +kernel
theorem dX0_findStarts_33 : decode cX0_findStarts 33 = .ok (.aload 4, 2) := by decide +kernel
theorem dX0_findStarts_35 : decode cX0_findStarts 35 = .ok (.getfield 82, 3) := by decide +kernel
theorem dX0_findStarts_38 : decode cX0_findStarts 38 = .ok (.ifCond .ne 39, 3) := by decide +kernel
theorem dX0_findStarts_41 : decode cX0_findStarts 41 = .ok (.aload_n 0, 1) := by decide +kernel
theorem dX0_findStarts_42 : decode cX0_findStarts 42 = .ok (.aload 4, 2) := by decide +kernel
theorem dX0_findStarts_44 : decode cX0_findStarts 44 = .ok (.getfield 88, 3) := by decide +kernel
theorem dX0_findStarts_47 : decode cX0_findStarts 47 = .ok (.iload_n 2, 1) := by decide +kernel
theorem dX0_findStarts_48 : decode cX0_findStarts 48 = .ok (.iaload, 1) := by decide +kernel
theorem dX0_findStarts_49 : decode cX0_findStarts 49 = .ok (.invokevirtual 71, 3) := by decide +kernel
theorem dX0_findStarts_52 : decode cX0_findStarts 52 = .ok (.aload 4, 2) := by decide +kernel
theorem dX0_findStarts_54 : decode cX0_findStarts 54 = .ok (.getfield 91, 3) := by decide +kernel
theorem dX0_findStarts_57 : decode cX0_findStarts 57 = .ok (.iload_n 2, 1) := by decide +kernel
theorem dX0_findStarts_58 : decode cX0_findStarts 58 = .ok (.iaload, 1) := by decide +kernel
theorem dX0_findStarts_59 : decode cX0_findStarts 59 = .ok (.ldc 94, 2) := by decide +kernel
theorem dX0_findStarts_61 : decode cX0_findStarts 61 = .ok (.if_icmp .ge 16, 3) := by decide +kernel
theorem dX0_findStarts_64 : decode cX0_findStarts 64 = .ok (.aload_n 0, 1) := by decide +kernel
theorem dX0_findStarts_65 : decode cX0_findStarts 65 = .ok (.aload 4, 2) := by decide +kernel
theorem dX0_findStarts_67 : decode cX0_findStarts 67 = .ok (.getfield 91, 3) := by decide +kernel
theorem dX0_findStarts_70 : decode cX0_findStarts 70 = .ok (.iload_n 2, 1) := by decide +kernel
theorem dX0_findStarts_71 : decode cX0_findStarts 71 = .ok (.iaload, 1) := by decide +kernel
theorem dX0_findStarts_72 : decode cX0_findStarts 72 = .ok (.iconst 1, 1) := by decide +kernel
theorem dX0_findStarts_73 : decode cX0_findStarts 73 = .ok (.iadd, 1) := by decide +kernel
theorem dX0_findStarts_74 : decode cX0_findStarts 74 = .ok (.invokevirtual 71, 3) := by decide +kernel
theorem dX0_findStarts_77 : decode cX0_findStarts 77 = .ok (.iinc 3 1, 3) := by decide +kernel
theorem dX0_findStarts_80 : decode cX0_findStarts 80 = .ok (.goto (-67), 3) := by decide +kernel
theorem dX0_findStarts_83 : decode cX0_findStarts 83 = .ok (.iconst 0, 1) := by decide +kernel
theorem dX0_findStarts_84 : decode cX0_findStarts 84 = .ok (.istore_n 3, 1) := by decide +kernel
theorem dX0_findStarts_85 : decode cX0_findStarts 85 = .ok (.iload_n 3, 1) := by decide +kernel
theorem dX0_findStarts_86 : decode cX0_findStarts 86 = .ok (.aload_n 0, 1) := by decide +kernel
theorem dX0_findStarts_87 : decode cX0_findStarts 87 = .ok (.getfield 31, 3) := by decide +kernel
theorem dX0_findStarts_90 : decode cX0_findStarts 90 = .ok (.if_icmp .ge 26, 3) := by decide +kernel
theorem dX0_findStarts_93 : decode cX0_findStarts 93 = .ok (.aload_n 0, 1) := by decide +kernel
theorem dX0_findStarts_94 : decode cX0_findStarts 94 = .ok (.getfield 28, 3) := by decide +kernel
theorem dX0_findStarts_97 : decode cX0_findStarts 97 = .ok (.iload_n 3, 1) := by decide +kernel
theorem dX0_findStarts_98 : decode cX0_findStarts 98 = .ok (.aload_n 1, 1) := by decide +kernel
theorem dX0_findStarts_99 : decode cX0_findStarts 99 = .ok (.iload_n 2, 1) := by decide +kernel
theorem dX0_findStarts_100 : decode cX0_findStarts 100 = .ok (.aload_n 0, 1) := by decide +kernel
theorem dX0_findStarts_101 : decode cX0_findStarts 101 = .ok (.getfield 25, 3) := by decide +kernel
theorem dX0_findStarts_104 : decode cX0_findStarts 104 = .ok (.iload_n 3, 1) := by decide +kernel
theorem dX0_findStarts_105 : decode cX0_findStarts 105 = .ok (.iaload, 1) := by decide +kernel
theorem dX0_findStarts_106 : decode cX0_findStarts 106 = .ok (.invokevirtual 95, 3) := by decide +kernel
theorem dX0_findStarts_109 : decode cX0_findStarts 109 = .ok (.iastore, 1) := by decide +kernel
theorem dX0_findStarts_110 : decode cX0_findStarts 110 = .ok (.iinc 3 1, 3) := by decide +kernel
theorem dX0_findStarts_113 : decode cX0_findStarts 113 = .ok (.goto (-28), 3) := by decide +kernel
theorem dX0_findStarts_116 : decode cX0_findStarts 116 = .ok (.return_, 1) := by decide +kernel
theorem dX0_addStart_0 : decode cX0_addStart 0 = .ok (.aload_n 0, 1) := by decide +kernel
theorem dX0_addStart_1 : decode cX0_addStart 1 = .ok (.getfield 31, 3) := by decide +kernel
theorem dX0_addStart_4 : decode cX0_addStart 4 = .ok (.istore_n 2, 1) := by decide +kernel
theorem dX0_addStart_5 : decode cX0_addStart 5 = .ok (.iload_n 2, 1) := by decide +kernel
theorem dX0_addStart_6 : decode cX0_addStart 6 = .ok (.ifCond .le 21, 3) := by decide +kernel
theorem dX0_addStart_9 : decode cX0_addStart 9 = .ok (.aload_n 0, 1) := by decide +kernel
theorem dX0_addStart_10 : decode cX0_addStart 10 = .ok (.getfield 25, 3) := by decide +kernel
theorem dX0_addStart_13 : decode cX0_addStart 13 = .ok (.iload_n 2, 1) := by decide +kernel
theorem dX0_addStart_14 : decode cX0_addStart 14 = .ok (.iconst 1, 1) := by decide +kernel
theorem dX0_addStart_15 : decode cX0_addStart 15 = .ok (.isub, 1) := by decide +kernel
theorem dX0_addStart_16 : decode cX0_addStart 16 = .ok (.iaload, 1) := by decide +kernel
theorem dX0_addStart_17 : decode cX0_addStart 17 = .ok (.iload_n 1, 1) := by decide +kernel
theorem dX0_addStart_18 : decode cX0_addStart 18 = .ok (.if_icmp .le 9, 3) := by decide +kernel
theorem dX0_addStart_21 : decode cX0_addStart 21 = .ok (.iinc 2 (-1), 3) := by decide +kernel
theorem dX0_addStart_24 : decode cX0_addStart 24 = .ok (.goto (-19), 3) := by decide +kernel
theorem dX0_addStart_27 : decode cX0_addStart 27 = .ok (.iload_n 2, 1) := by decide +kernel
theorem dX0_addStart_28 : decode cX0_addStart 28 = .ok (.ifCond .le 15, 3) := by decide +kernel
theorem dX0_addStart_31 : decode cX0_addStart 31 = .ok (.aload_n 0, 1) := by decide +kernel
theorem dX0_addStart_32 : decode cX0_addStart 32 = .ok (.getfield 25, 3) := by decide +kernel
theorem dX0_addStart_35 : decode cX0_addStart 35 = .ok (.iload_n 2, 1) := by decide +kernel
theorem dX0_addStart_36 : decode cX0_addStart 36 = .ok (.iconst 1, 1) := by decide +kernel
theorem dX0_addStart_37 : decode cX0_addStart 37 = .ok (.isub, 1) := by decide +kernel
theorem dX0_addStart_38 : decode cX0_addStart 38 = .ok (.iaload, 1) := by decide +kernel
theorem dX0_addStart_39 : decode cX0_addStart 39 = .ok (.iload_n 1, 1) := by decide +kernel
theorem dX0_addStart_40 : decode cX0_addStart 40 = .ok (.if_icmp .eq 12, 3) := by decide +kernel
theorem dX0_addStart_43 : decode cX0_addStart 43 = .ok (.aload_n 0, 1) := by decide +kernel
theorem dX0_addStart_44 : decode cX0_addStart 44 = .ok (.getfield 31, 3) := by decide +kernel
theorem dX0_addStart_47 : decode cX0_addStart 47 = .ok (.bipush 17, 2) := by decide +kernel
theorem dX0_addStart_49 : decode cX0_addStart 49 = .ok (.if_icmp .lt 4, 3) := by decide +kernel
theorem dX0_addStart_52 : decode cX0_addStart 52 = .ok (.return_, 1) := by decide +kernel
theorem dX0_addStart_53 : decode cX0_addStart 53 = .ok (.aload_n 0, 1) := by decide +kernel
theorem dX0_addStart_54 : decode cX0_addStart 54 = .ok (.getfield 31, 3) := by decide +kernel
theorem dX0_addStart_57 : decode cX0_addStart 57 = .ok (.istore_n 3, 1) := by decide +kernel
theorem dX0_addStart_58 : decode cX0_addStart 58 = .ok (.iload_n 3, 1) := by decide +kernel
theorem dX0_addStart_59 : decode cX0_addStart 59 = .ok (.iload_n 2, 1) := by decide +kernel
theorem dX0_addStart_60 : decode cX0_addStart 60 = .ok (.if_icmp .le 23, 3) := by decide +kernel
theorem dX0_addStart_63 : decode cX0_addStart 63 = .ok (.aload_n 0, 1) := by decide +kernel
theorem dX0_addStart_64 : decode cX0_addStart 64 = .ok (.getfield 25, 3) := by decide +kernel
theorem dX0_addStart_67 : decode cX0_addStart 67 = .ok (.iload_n 3, 1) := by decide +kernel
theorem dX0_addStart_68 : decode cX0_addStart 68 = .ok (.aload_n 0, 1) := by decide +kernel
theorem dX0_addStart_69 : decode cX0_addStart 69 = .ok (.getfield 25, 3) := by decide +kernel
theorem dX0_addStart_72 : decode cX0_addStart 72 = .ok (.iload_n 3, 1) := by decide +kernel
theorem dX0_addStart_73 : decode cX0_addStart 73 = .ok (.iconst 1, 1) := by decide +kernel
theorem dX0_addStart_74 : decode cX0_addStart 74 = .ok (.isub, 1) := by decide +kernel
theorem dX0_addStart_75 : decode cX0_addStart 75 = .ok (.iaload, 1) := by decide +kernel
theorem dX0_addStart_76 : decode cX0_addStart 76 = .ok (.iastore, 1) := by decide +kernel
theorem dX0_addStart_77 : decode cX0_addStart 77 = .ok (.iinc 3 (-1), 3) := by decide +kernel
theorem dX0_addStart_80 : decode cX0_addStart 80 = .ok (.goto (-22), 3) := by decide +kernel
theorem dX0_addStart_83 : decode cX0_addStart 83 = .ok (.aload_n 0, 1) := by decide +kernel
theorem dX0_addStart_84 : decode cX0_addStart 84 = .ok (.getfield 25, 3) := by decide +kernel
theorem dX0_addStart_87 : decode cX0_addStart 87 = .ok (.iload_n 2, 1) := by decide +kernel
theorem dX0_addStart_88 : decode cX0_addStart 88 = .ok (.iload_n 1, 1) := by decide +kernel
theorem dX0_addStart_89 : decode cX0_addStart 89 = .ok (.iastore, 1) := by decide +kernel
theorem dX0_addStart_90 : decode cX0_addStart 90 = .ok (.aload_n 0, 1) := by decide +kernel
theorem dX0_addStart_91 : decode cX0_addStart 91 = .ok (.dup, 1) := by decide +kernel
theorem dX0_addStart_92 : decode cX0_addStart 92 = .ok (.getfield 31, 3) := by decide +kernel
theorem dX0_addStart_95 : decode cX0_addStart 95 = .ok (.iconst 1, 1) := by decide +kernel
theorem dX0_addStart_96 : decode cX0_addStart 96 = .ok (.iadd, 1) := by decide +kernel
theorem dX0_addStart_97 : decode cX0_addStart 97 = .ok (.putfield 31, 3) := by decide +kernel
theorem dX0_addStart_100 : decode cX0_addStart 100 = .ok (.return_, 1) := by decide +kernel
theorem dX1_init_0 : decode cX1_init 0 = .ok (.aload_n 0, 1) := by decide +kernel
theorem dX1_init_1 : decode cX1_init 1 = .ok (.invokespecial 3, 3) := by decide +kernel
theorem dX1_init_4 : decode cX1_init 4 = .ok (.aload_n 0, 1) := by decide +kernel
theorem dX1_init_5 : decode cX1_init 5 = .ok (.new 9, 3) := by decide +kernel
theorem dX1_init_8 : decode cX1_init 8 = .ok (.dup, 1) := by decide +kernel
theorem dX1_init_9 : decode cX1_init 9 = .ok (.invokespecial 11, 3) := by decide +kernel
theorem dX1_init_12 : decode cX1_init 12 = .ok (.putfield 12, 3) := by decide +kernel
theorem dX1_init_15 : decode cX1_init 15 = .ok (.aload_n 0, 1) := by decide +kernel
theorem dX1_init_16 : decode cX1_init 16 = .ok (.bipush 8, 2) := by decide +kernel
theorem dX1_init_18 : decode cX1_init 18 = .ok (.newarray .int, 2) := by decide +kernel
theorem dX1_init_20 : decode cX1_init 20 = .ok (.putfield 18, 3) := by decide +kernel
theorem dX1_init_23 : decode cX1_init 23 = .ok (.aload_n 0, 1) := by decide +kernel
theorem dX1_init_24 : decode cX1_init 24 = .ok (.bipush 8, 2) := by decide +kernel
theorem dX1_init_26 : decode cX1_init 26 = .ok (.anewarray 22, 3) := by decide +kernel
theorem dX1_init_29 : decode cX1_init 29 = .ok (.putfield 24, 3) := by decide +kernel
theorem dX1_init_32 : decode cX1_init 32 = .ok (.aload_n 0, 1) := by decide +kernel
theorem dX1_init_33 : decode cX1_init 33 = .ok (.bipush 8, 2) := by decide +kernel
theorem dX1_init_35 : decode cX1_init 35 = .ok (.newarray .int, 2) := by decide +kernel
theorem dX1_init_37 : decode cX1_init 37 = .ok (.putfield 28, 3) := by decide +kernel
theorem dX1_init_40 : decode cX1_init 40 = .ok (.aload_n 0, 1) := by decide +kernel
theorem dX1_init_41 : decode cX1_init 41 = .ok (.iconst 0, 1) := by decide +kernel
theorem dX1_init_42 : decode cX1_init 42 = .ok (.putfield 31, 3) := by decide +kernel
theorem dX1_init_45 : decode cX1_init 45 = .ok (.aload_n 0, 1) := by decide +kernel
theorem dX1_init_46 : decode cX1_init 46 = .ok (.iconst 0, 1) := by decide +kernel
theorem dX1_init_47 : decode cX1_init 47 = .ok (.putfield 35, 3) := by decide +kernel
theorem dX1_init_50 : decode cX1_init 50 = .ok (.aload_n 0, 1) := by decide +kernel
theorem dX1_init_51 : decode cX1_init 51 = .ok (.iconst 0, 1) := by decide +kernel
theorem dX1_init_52 : decode cX1_init 52 = .ok (.putfield 38, 3) := by decide +kernel
theorem dX1_init_55 : decode cX1_init 55 = .ok (.aload_n 0, 1) := by decide +kernel
theorem dX1_init_56 : decode cX1_init 56 = .ok (.aload_n 1, 1) := by decide +kernel
theorem dX1_init_57 : decode cX1_init 57 = .ok (.putfield 42, 3) := by decide +kernel
theorem dX1_init_60 : decode cX1_init 60 = .ok (.aload_n 0, 1) := by decide +kernel
theorem dX1_init_61 : decode cX1_init 61 = .ok (.iload_n 2, 1) := by decide +kernel
theorem dX1_init_62 : decode cX1_init 62 = .ok (.putfield 46, 3) := by decide +kernel
theorem dX1_init_65 : decode cX1_init 65 = .ok (.aload_n 0, 1) := by decide +kernel
theorem dX1_init_66 : decode cX1_init 66 = .ok (.iload_n 3, 1) := by decide +kernel
theorem dX1_init_67 : decode cX1_init 67 = .ok (.putfield 49, 3) := by decide +kernel
theorem dX1_init_70 : decode cX1_init 70 = .ok (.return_, 1) := by decide +kernel
theorem dX1_hasPlace_0 : decode cX1_hasPlace 0 = .ok (.iload_n 1, 1) := by decide +kernel
theorem dX1_hasPlace_1 : decode cX1_hasPlace 1 = .ok (.ifCond .lt 15, 3) := by decide +kernel
theorem dX1_hasPlace_4 : decode cX1_hasPlace 4 = .ok (.iload_n 1, 1) := by decide +kernel
theorem dX1_hasPlace_5 : decode cX1_hasPlace 5 = .ok (.aload_n 0, 1) := by decide +kernel
theorem dX1_hasPlace_6 : decode cX1_hasPlace 6 = .ok (.getfield 49, 3) := by decide +kernel
theorem dX1_hasPlace_9 : decode cX1_hasPlace 9 = .ok (.if_icmp .ge 7, 3) := by decide +kernel
theorem dX1_hasPlace_12 : decode cX1_hasPlace 12 = .ok (.iconst 1, 1) := by decide +kernel
theorem dX1_hasPlace_13 : decode cX1_hasPlace 13 = .ok (.goto 4, 3) := by decide +kernel
theorem dX1_hasPlace_16 : decode cX1_hasPlace 16 = .ok (.iconst 0, 1) := by decide +kernel
theorem dX1_hasPlace_17 : decode cX1_hasPlace 17 = .ok (.ireturn, 1) := by decide +kernel
theorem dX1_laidAt_0 : decode cX1_laidAt 0 = .ok (.iload_n 1, 1) := by decide +kernel
theorem dX1_laidAt_1 : decode cX1_laidAt 1 = .ok (.ifCond .lt 20, 3) := by decide +kernel
theorem dX1_laidAt_4 : decode cX1_laidAt 4 = .ok (.iload_n 1, 1) := by decide +kernel
theorem dX1_laidAt_5 : decode cX1_laidAt 5 = .ok (.aload_n 0, 1) := by decide +kernel
theorem dX1_laidAt_6 : decode cX1_laidAt 6 = .ok (.getfield 31, 3) := by decide +kernel
theorem dX1_laidAt_9 : decode cX1_laidAt 9 = .ok (.if_icmp .ge 12, 3) := by decide +kernel
theorem dX1_laidAt_12 : decode cX1_laidAt 12 = .ok (.aload_n 0, 1) := by decide +kernel
theorem dX1_laidAt_13 : decode cX1_laidAt 13 = .ok (.getfield 24, 3) := by decide +kernel
theorem dX1_laidAt_16 : decode cX1_laidAt 16 = .ok (.iload_n 1, 1) := by decide +kernel
theorem dX1_laidAt_17 : decode cX1_laidAt 17 = .ok (.aaload, 1) := by decide +kernel
theorem dX1_laidAt_18 : decode cX1_laidAt 18 = .ok (.goto 4, 3) := by decide +kernel
theorem dX1_laidAt_21 : decode cX1_laidAt 21 = .ok (.aconst_null, 1) := by decide +kernel
theorem dX1_laidAt_22 : decode cX1_laidAt 22 = .ok (.areturn, 1) := by decide +kernel
theorem dX1_numberAt_0 : decode cX1_numberAt 0 = .ok (.aload_n 0, 1) := by decide +kernel
theorem dX1_numberAt_1 : decode cX1_numberAt 1 = .ok (.iload_n 1, 1) := by decide +kernel
theorem dX1_numberAt_2 : decode cX1_numberAt 2 = .ok (.invokevirtual 52, 3) := by decide +kernel
theorem dX1_numberAt_5 : decode cX1_numberAt 5 = .ok (.astore_n 2, 1) := by decide +kernel
theorem dX1_numberAt_6 : decode cX1_numberAt 6 = .ok (.aload_n 2, 1) := by decide +kernel
theorem dX1_numberAt_7 : decode cX1_numberAt 7 = .ok (.ifnonnull 7, 3) := by decide +kernel
theorem dX1_numberAt_10 : decode cX1_numberAt 10 = .ok (.iconst (-1), 1) := by decide +kernel
theorem dX1_numberAt_11 : decode cX1_numberAt 11 = .ok (.goto 7, 3) := by decide +kernel
theorem dX1_numberAt_14 : decode cX1_numberAt 14 = .ok (.aload_n 2, 1) := by decide +kernel
theorem dX1_numberAt_15 : decode cX1_numberAt 15 = .ok (.getfield 56, 3) := by decide +kernel
theorem dX1_numberAt_18 : decode cX1_numberAt 18 = .ok (.ireturn, 1) := by decide +kernel
theorem dX1_indexOf_0 : decode cX1_indexOf 0 = .ok (.iconst 0, 1) := by decide +kernel
theorem dX1_indexOf_1 : decode cX1_indexOf 1 = .ok (.istore_n 2, 1) := by decide +kernel
theorem dX1_indexOf_2 : decode cX1_indexOf 2 = .ok (.iload_n 2, 1) := by decide +kernel
theorem dX1_indexOf_3 : decode cX1_indexOf 3 = .ok (.aload_n 0, 1) := by decide +kernel
theorem dX1_indexOf_4 : decode cX1_indexOf 4 = .ok (.getfield 31, 3) := by decide +kernel
theorem dX1_indexOf_7 : decode cX1_indexOf 7 = .ok (.if_icmp .ge 27, 3) := by decide +kernel
theorem dX1_indexOf_10 : decode cX1_indexOf 10 = .ok (.aload_n 0, 1) := by decide +kernel
theorem dX1_indexOf_11 : decode cX1_indexOf 11 = .ok (.getfield 24, 3) := by decide +kernel
theorem dX1_indexOf_14 : decode cX1_indexOf 14 = .ok (.iload_n 2, 1) := by decide +kernel
theorem dX1_indexOf_15 : decode cX1_indexOf 15 = .ok (.aaload, 1) := by decide +kernel
theorem dX1_indexOf_16 : decode cX1_indexOf 16 = .ok (.getfield 56, 3) := by decide +kernel
theorem dX1_indexOf_19 : decode cX1_indexOf 19 = .ok (.aload_n 1, 1) := by decide +kernel
theorem dX1_indexOf_20 : decode cX1_indexOf 20 = .ok (.getfield 56, 3) := by decide +kernel
theorem dX1_indexOf_23 : decode cX1_indexOf 23 = .ok (.if_icmp .ne 5, 3) := by decide +kernel
theorem dX1_indexOf_26 : decode cX1_indexOf 26 = .ok (.iload_n 2, 1) := by decide +kernel
theorem dX1_indexOf_27 : decode cX1_indexOf 27 = .ok (.ireturn, 1) := by decide +kernel
theorem dX1_indexOf_28 : decode cX1_indexOf 28 = .ok (.iinc 2 1, 3) := by decide +kernel
theorem dX1_indexOf_31 : decode cX1_indexOf 31 = .ok (.goto (-29), 3) := by decide +kernel
theorem dX1_indexOf_34 : decode cX1_indexOf 34 = .ok (.iconst (-1), 1) := by decide +kernel
theorem dX1_indexOf_35 : decode cX1_indexOf 35 = .ok (.ireturn, 1) := by decide +kernel
theorem dX1_hasLaidSame_0 : decode cX1_hasLaidSame 0 = .ok (.iconst 0, 1) := by decide +kernel
theorem dX1_hasLaidSame_1 : decode cX1_hasLaidSame 1 = .ok (.istore_n 2, 1) := by decide +kernel
theorem dX1_hasLaidSame_2 : decode cX1_hasLaidSame 2 = .ok (.iload_n 2, 1) := by decide +kernel
theorem dX1_hasLaidSame_3 : decode cX1_hasLaidSame 3 = .ok (.aload_n 0, 1) := by decide +kernel
theorem dX1_hasLaidSame_4 : decode cX1_hasLaidSame 4 = .ok (.getfield 31, 3) := by decide +kernel
theorem dX1_hasLaidSame_7 : decode cX1_hasLaidSame 7 = .ok (.if_icmp .ge 40, 3) := by decide +kernel
theorem dX1_hasLaidSame_10 : decode cX1_hasLaidSame 10 = .ok (.aload_n 0, 1) := by decide +kernel
theorem dX1_hasLaidSame_11 : decode cX1_hasLaidSame 11 = .ok (.getfield 24, 3) := by decide +kernel
theorem dX1_hasLaidSame_14 : decode cX1_hasLaidSame 14 = .ok (.iload_n 2, 1) := by decide +kernel
theorem dX1_hasLaidSame_15 : decode cX1_hasLaidSame 15 = .ok (.aaload, 1) := by decide +kernel
theorem dX1_hasLaidSame_16 : decode cX1_hasLaidSame 16 = .ok (.getfield 57, 3) := by decide +kernel
theorem dX1_hasLaidSame_19 : decode cX1_hasLaidSame 19 = .ok (.aload_n 1, 1) := by decide +kernel
theorem dX1_hasLaidSame_20 : decode cX1_hasLaidSame 20 = .ok (.getfield 57, 3) := by decide +kernel
theorem dX1_hasLaidSame_23 : decode cX1_hasLaidSame 23 = .ok (.if_icmp .ne 18, 3) := by decide +kernel
theorem dX1_hasLaidSame_26 : decode cX1_hasLaidSame 26 = .ok (.aload_n 0, 1) := by decide +kernel
theorem dX1_hasLaidSame_27 : decode cX1_hasLaidSame 27 = .ok (.getfield 24, 3) := by decide +kernel
theorem dX1_hasLaidSame_30 : decode cX1_hasLaidSame 30 = .ok (.iload_n 2, 1) := by decide +kernel
theorem dX1_hasLaidSame_31 : decode cX1_hasLaidSame 31 = .ok (.aaload, 1) := by decide +kernel
theorem dX1_hasLaidSame_32 : decode cX1_hasLaidSame 32 = .ok (.aload_n 1, 1) := by decide +kernel
theorem dX1_hasLaidSame_33 : decode cX1_hasLaidSame 33 = .ok (.invokevirtual 60, 3) := by decide +kernel
theorem dX1_hasLaidSame_36 : decode cX1_hasLaidSame 36 = .ok (.ifCond .eq 5, 3) := by decide +kernel
theorem dX1_hasLaidSame_39 : decode cX1_hasLaidSame 39 = .ok (.iconst 1, 1) := by decide +kernel
theorem dX1_hasLaidSame_40 : decode cX1_hasLaidSame 40 = .ok (.ireturn, 1) := by decide +kernel
theorem dX1_hasLaidSame_41 : decode cX1_hasLaidSame 41 = .ok (.iinc 2 1, 3) := by decide +kernel
theorem dX1_hasLaidSame_44 : decode cX1_hasLaidSame 44 = .ok (.goto (-42), 3) := by decide +kernel
theorem dX1_hasLaidSame_47 : decode cX1_hasLaidSame 47 = .ok (.iconst 0, 1) := by decide +kernel
theorem dX1_hasLaidSame_48 : decode cX1_hasLaidSame 48 = .ok (.ireturn, 1) := by decide +kernel
theorem dX1_putLaid_0 : decode cX1_putLaid 0 = .ok (.aload_n 0, 1) := by decide +kernel
theorem dX1_putLaid_1 : decode cX1_putLaid 1 = .ok (.getfield 31, 3) := by decide +kernel
theorem dX1_putLaid_4 : decode cX1_putLaid 4 = .ok (.bipush 8, 2) := by decide +kernel
theorem dX1_putLaid_6 : decode cX1_putLaid 6 = .ok (.if_icmp .lt 5, 3) := by decide +kernel
theorem dX1_putLaid_9 : decode cX1_putLaid 9 = .ok (.iconst 0, 1) := by decide +kernel
theorem dX1_putLaid_10 : decode cX1_putLaid 10 = .ok (.ireturn, 1) := by decide +kernel
theorem dX1_putLaid_11 : decode cX1_putLaid 11 = .ok (.aload_n 0, 1) := by decide +kernel
theorem dX1_putLaid_12 : decode cX1_putLaid 12 = .ok (.getfield 31, 3) := by decide +kernel
theorem dX1_putLaid_15 : decode cX1_putLaid 15 = .ok (.istore_n 2, 1) := by decide +kernel
theorem dX1_putLaid_16 : decode cX1_putLaid 16 = .ok (.iload_n 2, 1) := by decide +kernel
theorem dX1_putLaid_17 : decode cX1_putLaid 17 = .ok (.ifCond .le 41, 3) := by decide +kernel
theorem dX1_putLaid_20 : decode cX1_putLaid 20 = .ok (.aload_n 0, 1) := by decide +kernel
theorem dX1_putLaid_21 : decode cX1_putLaid 21 = .ok (.getfield 24, 3) := by decide +kernel
theorem dX1_putLaid_24 : decode cX1_putLaid 24 = .ok (.iload_n 2, 1) := by decide +kernel
theorem dX1_putLaid_25 : decode cX1_putLaid 25 = .ok (.iconst 1, 1) := by decide +kernel
theorem dX1_putLaid_26 : decode cX1_putLaid 26 = .ok (.isub, 1) := by decide +kernel
theorem dX1_putLaid_27 : decode cX1_putLaid 27 = .ok (.aaload, 1) := by decide +kernel
theorem dX1_putLaid_28 : decode cX1_putLaid 28 = .ok (.getfield 56, 3) := by decide +kernel
theorem dX1_putLaid_31 : decode cX1_putLaid 31 = .ok (.aload_n 1, 1) := by decide +kernel
theorem dX1_putLaid_32 : decode cX1_putLaid 32 = .ok (.getfield 56, 3) := by decide +kernel
theorem dX1_putLaid_35 : decode cX1_putLaid 35 = .ok (.if_icmp .le 23, 3) := by decide +kernel
theorem dX1_putLaid_38 : decode cX1_putLaid 38 = .ok (.aload_n 0, 1) := by decide +kernel
theorem dX1_putLaid_39 : decode cX1_putLaid 39 = .ok (.getfield 24, 3) := by decide +kernel
theorem dX1_putLaid_42 : decode cX1_putLaid 42 = .ok (.iload_n 2, 1) := by decide +kernel
theorem dX1_putLaid_43 : decode cX1_putLaid 43 = .ok (.aload_n 0, 1) := by decide +kernel
theorem dX1_putLaid_44 : decode cX1_putLaid 44 = .ok (.getfield 24, 3) := by decide +kernel
theorem dX1_putLaid_47 : decode cX1_putLaid 47 = .ok (.iload_n 2, 1) := by decide +kernel
theorem dX1_putLaid_48 : decode cX1_putLaid 48 = .ok (.iconst 1, 1) := by decide +kernel
theorem dX1_putLaid_49 : decode cX1_putLaid 49 = .ok (.isub, 1) := by decide +kernel
theorem dX1_putLaid_50 : decode cX1_putLaid 50 = .ok (.aaload, 1) := by decide +kernel
theorem dX1_putLaid_51 : decode cX1_putLaid 51 = .ok (.aastore, 1) := by decide +kernel
theorem dX1_putLaid_52 : decode cX1_putLaid 52 = .ok (.iinc 2 (-1), 3) := by decide +kernel
theorem dX1_putLaid_55 : decode cX1_putLaid 55 = .ok (.goto (-39), 3) := by decide +kernel
theorem dX1_putLaid_58 : decode cX1_putLaid 58 = .ok (.aload_n 0, 1) := by decide +kernel
theorem dX1_putLaid_59 : decode cX1_putLaid 59 = .ok (.getfield 24, 3) := by decide +kernel
theorem dX1_putLaid_62 : decode cX1_putLaid 62 = .ok (.iload_n 2, 1) := by decide +kernel
theorem dX1_putLaid_63 : decode cX1_putLaid 63 = .ok (.aload_n 1, 1) := by decide +kernel
theorem dX1_putLaid_64 : decode cX1_putLaid 64 = .ok (.aastore, 1) := by decide +kernel
theorem dX1_putLaid_65 : decode cX1_putLaid 65 = .ok (.aload_n 0, 1) := by decide +kernel
theorem dX1_putLaid_66 : decode cX1_putLaid 66 = .ok (.dup, 1) := by decide +kernel
theorem dX1_putLaid_67 : decode cX1_putLaid 67 = .ok (.getfield 31, 3) := by decide +kernel
theorem dX1_putLaid_70 : decode cX1_putLaid 70 = .ok (.iconst 1, 1) := by decide +kernel
theorem dX1_putLaid_71 : decode cX1_putLaid 71 = .ok (.iadd, 1) := by decide +kernel
theorem dX1_putLaid_72 : decode cX1_putLaid 72 = .ok (.putfield 31, 3) := by decide +kernel
theorem dX1_putLaid_75 : decode cX1_putLaid 75 = .ok (.aload_n 0, 1) := by decide +kernel
theorem dX1_putLaid_76 : decode cX1_putLaid 76 = .ok (.invokevirtual 64, 3) := by decide +kernel
theorem dX1_putLaid_79 : decode cX1_putLaid 79 = .ok (.iconst 1, 1) := by decide +kernel
theorem dX1_putLaid_80 : decode cX1_putLaid 80 = .ok (.ireturn, 1) := by decide +kernel
theorem dX1_dropLaid_0 : decode cX1_dropLaid 0 = .ok (.iconst 0, 1) := by decide +kernel
theorem dX1_dropLaid_1 : decode cX1_dropLaid 1 = .ok (.istore_n 2, 1) := by decide +kernel
theorem dX1_dropLaid_2 : decode cX1_dropLaid 2 = .ok (.iconst 0, 1) := by decide +kernel
theorem dX1_dropLaid_3 : decode cX1_dropLaid 3 = .ok (.istore_n 3, 1) := by decide +kernel
theorem dX1_dropLaid_4 : decode cX1_dropLaid 4 = .ok (.iload_n 3, 1) := by decide +kernel
theorem dX1_dropLaid_5 : decode cX1_dropLaid 5 = .ok (.aload_n 0, 1) := by decide +kernel
theorem dX1_dropLaid_6 : decode cX1_dropLaid 6 = .ok (.getfield 31, 3) := by decide +kernel
theorem dX1_dropLaid_9 : decode cX1_dropLaid 9 = .ok (.if_icmp .ge 40, 3) := by decide +kernel
theorem dX1_dropLaid_12 : decode cX1_dropLaid 12 = .ok (.aload_n 0, 1) := by decide +kernel
theorem dX1_dropLaid_13 : decode cX1_dropLaid 13 = .ok (.getfield 24, 3) := by decide +kernel
theorem dX1_dropLaid_16 : decode cX1_dropLaid 16 = .ok (.iload_n 3, 1) := by decide +kernel
theorem dX1_dropLaid_17 : decode cX1_dropLaid 17 = .ok (.aaload, 1) := by decide +kernel
theorem dX1_dropLaid_18 : decode cX1_dropLaid 18 = .ok (.getfield 56, 3) := by decide +kernel
theorem dX1_dropLaid_21 : decode cX1_dropLaid 21 = .ok (.aload_n 1, 1) := by decide +kernel
theorem dX1_dropLaid_22 : decode cX1_dropLaid 22 = .ok (.getfield 56, 3) := by decide +kernel
theorem dX1_dropLaid_25 : decode cX1_dropLaid 25 = .ok (.if_icmp .eq 18, 3) := by decide +kernel
theorem dX1_dropLaid_28 : decode cX1_dropLaid 28 = .ok (.aload_n 0, 1) := by decide +kernel
theorem dX1_dropLaid_29 : decode cX1_dropLaid 29 = .ok (.getfield 24, 3) := by decide +kernel
theorem dX1_dropLaid_32 : decode cX1_dropLaid 32 = .ok (.iload_n 2, 1) := by decide +kernel
theorem dX1_dropLaid_33 : decode cX1_dropLaid 33 = .ok (.aload_n 0, 1) := by decide +kernel
theorem dX1_dropLaid_34 : decode cX1_dropLaid 34 = .ok (.getfield 24, 3) := by decide +kernel
theorem dX1_dropLaid_37 : decode cX1_dropLaid 37 = .ok (.iload_n 3, 1) := by decide +kernel
theorem dX1_dropLaid_38 : decode cX1_dropLaid 38 = .ok (.aaload, 1) := by decide +kernel
theorem dX1_dropLaid_39 : decode cX1_dropLaid 39 = .ok (.aastore, 1) := by decide +kernel
theorem dX1_dropLaid_40 : decode cX1_dropLaid 40 = .ok (.iinc 2 1, 3) := by decide +kernel
theorem dX1_dropLaid_43 : decode cX1_dropLaid 43 = .ok (.iinc 3 1, 3) := by decide +kernel
theorem dX1_dropLaid_46 : decode cX1_dropLaid 46 = .ok (.goto (-42), 3) := by decide +kernel
theorem dX1_dropLaid_49 : decode cX1_dropLaid 49 = .ok (.aload_n 0, 1) := by decide +kernel
theorem dX1_dropLaid_50 : decode cX1_dropLaid 50 = .ok (.iload_n 2, 1) := by decide +kernel
theorem dX1_dropLaid_51 : decode cX1_dropLaid 51 = .ok (.putfield 31, 3) := by decide +kernel
theorem dX1_dropLaid_54 : decode cX1_dropLaid 54 = .ok (.aload_n 0, 1) := by decide +kernel
theorem dX1_dropLaid_55 : decode cX1_dropLaid 55 = .ok (.invokevirtual 64, 3) := by decide +kernel
theorem dX1_dropLaid_58 : decode cX1_dropLaid 58 = .ok (.return_, 1) := by decide +kernel
theorem dX1_compareLaid_0 : decode cX1_compareLaid 0 = .ok (.aload_n 0, 1) := by decide +kernel
theorem dX1_compareLaid_1 : decode cX1_compareLaid 1 = .ok (.iconst 0, 1) := by decide +kernel
theorem dX1_compareLaid_2 : decode cX1_compareLaid 2 = .ok (.putfield 35, 3) := by decide +kernel
theorem dX1_compareLaid_5 : decode cX1_compareLaid 5 = .ok (.iconst 0, 1) := by decide +kernel
theorem dX1_compareLaid_6 : decode cX1_compareLaid 6 = .ok (.istore_n 1, 1) := by decide +kernel
theorem dX1_compareLaid_7 : decode cX1_compareLaid 7 = .ok (.iload_n 1, 1) := by decide +kernel
theorem dX1_compareLaid_8 : decode cX1_compareLaid 8 = .ok (.aload_n 0, 1) := by decide +kernel
theorem dX1_compareLaid_9 : decode cX1_compareLaid 9 = .ok (.getfield 31, 3) := by decide +kernel
theorem dX1_compareLaid_12 : decode cX1_compareLaid 12 = .ok (.if_icmp .ge 86, 3) := by decide +kernel
theorem dX1_compareLaid_15 : decode cX1_compareLaid 15 = .ok (.aload_n 0, 1) := by decide +kernel
theorem dX1_compareLaid_16 : decode cX1_compareLaid 16 = .ok (.getfield 28, 3) := by decide +kernel
theorem dX1_compareLaid_19 : decode cX1_compareLaid 19 = .ok (.iload_n 1, 1) := by decide +kernel
theorem dX1_compareLaid_20 : decode cX1_compareLaid 20 = .ok (.iconst 0, 1) := by decide +kernel
theorem dX1_compareLaid_21 : decode cX1_compareLaid 21 = .ok (.iastore, 1) := by decide +kernel
theorem dX1_compareLaid_22 : decode cX1_compareLaid 22 = .ok (.aload_n 0, 1) := by decide +kernel
theorem dX1_compareLaid_23 : decode cX1_compareLaid 23 = .ok (.getfield 24, 3) := by decide +kernel
theorem dX1_compareLaid_26 : decode cX1_compareLaid 26 = .ok (.iload_n 1, 1) := by decide +kernel
theorem dX1_compareLaid_27 : decode cX1_compareLaid 27 = .ok (.aaload, 1) := by decide +kernel
theorem dX1_compareLaid_28 : decode cX1_compareLaid 28 = .ok (.getfield 57, 3) := by decide +kernel
theorem dX1_compareLaid_31 : decode cX1_compareLaid 31 = .ok (.ifCond .ne 15, 3) := by decide +kernel
theorem dX1_compareLaid_34 : decode cX1_compareLaid 34 = .ok (.aload_n 0, 1) := by decide +kernel
theorem dX1_compareLaid_35 : decode cX1_compareLaid 35 = .ok (.dup, 1) := by decide +kernel
theorem dX1_compareLaid_36 : decode cX1_compareLaid 36 = .ok (.getfield 35, 3) := by decide +kernel
theorem dX1_compareLaid_39 : decode cX1_compareLaid 39 = .ok (.iconst 1, 1) := by decide +kernel
theorem dX1_compareLaid_40 : decode cX1_compareLaid 40 = .ok (.iload_n 1, 1) := by decide +kernel
theorem dX1_compareLaid_41 : decode cX1_compareLaid 41 = .ok (.ishl, 1) := by decide +kernel
theorem dX1_compareLaid_42 : decode cX1_compareLaid 42 = .ok (.ior, 1) := by decide +kernel
theorem dX1_compareLaid_43 : decode cX1_compareLaid 43 = .ok (.putfield 35, 3) := by decide +kernel
theorem dX1_compareLaid_46 : decode cX1_compareLaid 46 = .ok (.iconst 0, 1) := by decide +kernel
theorem dX1_compareLaid_47 : decode cX1_compareLaid 47 = .ok (.istore_n 2, 1) := by decide +kernel
theorem dX1_compareLaid_48 : decode cX1_compareLaid 48 = .ok (.iload_n 2, 1) := by decide +kernel
theorem dX1_compareLaid_49 : decode cX1_compareLaid 49 = .ok (.aload_n 0, 1) := by decide +kernel
theorem dX1_compareLaid_50 : decode cX1_compareLaid 50 = .ok (.getfield 31, 3) := by decide +kernel
theorem dX1_compareLaid_53 : decode cX1_compareLaid 53 = .ok (.if_icmp .ge 39, 3) := by decide +kernel
theorem dX1_compareLaid_56 : decode cX1_compareLaid 56 = .ok (.aload_n 0, 1) := by decide +kernel
theorem dX1_compareLaid_57 : decode cX1_compareLaid 57 = .ok (.getfield 24, 3) := by decide +kernel
theorem dX1_compareLaid_60 : decode cX1_compareLaid 60 = .ok (.iload_n 1, 1) := by decide +kernel
theorem dX1_compareLaid_61 : decode cX1_compareLaid 61 = .ok (.aaload, 1) := by decide +kernel
theorem dX1_compareLaid_62 : decode cX1_compareLaid 62 = .ok (.aload_n 0, 1) := by decide +kernel
theorem dX1_compareLaid_63 : decode cX1_compareLaid 63 = .ok (.getfield 24, 3) := by decide +kernel
theorem dX1_compareLaid_66 : decode cX1_compareLaid 66 = .ok (.iload_n 2, 1) := by decide +kernel
theorem dX1_compareLaid_67 : decode cX1_compareLaid 67 = .ok (.aaload, 1) := by decide +kernel
theorem dX1_compareLaid_68 : decode cX1_compareLaid 68 = .ok (.invokevirtual 67, 3) := by decide +kernel
theorem dX1_compareLaid_71 : decode cX1_compareLaid 71 = .ok (.ifCond .eq 15, 3) := by decide +kernel
theorem dX1_compareLaid_74 : decode cX1_compareLaid 74 = .ok (.aload_n 0, 1) := by decide +kernel
theorem dX1_compareLaid_75 : decode cX1_compareLaid 75 = .ok (.getfield 28, 3) := by decide +kernel
theorem dX1_compareLaid_78 : decode cX1_compareLaid 78 = .ok (.iload_n 1, 1) := by decide +kernel
theorem dX1_compareLaid_79 : decode cX1_compareLaid 79 = .ok (.dup2, 1) := by decide +kernel
theorem dX1_compareLaid_80 : decode cX1_compareLaid 80 = .ok (.iaload, 1) := by decide +kernel
theorem dX1_compareLaid_81 : decode cX1_compareLaid 81 = .ok (.iconst 1, 1) := by decide +kernel
theorem dX1_compareLaid_82 : decode cX1_compareLaid 82 = .ok (.iload_n 2, 1) := by decide +kernel
theorem dX1_compareLaid_83 : decode cX1_compareLaid 83 = .ok (.ishl, 1) := by decide +kernel
theorem dX1_compareLaid_84 : decode cX1_compareLaid 84 = .ok (.ior, 1) := by decide +kernel
theorem dX1_compareLaid_85 : decode cX1_compareLaid 85 = .ok (.iastore, 1) := by decide +kernel
theorem dX1_compareLaid_86 : decode cX1_compareLaid 86 = .ok (.iinc 2 1, 3) := by decide +kernel
theorem dX1_compareLaid_89 : decode cX1_compareLaid 89 = .ok (.goto (-41), 3) := by decide +kernel
theorem dX1_compareLaid_92 : decode cX1_compareLaid 92 = .ok (.iinc 1 1, 3) := by decide +kernel
theorem dX1_compareLaid_95 : decode cX1_compareLaid 95 = .ok (.goto (-88), 3) := by decide +kernel
theorem dX1_compareLaid_98 : decode cX1_compareLaid 98 = .ok (.aload_n 0, 1) := by decide +kernel
theorem dX1_compareLaid_99 : decode cX1_compareLaid 99 = .ok (.invokevirtual 70, 3) := by decide +kernel
theorem dX1_compareLaid_102 : decode cX1_compareLaid 102 = .ok (.aload_n 0, 1) := by decide +kernel
theorem dX1_compareLaid_103 : decode cX1_compareLaid 103 = .ok (.getfield 12, 3) := by decide +kernel
theorem dX1_compareLaid_106 : decode cX1_compareLaid 106 = .ok (.invokevirtual 73, 3) := by decide +kernel
theorem dX1_compareLaid_109 : decode cX1_compareLaid 109 = .ok (.return_, 1) := by decide +kernel
theorem dX1_putInOrder_0 : decode cX1_putInOrder 0 = .ok (.iconst 1, 1) := by decide +kernel
theorem dX1_putInOrder_1 : decode cX1_putInOrder 1 = .ok (.aload_n 0, 1) := by decide +kernel
theorem dX1_putInOrder_2 : decode cX1_putInOrder 2 = .ok (.getfield 31, 3) := by decide +kernel
theorem dX1_putInOrder_5 : decode cX1_putInOrder 5 = .ok (.ishl, 1) := by decide +kernel
theorem dX1_putInOrder_6 : decode cX1_putInOrder 6 = .ok (.iconst 1, 1) := by decide +kernel
theorem dX1_putInOrder_7 : decode cX1_putInOrder 7 = .ok (.isub, 1) := by decide +kernel
theorem dX1_putInOrder_8 : decode cX1_putInOrder 8 = .ok (.istore_n 1, 1) := by decide +kernel
theorem dX1_putInOrder_9 : decode cX1_putInOrder 9 = .ok (.iconst 0, 1) := by decide +kernel
theorem dX1_putInOrder_10 : decode cX1_putInOrder 10 = .ok (.istore_n 2, 1) := by decide +kernel
theorem dX1_putInOrder_11 : decode cX1_putInOrder 11 = .ok (.iload_n 2, 1) := by decide +kernel
theorem dX1_putInOrder_12 : decode cX1_putInOrder 12 = .ok (.aload_n 0, 1) := by decide +kernel
theorem dX1_putInOrder_13 : decode cX1_putInOrder 13 = .ok (.getfield 31, 3) := by decide +kernel
theorem dX1_putInOrder_16 : decode cX1_putInOrder 16 = .ok (.if_icmp .ge 38, 3) := by decide +kernel
theorem dX1_putInOrder_19 : decode cX1_putInOrder 19 = .ok (.iload_n 1, 1) := by decide +kernel
theorem dX1_putInOrder_20 : decode cX1_putInOrder 20 = .ok (.aload_n 0, 1) := by decide +kernel
theorem dX1_putInOrder_21 : decode cX1_putInOrder 21 = .ok (.iload_n 1, 1) := by decide +kernel
theorem dX1_putInOrder_22 : decode cX1_putInOrder 22 = .ok (.invokevirtual 76, 3) := by decide +kernel
theorem dX1_putInOrder_25 : decode cX1_putInOrder 25 = .ok (.iconst (-1), 1) := by decide +kernel
theorem dX1_putInOrder_26 : decode cX1_putInOrder 26 = .ok (.ixor, 1) := by decide +kernel
theorem dX1_putInOrder_27 : decode cX1_putInOrder 27 = .ok (.iand, 1) := by decide +kernel
theorem dX1_putInOrder_28 : decode cX1_putInOrder 28 = .ok (.iconst 0, 1) := by decide +kernel
theorem dX1_putInOrder_29 : decode cX1_putInOrder 29 = .ok (.invokestatic 80, 3) := by decide +kernel
theorem dX1_putInOrder_32 : decode cX1_putInOrder 32 = .ok (.istore_n 3, 1) := by decide +kernel
theorem dX1_putInOrder_33 : decode cX1_putInOrder 33 = .ok (.aload_n 0, 1) := by decide +kernel
theorem dX1_putInOrder_34 : decode cX1_putInOrder 34 = .ok (.getfield 18, 3) := by decide +kernel
theorem dX1_putInOrder_37 : decode cX1_putInOrder 37 = .ok (.iload_n 2, 1) := by decide +kernel
theorem dX1_putInOrder_38 : decode cX1_putInOrder 38 = .ok (.iload_n 3, 1) := by decide +kernel
theorem dX1_putInOrder_39 : decode cX1_putInOrder 39 = .ok (.iastore, 1) := by decide +kernel
theorem dX1_putInOrder_40 : decode cX1_putInOrder 40 = .ok (.iload_n 1, 1) := by decide +kernel
theorem dX1_putInOrder_41 : decode cX1_putInOrder 41 = .ok (.iconst 1, 1) := by decide +kernel
theorem dX1_putInOrder_42 : decode cX1_putInOrder 42 = .ok (.iload_n 3, 1) := by decide +kernel
theorem dX1_putInOrder_43 : decode cX1_putInOrder 43 = .ok (.ishl, 1) := by decide +kernel
theorem dX1_putInOrder_44 : decode cX1_putInOrder 44 = .ok (.iconst (-1), 1) := by decide +kernel
theorem dX1_putInOrder_45 : decode cX1_putInOrder 45 = .ok (.ixor, 1) := by decide +kernel
theorem dX1_putInOrder_46 : decode cX1_putInOrder 46 = .ok (.iand, 1) := by decide +kernel
theorem dX1_putInOrder_47 : decode cX1_putInOrder 47 = .ok (.istore_n 1, 1) := by decide +kernel
theorem dX1_putInOrder_48 : decode cX1_putInOrder 48 = .ok (.iinc 2 1, 3) := by decide +kernel
theorem dX1_putInOrder_51 : decode cX1_putInOrder 51 = .ok (.goto (-40), 3) := by decide +kernel
theorem dX1_putInOrder_54 : decode cX1_putInOrder 54 = .ok (.return_, 1) := by decide +kernel
theorem dX1_beatenByAny_0 : decode cX1_beatenByAny 0 = .ok (.iconst 0, 1) := by decide +kernel
theorem dX1_beatenByAny_1 : decode cX1_beatenByAny 1 = .ok (.istore_n 2, 1) := by decide +kernel
theorem dX1_beatenByAny_2 : decode cX1_beatenByAny 2 = .ok (.iconst 0, 1) := by decide +kernel
theorem dX1_beatenByAny_3 : decode cX1_beatenByAny 3 = .ok (.istore_n 3, 1) := by decide +kernel
theorem dX1_beatenByAny_4 : decode cX1_beatenByAny 4 = .ok (.iload_n 3, 1) := by decide +kernel
theorem dX1_beatenByAny_5 : decode cX1_beatenByAny 5 = .ok (.aload_n 0, 1) := by decide +kernel
theorem dX1_beatenByAny_6 : decode cX1_beatenByAny 6 = .ok (.getfield 31, 3) := by decide +kernel
theorem dX1_beatenByAny_9 : decode cX1_beatenByAny 9 = .ok (.if_icmp .ge 26, 3) := by decide +kernel
theorem dX1_beatenByAny_12 : decode cX1_beatenByAny 12 = .ok (.iload_n 1, 1) := by decide +kernel
theorem dX1_beatenByAny_13 : decode cX1_beatenByAny 13 = .ok (.iconst 1, 1) := by decide +kernel
theorem dX1_beatenByAny_14 : decode cX1_beatenByAny 14 = .ok (.iload_n 3, 1) := by decide +kernel
theorem dX1_beatenByAny_15 : decode cX1_beatenByAny 15 = .ok (.ishl, 1) := by decide +kernel
theorem dX1_beatenByAny_16 : decode cX1_beatenByAny 16 = .ok (.iand, 1) := by decide +kernel
theorem dX1_beatenByAny_17 : decode cX1_beatenByAny 17 = .ok (.ifCond .eq 12, 3) := by decide +kernel
theorem dX1_beatenByAny_20 : decode cX1_beatenByAny 20 = .ok (.iload_n 2, 1) := by decide +kernel
theorem dX1_beatenByAny_21 : decode cX1_beatenByAny 21 = .ok (.aload_n 0, 1) := by decide +kernel
theorem dX1_beatenByAny_22 : decode cX1_beatenByAny 22 = .ok (.getfield 28, 3) := by decide +kernel
theorem dX1_beatenByAny_25 : decode cX1_beatenByAny 25 = .ok (.iload_n 3, 1) := by decide +kernel
theorem dX1_beatenByAny_26 : decode cX1_beatenByAny 26 = .ok (.iaload, 1) := by decide +kernel
theorem dX1_beatenByAny_27 : decode cX1_beatenByAny 27 = .ok (.ior, 1) := by decide +kernel
theorem dX1_beatenByAny_28 : decode cX1_beatenByAny 28 = .ok (.istore_n 2, 1) := by decide +kernel
theorem dX1_beatenByAny_29 : decode cX1_beatenByAny 29 = .ok (.iinc 3 1, 3) := by decide +kernel
theorem dX1_beatenByAny_32 : decode cX1_beatenByAny 32 = .ok (.goto (-28), 3) := by decide +kernel
theorem dX1_beatenByAny_35 : decode cX1_beatenByAny 35 = .ok (.iload_n 2, 1) := by decide +kernel
theorem dX1_beatenByAny_36 : decode cX1_beatenByAny 36 = .ok (.ireturn, 1) := by decide +kernel
theorem dX1_beatenBy_0 : decode cX1_beatenBy 0 = .ok (.iload_n 1, 1) := by decide +kernel
theorem dX1_beatenBy_1 : decode cX1_beatenBy 1 = .ok (.ifCond .lt 20, 3) := by decide +kernel
theorem dX1_beatenBy_4 : decode cX1_beatenBy 4 = .ok (.iload_n 1, 1) := by decide +kernel
theorem dX1_beatenBy_5 : decode cX1_beatenBy 5 = .ok (.aload_n 0, 1) := by decide +kernel
theorem dX1_beatenBy_6 : decode cX1_beatenBy 6 = .ok (.getfield 31, 3) := by decide +kernel
theorem dX1_beatenBy_9 : decode cX1_beatenBy 9 = .ok (.if_icmp .ge 12, 3) := by decide +kernel
theorem dX1_beatenBy_12 : decode cX1_beatenBy 12 = .ok (.aload_n 0, 1) := by decide +kernel
theorem dX1_beatenBy_13 : decode cX1_beatenBy 13 = .ok (.getfield 28, 3) := by decide +kernel
theorem dX1_beatenBy_16 : decode cX1_beatenBy 16 = .ok (.iload_n 1, 1) := by decide +kernel
theorem dX1_beatenBy_17 : decode cX1_beatenBy 17 = .ok (.iaload, 1) := by decide +kernel
theorem dX1_beatenBy_18 : decode cX1_beatenBy 18 = .ok (.goto 4, 3) := by decide +kernel
theorem dX1_beatenBy_21 : decode cX1_beatenBy 21 = .ok (.iconst 0, 1) := by decide +kernel
theorem dX1_beatenBy_22 : decode cX1_beatenBy 22 = .ok (.ireturn, 1) := by decide +kernel
theorem dX1_beatersOf_0 : decode cX1_beatersOf 0 = .ok (.iconst 0, 1) := by decide +kernel
theorem dX1_beatersOf_1 : decode cX1_beatersOf 1 = .ok (.istore_n 2, 1) := by decide +kernel
theorem dX1_beatersOf_2 : decode cX1_beatersOf 2 = .ok (.iconst 0, 1) := by decide +kernel
theorem dX1_beatersOf_3 : decode cX1_beatersOf 3 = .ok (.istore_n 3, 1) := by decide +kernel
theorem dX1_beatersOf_4 : decode cX1_beatersOf 4 = .ok (.iload_n 3, 1) := by decide +kernel
theorem dX1_beatersOf_5 : decode cX1_beatersOf 5 = .ok (.aload_n 0, 1) := by decide +kernel
theorem dX1_beatersOf_6 : decode cX1_beatersOf 6 = .ok (.getfield 31, 3) := by decide +kernel
theorem dX1_beatersOf_9 : decode cX1_beatersOf 9 = .ok (.if_icmp .ge 28, 3) := by decide +kernel
theorem dX1_beatersOf_12 : decode cX1_beatersOf 12 = .ok (.aload_n 0, 1) := by decide +kernel
theorem dX1_beatersOf_13 : decode cX1_beatersOf 13 = .ok (.getfield 28, 3) := by decide +kernel
theorem dX1_beatersOf_16 : decode cX1_beatersOf 16 = .ok (.iload_n 3, 1) := by decide +kernel
theorem dX1_beatersOf_17 : decode cX1_beatersOf 17 = .ok (.iaload, 1) := by decide +kernel
theorem dX1_beatersOf_18 : decode cX1_beatersOf 18 = .ok (.iconst 1, 1) := by decide +kernel
theorem dX1_beatersOf_19 : decode cX1_beatersOf 19 = .ok (.iload_n 1, 1) := by decide +kernel
theorem dX1_beatersOf_20 : decode cX1_beatersOf 20 = .ok (.ishl, 1) := by decide +kernel
theorem dX1_beatersOf_21 : decode cX1_beatersOf 21 = .ok (.iand, 1) := by decide +kernel
theorem dX1_beatersOf_22 : decode cX1_beatersOf 22 = .ok (.ifCond .eq 9, 3) := by decide +kernel
theorem dX1_beatersOf_25 : decode cX1_beatersOf 25 = .ok (.iload_n 2, 1) := by decide +kernel
theorem dX1_beatersOf_26 : decode cX1_beatersOf 26 = .ok (.iconst 1, 1) := by decide +kernel
theorem dX1_beatersOf_27 : decode cX1_beatersOf 27 = .ok (.iload_n 3, 1) := by decide +kernel
theorem dX1_beatersOf_28 : decode cX1_beatersOf 28 = .ok (.ishl, 1) := by decide +kernel
theorem dX1_beatersOf_29 : decode cX1_beatersOf 29 = .ok (.ior, 1) := by decide +kernel
theorem dX1_beatersOf_30 : decode cX1_beatersOf 30 = .ok (.istore_n 2, 1) := by decide +kernel
theorem dX1_beatersOf_31 : decode cX1_beatersOf 31 = .ok (.iinc 3 1, 3) := by decide +kernel
theorem dX1_beatersOf_34 : decode cX1_beatersOf 34 = .ok (.goto (-30), 3) := by decide +kernel
theorem dX1_beatersOf_37 : decode cX1_beatersOf 37 = .ok (.iload_n 2, 1) := by decide +kernel
theorem dX1_beatersOf_38 : decode cX1_beatersOf 38 = .ok (.ireturn, 1) := by decide +kernel
theorem dX1_takersOf_0 : decode cX1_takersOf 0 = .ok (.iconst 1, 1) := by decide +kernel
theorem dX1_takersOf_1 : decode cX1_takersOf 1 = .ok (.aload_n 0, 1) := by decide +kernel
theorem dX1_takersOf_2 : decode cX1_takersOf 2 = .ok (.getfield 31, 3) := by decide +kernel
theorem dX1_takersOf_5 : decode cX1_takersOf 5 = .ok (.ishl, 1) := by decide +kernel
theorem dX1_takersOf_6 : decode cX1_takersOf 6 = .ok (.iconst 1, 1) := by decide +kernel
theorem dX1_takersOf_7 : decode cX1_takersOf 7 = .ok (.isub, 1) := by decide +kernel
theorem dX1_takersOf_8 : decode cX1_takersOf 8 = .ok (.istore_n 2, 1) := by decide +kernel
theorem dX1_takersOf_9 : decode cX1_takersOf 9 = .ok (.iconst 0, 1) := by decide +kernel
theorem dX1_takersOf_10 : decode cX1_takersOf 10 = .ok (.istore_n 3, 1) := by decide +kernel
theorem dX1_takersOf_11 : decode cX1_takersOf 11 = .ok (.iload_n 3, 1) := by decide +kernel
theorem dX1_takersOf_12 : decode cX1_takersOf 12 = .ok (.aload_n 0, 1) := by decide +kernel
theorem dX1_takersOf_13 : decode cX1_takersOf 13 = .ok (.getfield 49, 3) := by decide +kernel
theorem dX1_takersOf_16 : decode cX1_takersOf 16 = .ok (.if_icmp .ge 35, 3) := by decide +kernel
theorem dX1_takersOf_19 : decode cX1_takersOf 19 = .ok (.iload_n 2, 1) := by decide +kernel
theorem dX1_takersOf_20 : decode cX1_takersOf 20 = .ok (.aload_n 0, 1) := by decide +kernel
theorem dX1_takersOf_21 : decode cX1_takersOf 21 = .ok (.iload_n 3, 1) := by decide +kernel
theorem dX1_takersOf_22 : decode cX1_takersOf 22 = .ok (.aload_n 1, 1) := by decide +kernel
theorem dX1_takersOf_23 : decode cX1_takersOf 23 = .ok (.getfield 84, 3) := by decide +kernel
theorem dX1_takersOf_26 : decode cX1_takersOf 26 = .ok (.iload_n 3, 1) := by decide +kernel
theorem dX1_takersOf_27 : decode cX1_takersOf 27 = .ok (.iaload, 1) := by decide +kernel
theorem dX1_takersOf_28 : decode cX1_takersOf 28 = .ok (.invokevirtual 89, 3) := by decide +kernel
theorem dX1_takersOf_31 : decode cX1_takersOf 31 = .ok (.aload_n 0, 1) := by decide +kernel
theorem dX1_takersOf_32 : decode cX1_takersOf 32 = .ok (.iload_n 3, 1) := by decide +kernel
theorem dX1_takersOf_33 : decode cX1_takersOf 33 = .ok (.aload_n 1, 1) := by decide +kernel
theorem dX1_takersOf_34 : decode cX1_takersOf 34 = .ok (.getfield 92, 3) := by decide +kernel
theorem dX1_takersOf_37 : decode cX1_takersOf 37 = .ok (.iload_n 3, 1) := by decide +kernel
theorem dX1_takersOf_38 : decode cX1_takersOf 38 = .ok (.iaload, 1) := by decide +kernel
theorem dX1_takersOf_39 : decode cX1_takersOf 39 = .ok (.invokevirtual 95, 3) := by decide +kernel
theorem dX1_takersOf_42 : decode cX1_takersOf 42 = .ok (.iand, 1) := by decide +kernel
theorem dX1_takersOf_43 : decode cX1_takersOf 43 = .ok (.iand, 1) := by decide +kernel
theorem dX1_takersOf_44 : decode cX1_takersOf 44 = .ok (.istore_n 2, 1) := by decide +kernel
theorem dX1_takersOf_45 : decode cX1_takersOf 45 = .ok (.iinc 3 1, 3) := by decide +kernel
theorem dX1_takersOf_48 : decode cX1_takersOf 48 = .ok (.goto (-37), 3) := by decide +kernel
theorem dX1_takersOf_51 : decode cX1_takersOf 51 = .ok (.iload_n 2, 1) := by decide +kernel
theorem dX1_takersOf_52 : decode cX1_takersOf 52 = .ok (.ireturn, 1) := by decide +kernel
theorem dX1_plainTakersOf_0 : decode cX1_plainTakersOf 0 = .ok (.aload_n 0, 1) := by decide +kernel
theorem dX1_plainTakersOf_1 : decode cX1_plainTakersOf 1 = .ok (.aload_n 1, 1) := by decide +kernel
theorem dX1_plainTakersOf_2 : decode cX1_plainTakersOf 2 = .ok (.invokevirtual 98, 3) := by decide +kernel
theorem dX1_plainTakersOf_5 : decode cX1_plainTakersOf 5 = .ok (.aload_n 0, 1) := by decide +kernel
theorem dX1_plainTakersOf_6 : decode cX1_plainTakersOf 6 = .ok (.getfield 35, 3) := by decide +kernel
theorem dX1_plainTakersOf_9 : decode cX1_plainTakersOf 9 = .ok (.iand, 1) := by decide +kernel
theorem dX1_plainTakersOf_10 : decode cX1_plainTakersOf 10 = .ok (.ireturn, 1) := by decide +kernel
theorem dX1_takersOfClass_0 : decode cX1_takersOfClass 0 = .ok (.iconst 0, 1) := by decide +kernel
theorem dX1_takersOfClass_1 : decode cX1_takersOfClass 1 = .ok (.istore_n 3, 1) := by decide +kernel
theorem dX1_takersOfClass_2 : decode cX1_takersOfClass 2 = .ok (.iconst 0, 1) := by decide +kernel
theorem dX1_takersOfClass_3 : decode cX1_takersOfClass 3 = .ok (.istore 4, 2) := by decide +kernel
theorem dX1_takersOfClass_5 : decode cX1_takersOfClass 5 = .ok (.iload 4, 2) := by decide +kernel
theorem dX1_takersOfClass_7 : decode cX1_takersOfClass 7 = .ok (.aload_n 0, 1) := by decide +kernel
theorem dX1_takersOfClass_8 : decode cX1_takersOfClass 8 = .ok (.getfield 31, 3) := by decide +kernel
theorem dX1_takersOfClass_11 : decode cX1_takersOfClass 11 = .ok (.if_icmp .ge 31, 3) := by decide +kernel
theorem dX1_takersOfClass_14 : decode cX1_takersOfClass 14 = .ok (.aload_n 0, 1) := by decide +kernel
theorem dX1_takersOfClass_15 : decode cX1_takersOfClass 15 = .ok (.getfield 24, 3) := by decide +kernel
theorem dX1_takersOfClass_18 : decode cX1_takersOfClass 18 = .ok (.iload 4, 2) := by decide +kernel
theorem dX1_takersOfClass_20 : decode cX1_takersOfClass 20 = .ok (.aaload, 1) := by decide +kernel
theorem dX1_takersOfClass_21 : decode cX1_takersOfClass 21 = .ok (.iload_n 1, 1) := by decide +kernel
theorem dX1_takersOfClass_22 : decode cX1_takersOfClass 22 = .ok (.iload_n 2, 1) := by decide +kernel
theorem dX1_takersOfClass_23 : decode cX1_takersOfClass 23 = .ok (.invokevirtual 102, 3) := by decide +kernel
theorem dX1_takersOfClass_26 : decode cX1_takersOfClass 26 = .ok (.ifCond .eq 10, 3) := by decide +kernel
theorem dX1_takersOfClass_29 : decode cX1_takersOfClass 29 = .ok (.iload_n 3, 1) := by decide +kernel
theorem dX1_takersOfClass_30 : decode cX1_takersOfClass 30 = .ok (.iconst 1, 1) := by decide +kernel
theorem dX1_takersOfClass_31 : decode cX1_takersOfClass 31 = .ok (.iload 4, 2) := by decide +kernel
theorem dX1_takersOfClass_33 : decode cX1_takersOfClass 33 = .ok (.ishl, 1) := by decide +kernel
theorem dX1_takersOfClass_34 : decode cX1_takersOfClass 34 = .ok (.ior, 1) := by decide +kernel
theorem dX1_takersOfClass_35 : decode cX1_takersOfClass 35 = .ok (.istore_n 3, 1) := by decide +kernel
theorem dX1_takersOfClass_36 : decode cX1_takersOfClass 36 = .ok (.iinc 4 1, 3) := by decide +kernel
theorem dX1_takersOfClass_39 : decode cX1_takersOfClass 39 = .ok (.goto (-34), 3) := by decide +kernel
theorem dX1_takersOfClass_42 : decode cX1_takersOfClass 42 = .ok (.iload_n 3, 1) := by decide +kernel
theorem dX1_takersOfClass_43 : decode cX1_takersOfClass 43 = .ok (.ireturn, 1) := by decide +kernel
theorem dX1_takersOfWeight_0 : decode cX1_takersOfWeight 0 = .ok (.iconst 0, 1) := by decide +kernel
theorem dX1_takersOfWeight_1 : decode cX1_takersOfWeight 1 = .ok (.istore_n 3, 1) := by decide +kernel
theorem dX1_takersOfWeight_2 : decode cX1_takersOfWeight 2 = .ok (.iconst 0, 1) := by decide +kernel
theorem dX1_takersOfWeight_3 : decode cX1_takersOfWeight 3 = .ok (.istore 4, 2) := by decide +kernel
theorem dX1_takersOfWeight_5 : decode cX1_takersOfWeight 5 = .ok (.iload 4, 2) := by decide +kernel
theorem dX1_takersOfWeight_7 : decode cX1_takersOfWeight 7 = .ok (.aload_n 0, 1) := by decide +kernel
theorem dX1_takersOfWeight_8 : decode cX1_takersOfWeight 8 = .ok (.getfield 31, 3) := by decide +kernel
theorem dX1_takersOfWeight_11 : decode cX1_takersOfWeight 11 = .ok (.if_icmp .ge 31, 3) := by decide +kernel
theorem dX1_takersOfWeight_14 : decode cX1_takersOfWeight 14 = .ok (.aload_n 0, 1) := by decide +kernel
theorem dX1_takersOfWeight_15 : decode cX1_takersOfWeight 15 = .ok (.getfield 24, 3) := by decide +kernel
theorem dX1_takersOfWeight_18 : decode cX1_takersOfWeight 18 = .ok (.iload 4, 2) := by decide +kernel
theorem dX1_takersOfWeight_20 : decode cX1_takersOfWeight 20 = .ok (.aaload, 1) := by decide +kernel
theorem dX1_takersOfWeight_21 : decode cX1_takersOfWeight 21 = .ok (.iload_n 1, 1) := by decide +kernel
theorem dX1_takersOfWeight_22 : decode cX1_takersOfWeight 22 = .ok (.iload_n 2, 1) := by decide +kernel
theorem dX1_takersOfWeight_23 : decode cX1_takersOfWeight 23 = .ok (.invokevirtual 106, 3) := by decide +kernel
theorem dX1_takersOfWeight_26 : decode cX1_takersOfWeight 26 = .ok (.ifCond .eq 10, 3) := by decide +kernel
theorem dX1_takersOfWeight_29 : decode cX1_takersOfWeight 29 = .ok (.iload_n 3, 1) := by decide +kernel
theorem dX1_takersOfWeight_30 : decode cX1_takersOfWeight 30 = .ok (.iconst 1, 1) := by decide +kernel
theorem dX1_takersOfWeight_31 : decode cX1_takersOfWeight 31 = .ok (.iload 4, 2) := by decide +kernel
theorem dX1_takersOfWeight_33 : decode cX1_takersOfWeight 33 = .ok (.ishl, 1) := by decide +kernel
theorem dX1_takersOfWeight_34 : decode cX1_takersOfWeight 34 = .ok (.ior, 1) := by decide +kernel
theorem dX1_takersOfWeight_35 : decode cX1_takersOfWeight 35 = .ok (.istore_n 3, 1) := by decide +kernel
theorem dX1_takersOfWeight_36 : decode cX1_takersOfWeight 36 = .ok (.iinc 4 1, 3) := by decide +kernel
theorem dX1_takersOfWeight_39 : decode cX1_takersOfWeight 39 = .ok (.goto (-34), 3) := by decide +kernel
theorem dX1_takersOfWeight_42 : decode cX1_takersOfWeight 42 = .ok (.iload_n 3, 1) := by decide +kernel
theorem dX1_takersOfWeight_43 : decode cX1_takersOfWeight 43 = .ok (.ireturn, 1) := by decide +kernel
theorem dX1_chosenOf_0 : decode cX1_chosenOf 0 = .ok (.iconst 0, 1) := by decide +kernel
theorem dX1_chosenOf_1 : decode cX1_chosenOf 1 = .ok (.istore_n 2, 1) := by decide +kernel
theorem dX1_chosenOf_2 : decode cX1_chosenOf 2 = .ok (.iload_n 2, 1) := by decide +kernel
theorem dX1_chosenOf_3 : decode cX1_chosenOf 3 = .ok (.aload_n 0, 1) := by decide +kernel
theorem dX1_chosenOf_4 : decode cX1_chosenOf 4 = .ok (.getfield 31, 3) := by decide +kernel
theorem dX1_chosenOf_7 : decode cX1_chosenOf 7 = .ok (.if_icmp .ge 38, 3) := by decide +kernel
theorem dX1_chosenOf_10 : decode cX1_chosenOf 10 = .ok (.iconst 1, 1) := by decide +kernel
theorem dX1_chosenOf_11 : decode cX1_chosenOf 11 = .ok (.iload_n 2, 1) := by decide +kernel
theorem dX1_chosenOf_12 : decode cX1_chosenOf 12 = .ok (.ishl, 1) := by decide +kernel
theorem dX1_chosenOf_13 : decode cX1_chosenOf 13 = .ok (.istore_n 3, 1) := by decide +kernel
theorem dX1_chosenOf_14 : decode cX1_chosenOf 14 = .ok (.iload_n 1, 1) := by decide +kernel
theorem dX1_chosenOf_15 : decode cX1_chosenOf 15 = .ok (.iload_n 3, 1) := by decide +kernel
theorem dX1_chosenOf_16 : decode cX1_chosenOf 16 = .ok (.iand, 1) := by decide +kernel
theorem dX1_chosenOf_17 : decode cX1_chosenOf 17 = .ok (.ifCond .eq 22, 3) := by decide +kernel
theorem dX1_chosenOf_20 : decode cX1_chosenOf 20 = .ok (.iload_n 1, 1) := by decide +kernel
theorem dX1_chosenOf_21 : decode cX1_chosenOf 21 = .ok (.iload_n 3, 1) := by decide +kernel
theorem dX1_chosenOf_22 : decode cX1_chosenOf 22 = .ok (.iconst (-1), 1) := by decide +kernel
theorem dX1_chosenOf_23 : decode cX1_chosenOf 23 = .ok (.ixor, 1) := by decide +kernel
theorem dX1_chosenOf_24 : decode cX1_chosenOf 24 = .ok (.iand, 1) := by decide +kernel
theorem dX1_chosenOf_25 : decode cX1_chosenOf 25 = .ok (.aload_n 0, 1) := by decide +kernel
theorem dX1_chosenOf_26 : decode cX1_chosenOf 26 = .ok (.getfield 28, 3) := by decide +kernel
theorem dX1_chosenOf_29 : decode cX1_chosenOf 29 = .ok (.iload_n 2, 1) := by decide +kernel
theorem dX1_chosenOf_30 : decode cX1_chosenOf 30 = .ok (.iaload, 1) := by decide +kernel
theorem dX1_chosenOf_31 : decode cX1_chosenOf 31 = .ok (.iconst (-1), 1) := by decide +kernel
theorem dX1_chosenOf_32 : decode cX1_chosenOf 32 = .ok (.ixor, 1) := by decide +kernel
theorem dX1_chosenOf_33 : decode cX1_chosenOf 33 = .ok (.iand, 1) := by decide +kernel
theorem dX1_chosenOf_34 : decode cX1_chosenOf 34 = .ok (.ifCond .ne 5, 3) := by decide +kernel
theorem dX1_chosenOf_37 : decode cX1_chosenOf 37 = .ok (.iload_n 2, 1) := by decide +kernel
theorem dX1_chosenOf_38 : decode cX1_chosenOf 38 = .ok (.ireturn, 1) := by decide +kernel
theorem dX1_chosenOf_39 : decode cX1_chosenOf 39 = .ok (.iinc 2 1, 3) := by decide +kernel
theorem dX1_chosenOf_42 : decode cX1_chosenOf 42 = .ok (.goto (-40), 3) := by decide +kernel
theorem dX1_chosenOf_45 : decode cX1_chosenOf 45 = .ok (.iconst (-1), 1) := by decide +kernel
theorem dX1_chosenOf_46 : decode cX1_chosenOf 46 = .ok (.ireturn, 1) := by decide +kernel
theorem dX1_lookForRow_0 : decode cX1_lookForRow 0 = .ok (.aload_n 1, 1) := by decide +kernel
theorem dX1_lookForRow_1 : decode cX1_lookForRow 1 = .ok (.getfield 84, 3) := by decide +kernel
theorem dX1_lookForRow_4 : decode cX1_lookForRow 4 = .ok (.iconst 0, 1) := by decide +kernel
theorem dX1_lookForRow_5 : decode cX1_lookForRow 5 = .ok (.iaload, 1) := by decide +kernel
theorem dX1_lookForRow_6 : decode cX1_lookForRow 6 = .ok (.istore_n 2, 1) := by decide +kernel
theorem dX1_lookForRow_7 : decode cX1_lookForRow 7 = .ok (.aload_n 0, 1) := by decide +kernel
theorem dX1_lookForRow_8 : decode cX1_lookForRow 8 = .ok (.iconst 0, 1) := by decide +kernel
theorem dX1_lookForRow_9 : decode cX1_lookForRow 9 = .ok (.aload_n 1, 1) := by decide +kernel
theorem dX1_lookForRow_10 : decode cX1_lookForRow 10 = .ok (.getfield 92, 3) := by decide +kernel
theorem dX1_lookForRow_13 : decode cX1_lookForRow 13 = .ok (.iconst 0, 1) := by decide +kernel
theorem dX1_lookForRow_14 : decode cX1_lookForRow 14 = .ok (.iaload, 1) := by decide +kernel
theorem dX1_lookForRow_15 : decode cX1_lookForRow 15 = .ok (.invokevirtual 109, 3) := by decide +kernel
theorem dX1_lookForRow_18 : decode cX1_lookForRow 18 = .ok (.lstore_n 3, 1) := by decide +kernel
theorem dX1_lookForRow_19 : decode cX1_lookForRow 19 = .ok (.aload_n 0, 1) := by decide +kernel
theorem dX1_lookForRow_20 : decode cX1_lookForRow 20 = .ok (.getfield 49, 3) := by decide +kernel
theorem dX1_lookForRow_23 : decode cX1_lookForRow 23 = .ok (.iconst 2, 1) := by decide +kernel
theorem dX1_lookForRow_24 : decode cX1_lookForRow 24 = .ok (.if_icmp .ge 16, 3) := by decide +kernel
theorem dX1_lookForRow_27 : decode cX1_lookForRow 27 = .ok (.aload_n 0, 1) := by decide +kernel
theorem dX1_lookForRow_28 : decode cX1_lookForRow 28 = .ok (.getfield 12, 3) := by decide +kernel
theorem dX1_lookForRow_31 : decode cX1_lookForRow 31 = .ok (.iload_n 2, 1) := by decide +kernel
theorem dX1_lookForRow_32 : decode cX1_lookForRow 32 = .ok (.lload_n 3, 1) := by decide +kernel
theorem dX1_lookForRow_33 : decode cX1_lookForRow 33 = .ok (.lconst 0, 1) := by decide +kernel
theorem dX1_lookForRow_34 : decode cX1_lookForRow 34 = .ok (.invokevirtual 113, 3) := by decide +kernel
theorem dX1_lookForRow_37 : decode cX1_lookForRow 37 = .ok (.goto 33, 3) := by decide +kernel
theorem dX1_lookForRow_40 : decode cX1_lookForRow 40 = .ok (.aload_n 0, 1) := by decide +kernel
theorem dX1_lookForRow_41 : decode cX1_lookForRow 41 = .ok (.getfield 12, 3) := by decide +kernel
theorem dX1_lookForRow_44 : decode cX1_lookForRow 44 = .ok (.iload_n 2, 1) := by decide +kernel
theorem dX1_lookForRow_45 : decode cX1_lookForRow 45 = .ok (.bipush 12, 2) := by decide +kernel
theorem dX1_lookForRow_47 : decode cX1_lookForRow 47 = .ok (.imul, 1) := by decide +kernel
theorem dX1_lookForRow_48 : decode cX1_lookForRow 48 = .ok (.aload_n 1, 1) := by decide +kernel
theorem dX1_lookForRow_49 : decode cX1_lookForRow 49 = .ok (.getfield 84, 3) := by decide +kernel
theorem dX1_lookForRow_52 : decode cX1_lookForRow 52 = .ok (.iconst 1, 1) := by decide +kernel
theorem dX1_lookForRow_53 : decode cX1_lookForRow 53 = .ok (.iaload, 1) := by decide +kernel
theorem dX1_lookForRow_54 : decode cX1_lookForRow 54 = .ok (.iadd, 1) := by decide +kernel
theorem dX1_lookForRow_55 : decode cX1_lookForRow 55 = .ok (.lload_n 3, 1) := by decide +kernel
theorem dX1_lookForRow_56 : decode cX1_lookForRow 56 = .ok (.aload_n 0, 1) := by decide +kernel
theorem dX1_lookForRow_57 : decode cX1_lookForRow 57 = .ok (.iconst 1, 1) := by decide +kernel
theorem dX1_lookForRow_58 : decode cX1_lookForRow 58 = .ok (.aload_n 1, 1) := by decide +kernel
theorem dX1_lookForRow_59 : decode cX1_lookForRow 59 = .ok (.getfield 92, 3) := by decide +kernel
theorem dX1_lookForRow_62 : decode cX1_lookForRow 62 = .ok (.iconst 1, 1) := by decide +kernel
theorem dX1_lookForRow_63 : decode cX1_lookForRow 63 = .ok (.iaload, 1) := by decide +kernel
theorem dX1_lookForRow_64 : decode cX1_lookForRow 64 = .ok (.invokevirtual 109, 3) := by decide +kernel
theorem dX1_lookForRow_67 : decode cX1_lookForRow 67 = .ok (.invokevirtual 113, 3) := by decide +kernel
theorem dX1_lookForRow_70 : decode cX1_lookForRow 70 = .ok (.return_, 1) := by decide +kernel
theorem dX1_pieceOf_0 : decode cX1_pieceOf 0 = .ok (.ldc2_w 117, 3) := by decide +kernel
theorem dX1_pieceOf_3 : decode cX1_pieceOf 3 = .ok (.lstore_n 3, 1) := by decide +kernel
theorem dX1_pieceOf_4 : decode cX1_pieceOf 4 = .ok (.iconst 0, 1) := by decide +kernel
theorem dX1_pieceOf_5 : decode cX1_pieceOf 5 = .ok (.istore 5, 2) := by decide +kernel
theorem dX1_pieceOf_7 : decode cX1_pieceOf 7 = .ok (.iload 5, 2) := by decide +kernel
theorem dX1_pieceOf_9 : decode cX1_pieceOf 9 = .ok (.aload_n 0, 1) := by decide +kernel
theorem dX1_pieceOf_10 : decode cX1_pieceOf 10 = .ok (.getfield 31, 3) := by decide +kernel
theorem dX1_pieceOf_13 : decode cX1_pieceOf 13 = .ok (.if_icmp .ge 71, 3) := by decide +kernel
theorem dX1_pieceOf_16 : decode cX1_pieceOf 16 = .ok (.aload_n 0, 1) := by decide +kernel
theorem dX1_pieceOf_17 : decode cX1_pieceOf 17 = .ok (.getfield 24, 3) := by decide +kernel
theorem dX1_pieceOf_20 : decode cX1_pieceOf 20 = .ok (.iload 5, 2) := by decide +kernel
theorem dX1_pieceOf_22 : decode cX1_pieceOf 22 = .ok (.aaload, 1) := by decide +kernel
theorem dX1_pieceOf_23 : decode cX1_pieceOf 23 = .ok (.getfield 119, 3) := by decide +kernel
theorem dX1_pieceOf_26 : decode cX1_pieceOf 26 = .ok (.iload_n 1, 1) := by decide +kernel
theorem dX1_pieceOf_27 : decode cX1_pieceOf 27 = .ok (.iaload, 1) := by decide +kernel
theorem dX1_pieceOf_28 : decode cX1_pieceOf 28 = .ok (.i2l, 1) := by decide +kernel
theorem dX1_pieceOf_29 : decode cX1_pieceOf 29 = .ok (.lstore 6, 2) := by decide +kernel
theorem dX1_pieceOf_31 : decode cX1_pieceOf 31 = .ok (.aload_n 0, 1) := by decide +kernel
theorem dX1_pieceOf_32 : decode cX1_pieceOf 32 = .ok (.getfield 24, 3) := by decide +kernel
theorem dX1_pieceOf_35 : decode cX1_pieceOf 35 = .ok (.iload 5, 2) := by decide +kernel
theorem dX1_pieceOf_37 : decode cX1_pieceOf 37 = .ok (.aaload, 1) := by decide +kernel
theorem dX1_pieceOf_38 : decode cX1_pieceOf 38 = .ok (.getfield 122, 3) := by decide +kernel
theorem dX1_pieceOf_41 : decode cX1_pieceOf 41 = .ok (.iload_n 1, 1) := by decide +kernel
theorem dX1_pieceOf_42 : decode cX1_pieceOf 42 = .ok (.iaload, 1) := by decide +kernel
theorem dX1_pieceOf_43 : decode cX1_pieceOf 43 = .ok (.i2l, 1) := by decide +kernel
theorem dX1_pieceOf_44 : decode cX1_pieceOf 44 = .ok (.lconst 1, 1) := by decide +kernel
theorem dX1_pieceOf_45 : decode cX1_pieceOf 45 = .ok (.ladd, 1) := by decide +kernel
theorem dX1_pieceOf_46 : decode cX1_pieceOf 46 = .ok (.lstore 8, 2) := by decide +kernel
theorem dX1_pieceOf_48 : decode cX1_pieceOf 48 = .ok (.lload 6, 2) := by decide +kernel
theorem dX1_pieceOf_50 : decode cX1_pieceOf 50 = .ok (.iload_n 2, 1) := by decide +kernel
theorem dX1_pieceOf_51 : decode cX1_pieceOf 51 = .ok (.i2l, 1) := by decide +kernel
theorem dX1_pieceOf_52 : decode cX1_pieceOf 52 = .ok (.lcmp, 1) := by decide +kernel
theorem dX1_pieceOf_53 : decode cX1_pieceOf 53 = .ok (.ifCond .le 10, 3) := by decide +kernel
theorem dX1_pieceOf_56 : decode cX1_pieceOf 56 = .ok (.lload_n 3, 1) := by decide +kernel
theorem dX1_pieceOf_57 : decode cX1_pieceOf 57 = .ok (.lload 6, 2) := by decide +kernel
theorem dX1_pieceOf_59 : decode cX1_pieceOf 59 = .ok (.invokestatic 125, 3) := by decide +kernel
theorem dX1_pieceOf_62 : decode cX1_pieceOf 62 = .ok (.lstore_n 3, 1) := by decide +kernel
theorem dX1_pieceOf_63 : decode cX1_pieceOf 63 = .ok (.lload 8, 2) := by decide +kernel
theorem dX1_pieceOf_65 : decode cX1_pieceOf 65 = .ok (.iload_n 2, 1) := by decide +kernel
theorem dX1_pieceOf_66 : decode cX1_pieceOf 66 = .ok (.i2l, 1) := by decide +kernel
theorem dX1_pieceOf_67 : decode cX1_pieceOf 67 = .ok (.lcmp, 1) := by decide +kernel
theorem dX1_pieceOf_68 : decode cX1_pieceOf 68 = .ok (.ifCond .le 10, 3) := by decide +kernel
theorem dX1_pieceOf_71 : decode cX1_pieceOf 71 = .ok (.lload_n 3, 1) := by decide +kernel
theorem dX1_pieceOf_72 : decode cX1_pieceOf 72 = .ok (.lload 8, 2) := by decide +kernel
theorem dX1_pieceOf_74 : decode cX1_pieceOf 74 = .ok (.invokestatic 125, 3) := by decide +kernel
theorem dX1_pieceOf_77 : decode cX1_pieceOf 77 = .ok (.lstore_n 3, 1) := by decide +kernel
theorem dX1_pieceOf_78 : decode cX1_pieceOf 78 = .ok (.iinc 5 1, 3) := by decide +kernel
theorem dX1_pieceOf_81 : decode cX1_pieceOf 81 = .ok (.goto (-74), 3) := by decide +kernel
theorem dX1_pieceOf_84 : decode cX1_pieceOf 84 = .ok (.lload_n 3, 1) := by decide +kernel
theorem dX1_pieceOf_85 : decode cX1_pieceOf 85 = .ok (.lreturn, 1) := by decide +kernel
theorem dX2_init_0 : decode cX2_init 0 = .ok (.aload_n 0, 1) := by decide +kernel
theorem dX2_init_1 : decode cX2_init 1 = .ok (.invokespecial 3, 3) := by decide +kernel
theorem dX2_init_4 : decode cX2_init 4 = .ok (.aload_n 0, 1) := by decide +kernel
theorem dX2_init_5 : decode cX2_init 5 = .ok (.iconst 0, 1) := by decide +kernel
theorem dX2_init_6 : decode cX2_init 6 = .ok (.putfield 9, 3) := by decide +kernel
theorem dX2_init_9 : decode cX2_init 9 = .ok (.aload_n 0, 1) := by decide +kernel
theorem dX2_init_10 : decode cX2_init 10 = .ok (.aload_n 1, 1) := by decide +kernel
theorem dX2_init_11 : decode cX2_init 11 = .ok (.putfield 15, 3) := by decide +kernel
theorem dX2_init_14 : decode cX2_init 14 = .ok (.aload_n 0, 1) := by decide +kernel
theorem dX2_init_15 : decode cX2_init 15 = .ok (.iload_n 2, 1) := by decide +kernel
theorem dX2_init_16 : decode cX2_init 16 = .ok (.putfield 19, 3) := by decide +kernel
theorem dX2_init_19 : decode cX2_init 19 = .ok (.aload_n 0, 1) := by decide +kernel
theorem dX2_init_20 : decode cX2_init 20 = .ok (.iload_n 3, 1) := by decide +kernel
theorem dX2_init_21 : decode cX2_init 21 = .ok (.putfield 22, 3) := by decide +kernel
theorem dX2_init_24 : decode cX2_init 24 = .ok (.aload_n 0, 1) := by decide +kernel
theorem dX2_init_25 : decode cX2_init 25 = .ok (.iload 4, 2) := by decide +kernel
theorem dX2_init_27 : decode cX2_init 27 = .ok (.putfield 25, 3) := by decide +kernel
theorem dX2_init_30 : decode cX2_init 30 = .ok (.aload_n 0, 1) := by decide +kernel
theorem dX2_init_31 : decode cX2_init 31 = .ok (.iload 5, 2) := by decide +kernel
theorem dX2_init_33 : decode cX2_init 33 = .ok (.putfield 28, 3) := by decide +kernel
theorem dX2_init_36 : decode cX2_init 36 = .ok (.aload_n 0, 1) := by decide +kernel
theorem dX2_init_37 : decode cX2_init 37 = .ok (.aload_n 1, 1) := by decide +kernel
theorem dX2_init_38 : decode cX2_init 38 = .ok (.getfield 32, 3) := by decide +kernel
theorem dX2_init_41 : decode cX2_init 41 = .ok (.newarray .int, 2) := by decide +kernel
theorem dX2_init_43 : decode cX2_init 43 = .ok (.putfield 37, 3) := by decide +kernel
theorem dX2_init_46 : decode cX2_init 46 = .ok (.aload_n 0, 1) := by decide +kernel
theorem dX2_init_47 : decode cX2_init 47 = .ok (.aload_n 1, 1) := by decide +kernel
theorem dX2_init_48 : decode cX2_init 48 = .ok (.getfield 32, 3) := by decide +kernel
theorem dX2_init_51 : decode cX2_init 51 = .ok (.newarray .int, 2) := by decide +kernel
theorem dX2_init_53 : decode cX2_init 53 = .ok (.putfield 41, 3) := by decide +kernel
theorem dX2_init_56 : decode cX2_init 56 = .ok (.aload_n 0, 1) := by decide +kernel
theorem dX2_init_57 : decode cX2_init 57 = .ok (.aload_n 1, 1) := by decide +kernel
theorem dX2_init_58 : decode cX2_init 58 = .ok (.getfield 32, 3) := by decide +kernel
theorem dX2_init_61 : decode cX2_init 61 = .ok (.newarray .int, 2) := by decide +kernel
theorem dX2_init_63 : decode cX2_init 63 = .ok (.putfield 44, 3) := by decide +kernel
theorem dX2_init_66 : decode cX2_init 66 = .ok (.aload_n 0, 1) := by decide +kernel
theorem dX2_init_67 : decode cX2_init 67 = .ok (.getfield 37, 3) := by decide +kernel
theorem dX2_init_70 : decode cX2_init 70 = .ok (.iconst (-1), 1) := by decide +kernel
theorem dX2_init_71 : decode cX2_init 71 = .ok (.invokestatic 47, 3) := by decide +kernel
theorem dX2_init_74 : decode cX2_init 74 = .ok (.aload_n 0, 1) := by decide +kernel
theorem dX2_init_75 : decode cX2_init 75 = .ok (.getfield 41, 3) := by decide +kernel
theorem dX2_init_78 : decode cX2_init 78 = .ok (.ldc 55, 2) := by decide +kernel
theorem dX2_init_80 : decode cX2_init 80 = .ok (.invokestatic 47, 3) := by decide +kernel
theorem dX2_init_83 : decode cX2_init 83 = .ok (.aload_n 0, 1) := by decide +kernel
theorem dX2_init_84 : decode cX2_init 84 = .ok (.getfield 44, 3) := by decide +kernel
theorem dX2_init_87 : decode cX2_init 87 = .ok (.ldc 56, 2) := by decide +kernel
theorem dX2_init_89 : decode cX2_init 89 = .ok (.invokestatic 47, 3) := by decide +kernel
theorem dX2_init_92 : decode cX2_init 92 = .ok (.return_, 1) := by decide +kernel
theorem dX2_takesClass_0 : decode cX2_takesClass 0 = .ok (.aload_n 0, 1) := by decide +kernel
theorem dX2_takesClass_1 : decode cX2_takesClass 1 = .ok (.getfield 37, 3) := by decide +kernel
theorem dX2_takesClass_4 : decode cX2_takesClass 4 = .ok (.iload_n 1, 1) := by decide +kernel
theorem dX2_takesClass_5 : decode cX2_takesClass 5 = .ok (.iaload, 1) := by decide +kernel
theorem dX2_takesClass_6 : decode cX2_takesClass 6 = .ok (.iconst (-1), 1) := by decide +kernel
theorem dX2_takesClass_7 : decode cX2_takesClass 7 = .ok (.if_icmp .eq 23, 3) := by decide +kernel
theorem dX2_takesClass_10 : decode cX2_takesClass 10 = .ok (.aload_n 0, 1) := by decide +kernel
theorem dX2_takesClass_11 : decode cX2_takesClass 11 = .ok (.getfield 15, 3) := by decide +kernel
theorem dX2_takesClass_14 : decode cX2_takesClass 14 = .ok (.getfield 57, 3) := by decide +kernel
theorem dX2_takesClass_17 : decode cX2_takesClass 17 = .ok (.iload_n 2, 1) := by decide +kernel
theorem dX2_takesClass_18 : decode cX2_takesClass 18 = .ok (.aload_n 0, 1) := by decide +kernel
theorem dX2_takesClass_19 : decode cX2_takesClass 19 = .ok (.getfield 37, 3) := by decide +kernel
theorem dX2_takesClass_22 : decode cX2_takesClass 22 = .ok (.iload_n 1, 1) := by decide +kernel
theorem dX2_takesClass_23 : decode cX2_takesClass 23 = .ok (.iaload, 1) := by decide +kernel
theorem dX2_takesClass_24 : decode cX2_takesClass 24 = .ok (.invokevirtual 61, 3) := by decide +kernel
theorem dX2_takesClass_27 : decode cX2_takesClass 27 = .ok (.ifCond .eq 7, 3) := by decide +kernel
theorem dX2_takesClass_30 : decode cX2_takesClass 30 = .ok (.iconst 1, 1) := by decide +kernel
theorem dX2_takesClass_31 : decode cX2_takesClass 31 = .ok (.goto 4, 3) := by decide +kernel
theorem dX2_takesClass_34 : decode cX2_takesClass 34 = .ok (.iconst 0, 1) := by decide +kernel
theorem dX2_takesClass_35 : decode cX2_takesClass 35 = .ok (.ireturn, 1) := by decide +kernel
theorem dX2_takesWeight_0 : decode cX2_takesWeight 0 = .ok (.aload_n 0, 1) := by decide +kernel
theorem dX2_takesWeight_1 : decode cX2_takesWeight 1 = .ok (.getfield 41, 3) := by decide +kernel
theorem dX2_takesWeight_4 : decode cX2_takesWeight 4 = .ok (.iload_n 1, 1) := by decide +kernel
theorem dX2_takesWeight_5 : decode cX2_takesWeight 5 = .ok (.iaload, 1) := by decide +kernel
theorem dX2_takesWeight_6 : decode cX2_takesWeight 6 = .ok (.iload_n 2, 1) := by decide +kernel
theorem dX2_takesWeight_7 : decode cX2_takesWeight 7 = .ok (.if_icmp .gt 17, 3) := by decide +kernel
theorem dX2_takesWeight_10 : decode cX2_takesWeight 10 = .ok (.iload_n 2, 1) := by decide +kernel
theorem dX2_takesWeight_11 : decode cX2_takesWeight 11 = .ok (.aload_n 0, 1) := by decide +kernel
theorem dX2_takesWeight_12 : decode cX2_takesWeight 12 = .ok (.getfield 44, 3) := by decide +kernel
theorem dX2_takesWeight_15 : decode cX2_takesWeight 15 = .ok (.iload_n 1, 1) := by decide +kernel
theorem dX2_takesWeight_16 : decode cX2_takesWeight 16 = .ok (.iaload, 1) := by decide +kernel
theorem dX2_takesWeight_17 : decode cX2_takesWeight 17 = .ok (.if_icmp .gt 7, 3) := by decide +kernel
theorem dX2_takesWeight_20 : decode cX2_takesWeight 20 = .ok (.iconst 1, 1) := by decide +kernel
theorem dX2_takesWeight_21 : decode cX2_takesWeight 21 = .ok (.goto 4, 3) := by decide +kernel
theorem dX2_takesWeight_24 : decode cX2_takesWeight 24 = .ok (.iconst 0, 1) := by decide +kernel
theorem dX2_takesWeight_25 : decode cX2_takesWeight 25 = .ok (.ireturn, 1) := by decide +kernel
theorem dX2_firstRefusingPlace_0 : decode cX2_firstRefusingPlace 0 = .ok (.iconst 0, 1) := by decide +kernel
theorem dX2_firstRefusingPlace_1 : decode cX2_firstRefusingPlace 1 = .ok (.istore_n 2, 1) := by decide +kernel
theorem dX2_firstRefusingPlace_2 : decode cX2_firstRefusingPlace 2 = .ok (.iload_n 2, 1) := by decide +kernel
theorem dX2_firstRefusingPlace_3 : decode cX2_firstRefusingPlace 3 = .ok (.aload_n 0, 1) := by decide +kernel
theorem dX2_firstRefusingPlace_4 : decode cX2_firstRefusingPlace 4 = .ok (.getfield 15, 3) := by decide +kernel
theorem dX2_firstRefusingPlace_7 : decode cX2_firstRefusingPlace 7 = .ok (.getfield 32, 3) := by decide +kernel
theorem dX2_firstRefusingPlace_10 : decode cX2_firstRefusingPlace 10 = .ok (.if_icmp .ge 39, 3) := by decide +kernel
theorem dX2_firstRefusingPlace_13 : decode cX2_firstRefusingPlace 13 = .ok (.aload_n 0, 1) := by decide +kernel
theorem dX2_firstRefusingPlace_14 : decode cX2_firstRefusingPlace 14 = .ok (.iload_n 2, 1) := by decide +kernel
theorem dX2_firstRefusingPlace_15 : decode cX2_firstRefusingPlace 15 = .ok (.aload_n 1, 1) := by decide +kernel
theorem dX2_firstRefusingPlace_16 : decode cX2_firstRefusingPlace 16 = .ok (.getfield 67, 3) := by decide +kernel
theorem dX2_firstRefusingPlace_19 : decode cX2_firstRefusingPlace 19 = .ok (.iload_n 2, 1) := by decide +kernel
theorem dX2_firstRefusingPlace_20 : decode cX2_firstRefusingPlace 20 = .ok (.iaload, 1) := by decide +kernel
theorem dX2_firstRefusingPlace_21 : decode cX2_firstRefusingPlace 21 = .ok (.invokevirtual 72, 3) := by decide +kernel
theorem dX2_firstRefusingPlace_24 : decode cX2_firstRefusingPlace 24 = .ok (.ifCond .eq 17, 3) := by decide +kernel
theorem dX2_firstRefusingPlace_27 : decode cX2_firstRefusingPlace 27 = .ok (.aload_n 0, 1) := by decide +kernel
theorem dX2_firstRefusingPlace_28 : decode cX2_firstRefusingPlace 28 = .ok (.iload_n 2, 1) := by decide +kernel
theorem dX2_firstRefusingPlace_29 : decode cX2_firstRefusingPlace 29 = .ok (.aload_n 1, 1) := by decide +kernel
theorem dX2_firstRefusingPlace_30 : decode cX2_firstRefusingPlace 30 = .ok (.getfield 75, 3) := by decide +kernel
theorem dX2_firstRefusingPlace_33 : decode cX2_firstRefusingPlace 33 = .ok (.iload_n 2, 1) := by decide +kernel
theorem dX2_firstRefusingPlace_34 : decode cX2_firstRefusingPlace 34 = .ok (.iaload, 1) := by decide +kernel
theorem dX2_firstRefusingPlace_35 : decode cX2_firstRefusingPlace 35 = .ok (.invokevirtual 78, 3) := by decide +kernel
theorem dX2_firstRefusingPlace_38 : decode cX2_firstRefusingPlace 38 = .ok (.ifCond .ne 5, 3) := by decide +kernel
theorem dX2_firstRefusingPlace_41 : decode cX2_firstRefusingPlace 41 = .ok (.iload_n 2, 1) := by decide +kernel
theorem dX2_firstRefusingPlace_42 : decode cX2_firstRefusingPlace 42 = .ok (.ireturn, 1) := by decide +kernel
theorem dX2_firstRefusingPlace_43 : decode cX2_firstRefusingPlace 43 = .ok (.iinc 2 1, 3) := by decide +kernel
theorem dX2_firstRefusingPlace_46 : decode cX2_firstRefusingPlace 46 = .ok (.goto (-44), 3) := by decide +kernel
theorem dX2_firstRefusingPlace_49 : decode cX2_firstRefusingPlace 49 = .ok (.iconst (-1), 1) := by decide +kernel
theorem dX2_firstRefusingPlace_50 : decode cX2_firstRefusingPlace 50 = .ok (.ireturn, 1) := by decide +kernel
theorem dX2_isSameAt_0 : decode cX2_isSameAt 0 = .ok (.aload_n 0, 1) := by decide +kernel
theorem dX2_isSameAt_1 : decode cX2_isSameAt 1 = .ok (.getfield 37, 3) := by decide +kernel
theorem dX2_isSameAt_4 : decode cX2_isSameAt 4 = .ok (.iload_n 1, 1) := by decide +kernel
theorem dX2_isSameAt_5 : decode cX2_isSameAt 5 = .ok (.iaload, 1) := by decide +kernel
theorem dX2_isSameAt_6 : decode cX2_isSameAt 6 = .ok (.aload_n 2, 1) := by decide +kernel
theorem dX2_isSameAt_7 : decode cX2_isSameAt 7 = .ok (.getfield 37, 3) := by decide +kernel
theorem dX2_isSameAt_10 : decode cX2_isSameAt 10 = .ok (.iload_n 1, 1) := by decide +kernel
theorem dX2_isSameAt_11 : decode cX2_isSameAt 11 = .ok (.iaload, 1) := by decide +kernel
theorem dX2_isSameAt_12 : decode cX2_isSameAt 12 = .ok (.if_icmp .ne 37, 3) := by decide +kernel
theorem dX2_isSameAt_15 : decode cX2_isSameAt 15 = .ok (.aload_n 0, 1) := by decide +kernel
theorem dX2_isSameAt_16 : decode cX2_isSameAt 16 = .ok (.getfield 41, 3) := by decide +kernel
theorem dX2_isSameAt_19 : decode cX2_isSameAt 19 = .ok (.iload_n 1, 1) := by decide +kernel
theorem dX2_isSameAt_20 : decode cX2_isSameAt 20 = .ok (.iaload, 1) := by decide +kernel
theorem dX2_isSameAt_21 : decode cX2_isSameAt 21 = .ok (.aload_n 2, 1) := by decide +kernel
theorem dX2_isSameAt_22 : decode cX2_isSameAt 22 = .ok (.getfield 41, 3) := by decide +kernel
theorem dX2_isSameAt_25 : decode cX2_isSameAt 25 = .ok (.iload_n 1, 1) := by decide +kernel
theorem dX2_isSameAt_26 : decode cX2_isSameAt 26 = .ok (.iaload, 1) := by decide +kernel
theorem dX2_isSameAt_27 : decode cX2_isSameAt 27 = .ok (.if_icmp .ne 22, 3) := by decide +kernel
theorem dX2_isSameAt_30 : decode cX2_isSameAt 30 = .ok (.aload_n 0, 1) := by decide +kernel
theorem dX2_isSameAt_31 : decode cX2_isSameAt 31 = .ok (.getfield 44, 3) := by decide +kernel
theorem dX2_isSameAt_34 : decode cX2_isSameAt 34 = .ok (.iload_n 1, 1) := by decide +kernel
theorem dX2_isSameAt_35 : decode cX2_isSameAt 35 = .ok (.iaload, 1) := by decide +kernel
theorem dX2_isSameAt_36 : decode cX2_isSameAt 36 = .ok (.aload_n 2, 1) := by decide +kernel
theorem dX2_isSameAt_37 : decode cX2_isSameAt 37 = .ok (.getfield 44, 3) := by decide +kernel
theorem dX2_isSameAt_40 : decode cX2_isSameAt 40 = .ok (.iload_n 1, 1) := by decide +kernel
theorem dX2_isSameAt_41 : decode cX2_isSameAt 41 = .ok (.iaload, 1) := by decide +kernel
theorem dX2_isSameAt_42 : decode cX2_isSameAt 42 = .ok (.if_icmp .ne 7, 3) := by decide +kernel
theorem dX2_isSameAt_45 : decode cX2_isSameAt 45 = .ok (.iconst 1, 1) := by decide +kernel
theorem dX2_isSameAt_46 : decode cX2_isSameAt 46 = .ok (.goto 4, 3) := by decide +kernel
theorem dX2_isSameAt_49 : decode cX2_isSameAt 49 = .ok (.iconst 0, 1) := by decide +kernel
theorem dX2_isSameAt_50 : decode cX2_isSameAt 50 = .ok (.ireturn, 1) := by decide +kernel
theorem dX2_isNarrowerAt_0 : decode cX2_isNarrowerAt 0 = .ok (.aload_n 0, 1) := by decide +kernel
theorem dX2_isNarrowerAt_1 : decode cX2_isNarrowerAt 1 = .ok (.getfield 37, 3) := by decide +kernel
theorem dX2_isNarrowerAt_4 : decode cX2_isNarrowerAt 4 = .ok (.iload_n 1, 1) := by decide +kernel
theorem dX2_isNarrowerAt_5 : decode cX2_isNarrowerAt 5 = .ok (.iaload, 1) := by decide +kernel
theorem dX2_isNarrowerAt_6 : decode cX2_isNarrowerAt 6 = .ok (.aload_n 2, 1) := by decide +kernel
theorem dX2_isNarrowerAt_7 : decode cX2_isNarrowerAt 7 = .ok (.getfield 37, 3) := by decide +kernel
theorem dX2_isNarrowerAt_10 : decode cX2_isNarrowerAt 10 = .ok (.iload_n 1, 1) := by decide +kernel
theorem dX2_isNarrowerAt_11 : decode cX2_isNarrowerAt 11 = .ok (.iaload, 1) := by decide +kernel
theorem dX2_isNarrowerAt_12 : decode cX2_isNarrowerAt 12 = .ok (.if_icmp .eq 54, 3) := by decide +kernel
theorem dX2_isNarrowerAt_15 : decode cX2_isNarrowerAt 15 = .ok (.aload_n 0, 1) := by decide +kernel
theorem dX2_isNarrowerAt_16 : decode cX2_isNarrowerAt 16 = .ok (.getfield 37, 3) := by decide +kernel
theorem dX2_isNarrowerAt_19 : decode cX2_isNarrowerAt 19 = .ok (.iload_n 1, 1) := by decide +kernel
theorem dX2_isNarrowerAt_20 : decode cX2_isNarrowerAt 20 = .ok (.iaload, 1) := by decide +kernel
theorem dX2_isNarrowerAt_21 : decode cX2_isNarrowerAt 21 = .ok (.iconst (-1), 1) := by decide +kernel
theorem dX2_isNarrowerAt_22 : decode cX2_isNarrowerAt 22 = .ok (.if_icmp .eq 42, 3) := by decide +kernel
theorem dX2_isNarrowerAt_25 : decode cX2_isNarrowerAt 25 = .ok (.aload_n 2, 1) := by decide +kernel
theorem dX2_isNarrowerAt_26 : decode cX2_isNarrowerAt 26 = .ok (.getfield 37, 3) := by decide +kernel
theorem dX2_isNarrowerAt_29 : decode cX2_isNarrowerAt 29 = .ok (.iload_n 1, 1) := by decide +kernel
theorem dX2_isNarrowerAt_30 : decode cX2_isNarrowerAt 30 = .ok (.iaload, 1) := by decide +kernel
theorem dX2_isNarrowerAt_31 : decode cX2_isNarrowerAt 31 = .ok (.iconst (-1), 1) := by decide +kernel
theorem dX2_isNarrowerAt_32 : decode cX2_isNarrowerAt 32 = .ok (.if_icmp .eq 28, 3) := by decide +kernel
theorem dX2_isNarrowerAt_35 : decode cX2_isNarrowerAt 35 = .ok (.aload_n 0, 1) := by decide +kernel
theorem dX2_isNarrowerAt_36 : decode cX2_isNarrowerAt 36 = .ok (.getfield 15, 3) := by decide +kernel
theorem dX2_isNarrowerAt_39 : decode cX2_isNarrowerAt 39 = .ok (.getfield 57, 3) := by decide +kernel
theorem dX2_isNarrowerAt_42 : decode cX2_isNarrowerAt 42 = .ok (.aload_n 0, 1) := by decide +kernel
theorem dX2_isNarrowerAt_43 : decode cX2_isNarrowerAt 43 = .ok (.getfield 37, 3) := by decide +kernel
theorem dX2_isNarrowerAt_46 : decode cX2_isNarrowerAt 46 = .ok (.iload_n 1, 1) := by decide +kernel
theorem dX2_isNarrowerAt_47 : decode cX2_isNarrowerAt 47 = .ok (.iaload, 1) := by decide +kernel
theorem dX2_isNarrowerAt_48 : decode cX2_isNarrowerAt 48 = .ok (.aload_n 2, 1) := by decide +kernel
theorem dX2_isNarrowerAt_49 : decode cX2_isNarrowerAt 49 = .ok (.getfield 37, 3) := by decide +kernel
theorem dX2_isNarrowerAt_52 : decode cX2_isNarrowerAt 52 = .ok (.iload_n 1, 1) := by decide +kernel
theorem dX2_isNarrowerAt_53 : decode cX2_isNarrowerAt 53 = .ok (.iaload, 1) := by decide +kernel
theorem dX2_isNarrowerAt_54 : decode cX2_isNarrowerAt 54 = .ok (.invokevirtual 61, 3) := by decide +kernel
theorem dX2_isNarrowerAt_57 : decode cX2_isNarrowerAt 57 = .ok (.ifCond .eq 7, 3) := by decide +kernel
theorem dX2_isNarrowerAt_60 : decode cX2_isNarrowerAt 60 = .ok (.iconst 1, 1) := by decide +kernel
theorem dX2_isNarrowerAt_61 : decode cX2_isNarrowerAt 61 = .ok (.goto 4, 3) := by decide +kernel
theorem dX2_isNarrowerAt_64 : decode cX2_isNarrowerAt 64 = .ok (.iconst 0, 1) := by decide +kernel
theorem dX2_isNarrowerAt_65 : decode cX2_isNarrowerAt 65 = .ok (.ireturn, 1) := by decide +kernel
theorem dX2_isNarrowerAt_66 : decode cX2_isNarrowerAt 66 = .ok (.aload_n 2, 1) := by decide +kernel
theorem dX2_isNarrowerAt_67 : decode cX2_isNarrowerAt 67 = .ok (.getfield 41, 3) := by decide +kernel
theorem dX2_isNarrowerAt_70 : decode cX2_isNarrowerAt 70 = .ok (.iload_n 1, 1) := by decide +kernel
theorem dX2_isNarrowerAt_71 : decode cX2_isNarrowerAt 71 = .ok (.iaload, 1) := by decide +kernel
theorem dX2_isNarrowerAt_72 : decode cX2_isNarrowerAt 72 = .ok (.aload_n 0, 1) := by decide +kernel
theorem dX2_isNarrowerAt_73 : decode cX2_isNarrowerAt 73 = .ok (.getfield 41, 3) := by decide +kernel
theorem dX2_isNarrowerAt_76 : decode cX2_isNarrowerAt 76 = .ok (.iload_n 1, 1) := by decide +kernel
theorem dX2_isNarrowerAt_77 : decode cX2_isNarrowerAt 77 = .ok (.iaload, 1) := by decide +kernel
theorem dX2_isNarrowerAt_78 : decode cX2_isNarrowerAt 78 = .ok (.if_icmp .gt 31, 3) := by decide +kernel
theorem dX2_isNarrowerAt_81 : decode cX2_isNarrowerAt 81 = .ok (.aload_n 0, 1) := by decide +kernel
theorem dX2_isNarrowerAt_82 : decode cX2_isNarrowerAt 82 = .ok (.getfield 44, 3) := by decide +kernel
theorem dX2_isNarrowerAt_85 : decode cX2_isNarrowerAt 85 = .ok (.iload_n 1, 1) := by decide +kernel
theorem dX2_isNarrowerAt_86 : decode cX2_isNarrowerAt 86 = .ok (.iaload, 1) := by decide +kernel
theorem dX2_isNarrowerAt_87 : decode cX2_isNarrowerAt 87 = .ok (.aload_n 2, 1) := by decide +kernel
theorem dX2_isNarrowerAt_88 : decode cX2_isNarrowerAt 88 = .ok (.getfield 44, 3) := by decide +kernel
theorem dX2_isNarrowerAt_91 : decode cX2_isNarrowerAt 91 = .ok (.iload_n 1, 1) := by decide +kernel
theorem dX2_isNarrowerAt_92 : decode cX2_isNarrowerAt 92 = .ok (.iaload, 1) := by decide +kernel
theorem dX2_isNarrowerAt_93 : decode cX2_isNarrowerAt 93 = .ok (.if_icmp .gt 16, 3) := by decide +kernel
theorem dX2_isNarrowerAt_96 : decode cX2_isNarrowerAt 96 = .ok (.aload_n 0, 1) := by decide +kernel
theorem dX2_isNarrowerAt_97 : decode cX2_isNarrowerAt 97 = .ok (.iload_n 1, 1) := by decide +kernel
theorem dX2_isNarrowerAt_98 : decode cX2_isNarrowerAt 98 = .ok (.aload_n 2, 1) := by decide +kernel
theorem dX2_isNarrowerAt_99 : decode cX2_isNarrowerAt 99 = .ok (.invokevirtual 81, 3) := by decide +kernel
theorem dX2_isNarrowerAt_102 : decode cX2_isNarrowerAt 102 = .ok (.ifCond .ne 7, 3) := by decide +kernel
theorem dX2_isNarrowerAt_105 : decode cX2_isNarrowerAt 105 = .ok (.iconst 1, 1) := by decide +kernel
theorem dX2_isNarrowerAt_106 : decode cX2_isNarrowerAt 106 = .ok (.goto 4, 3) := by decide +kernel
theorem dX2_isNarrowerAt_109 : decode cX2_isNarrowerAt 109 = .ok (.iconst 0, 1) := by decide +kernel
theorem dX2_isNarrowerAt_110 : decode cX2_isNarrowerAt 110 = .ok (.ireturn, 1) := by decide +kernel
theorem dX2_isSameAs_0 : decode cX2_isSameAs 0 = .ok (.iconst 0, 1) := by decide +kernel
theorem dX2_isSameAs_1 : decode cX2_isSameAs 1 = .ok (.istore_n 2, 1) := by decide +kernel
theorem dX2_isSameAs_2 : decode cX2_isSameAs 2 = .ok (.iload_n 2, 1) := by decide +kernel
theorem dX2_isSameAs_3 : decode cX2_isSameAs 3 = .ok (.aload_n 0, 1) := by decide +kernel
theorem dX2_isSameAs_4 : decode cX2_isSameAs 4 = .ok (.getfield 15, 3) := by decide +kernel
theorem dX2_isSameAs_7 : decode cX2_isSameAs 7 = .ok (.getfield 32, 3) := by decide +kernel
theorem dX2_isSameAs_10 : decode cX2_isSameAs 10 = .ok (.if_icmp .ge 20, 3) := by decide +kernel
theorem dX2_isSameAs_13 : decode cX2_isSameAs 13 = .ok (.aload_n 0, 1) := by decide +kernel
theorem dX2_isSameAs_14 : decode cX2_isSameAs 14 = .ok (.iload_n 2, 1) := by decide +kernel
theorem dX2_isSameAs_15 : decode cX2_isSameAs 15 = .ok (.aload_n 1, 1) := by decide +kernel
theorem dX2_isSameAs_16 : decode cX2_isSameAs 16 = .ok (.invokevirtual 81, 3) := by decide +kernel
theorem dX2_isSameAs_19 : decode cX2_isSameAs 19 = .ok (.ifCond .ne 5, 3) := by decide +kernel
theorem dX2_isSameAs_22 : decode cX2_isSameAs 22 = .ok (.iconst 0, 1) := by decide +kernel
theorem dX2_isSameAs_23 : decode cX2_isSameAs 23 = .ok (.ireturn, 1) := by decide +kernel
theorem dX2_isSameAs_24 : decode cX2_isSameAs 24 = .ok (.iinc 2 1, 3) := by decide +kernel
theorem dX2_isSameAs_27 : decode cX2_isSameAs 27 = .ok (.goto (-25), 3) := by decide +kernel
theorem dX2_isSameAs_30 : decode cX2_isSameAs 30 = .ok (.iconst 1, 1) := by decide +kernel
theorem dX2_isSameAs_31 : decode cX2_isSameAs 31 = .ok (.ireturn, 1) := by decide +kernel
theorem dX2_isMoreSpecific_0 : decode cX2_isMoreSpecific 0 = .ok (.iconst 0, 1) := by decide +kernel
theorem dX2_isMoreSpecific_1 : decode cX2_isMoreSpecific 1 = .ok (.istore_n 2, 1) := by decide +kernel
theorem dX2_isMoreSpecific_2 : decode cX2_isMoreSpecific 2 = .ok (.iconst 0, 1) := by decide +kernel
theorem dX2_isMoreSpecific_3 : decode cX2_isMoreSpecific 3 = .ok (.istore_n 3, 1) := by decide +kernel
theorem dX2_isMoreSpecific_4 : decode cX2_isMoreSpecific 4 = .ok (.iload_n 3, 1) := by decide +kernel
theorem dX2_isMoreSpecific_5 : decode cX2_isMoreSpecific 5 = .ok (.aload_n 0, 1) := by decide +kernel
theorem dX2_isMoreSpecific_6 : decode cX2_isMoreSpecific 6 = .ok (.getfield 15, 3) := by decide +kernel
theorem dX2_isMoreSpecific_9 : decode cX2_isMoreSpecific 9 = .ok (.getfield 32, 3) := by decide +kernel
theorem dX2_isMoreSpecific_12 : decode cX2_isMoreSpecific 12 = .ok (.if_icmp .ge 34, 3) := by decide +kernel
theorem dX2_isMoreSpecific_15 : decode cX2_isMoreSpecific 15 = .ok (.aload_n 0, 1) := by decide +kernel
theorem dX2_isMoreSpecific_16 : decode cX2_isMoreSpecific 16 = .ok (.iload_n 3, 1) := by decide +kernel
theorem dX2_isMoreSpecific_17 : decode cX2_isMoreSpecific 17 = .ok (.aload_n 1, 1) := by decide +kernel
theorem dX2_isMoreSpecific_18 : decode cX2_isMoreSpecific 18 = .ok (.invokevirtual 85, 3) := by decide +kernel
theorem dX2_isMoreSpecific_21 : decode cX2_isMoreSpecific 21 = .ok (.ifCond .eq 8, 3) := by decide +kernel
theorem dX2_isMoreSpecific_24 : decode cX2_isMoreSpecific 24 = .ok (.iconst 1, 1) := by decide +kernel
theorem dX2_isMoreSpecific_25 : decode cX2_isMoreSpecific 25 = .ok (.istore_n 2, 1) := by decide +kernel
theorem dX2_isMoreSpecific_26 : decode cX2_isMoreSpecific 26 = .ok (.goto 14, 3) := by decide +kernel
theorem dX2_isMoreSpecific_29 : decode cX2_isMoreSpecific 29 = .ok (.aload_n 0, 1) := by decide +kernel
theorem dX2_isMoreSpecific_30 : decode cX2_isMoreSpecific 30 = .ok (.iload_n 3, 1) := by decide +kernel
theorem dX2_isMoreSpecific_31 : decode cX2_isMoreSpecific 31 = .ok (.aload_n 1, 1) := by decide +kernel
theorem dX2_isMoreSpecific_32 : decode cX2_isMoreSpecific 32 = .ok (.invokevirtual 81, 3) := by decide +kernel
theorem dX2_isMoreSpecific_35 : decode cX2_isMoreSpecific 35 = .ok (.ifCond .ne 5, 3) := by decide +kernel
theorem dX2_isMoreSpecific_38 : decode cX2_isMoreSpecific 38 = .ok (.iconst 0, 1) := by decide +kernel
theorem dX2_isMoreSpecific_39 : decode cX2_isMoreSpecific 39 = .ok (.ireturn, 1) := by decide +kernel
theorem dX2_isMoreSpecific_40 : decode cX2_isMoreSpecific 40 = .ok (.iinc 3 1, 3) := by decide +kernel
theorem dX2_isMoreSpecific_43 : decode cX2_isMoreSpecific 43 = .ok (.goto (-39), 3) := by decide +kernel
theorem dX2_isMoreSpecific_46 : decode cX2_isMoreSpecific 46 = .ok (.iload_n 2, 1) := by decide +kernel
theorem dX2_isMoreSpecific_47 : decode cX2_isMoreSpecific 47 = .ok (.ireturn, 1) := by decide +kernel
theorem dX3_init_0 : decode cX3_init 0 = .ok (.aload_n 0, 1) := by decide +kernel
theorem dX3_init_1 : decode cX3_init 1 = .ok (.invokespecial 3, 3) := by decide +kernel
theorem dX3_init_4 : decode cX3_init 4 = .ok (.aload_n 0, 1) := by decide +kernel
theorem dX3_init_5 : decode cX3_init 5 = .ok (.sipush 1000, 3) := by decide +kernel
theorem dX3_init_8 : decode cX3_init 8 = .ok (.newarray .int, 2) := by decide +kernel
theorem dX3_init_10 : decode cX3_init 10 = .ok (.putfield 9, 3) := by decide +kernel
theorem dX3_init_13 : decode cX3_init 13 = .ok (.aload_n 0, 1) := by decide +kernel
theorem dX3_init_14 : decode cX3_init 14 = .ok (.iconst 0, 1) := by decide +kernel
theorem dX3_init_15 : decode cX3_init 15 = .ok (.putfield 15, 3) := by decide +kernel
theorem dX3_init_18 : decode cX3_init 18 = .ok (.aload_n 0, 1) := by decide +kernel
theorem dX3_init_19 : decode cX3_init 19 = .ok (.iconst 0, 1) := by decide +kernel
theorem dX3_init_20 : decode cX3_init 20 = .ok (.putfield 19, 3) := by decide +kernel
theorem dX3_init_23 : decode cX3_init 23 = .ok (.aload_n 0, 1) := by decide +kernel
theorem dX3_init_24 : decode cX3_init 24 = .ok (.iconst 0, 1) := by decide +kernel
theorem dX3_init_25 : decode cX3_init 25 = .ok (.putfield 22, 3) := by decide +kernel
theorem dX3_init_28 : decode cX3_init 28 = .ok (.aload_n 0, 1) := by decide +kernel
theorem dX3_init_29 : decode cX3_init 29 = .ok (.iconst 0, 1) := by decide +kernel
theorem dX3_init_30 : decode cX3_init 30 = .ok (.putfield 25, 3) := by decide +kernel
theorem dX3_init_33 : decode cX3_init 33 = .ok (.aload_n 0, 1) := by decide +kernel
theorem dX3_init_34 : decode cX3_init 34 = .ok (.lconst 0, 1) := by decide +kernel
theorem dX3_init_35 : decode cX3_init 35 = .ok (.putfield 28, 3) := by decide +kernel
theorem dX3_init_38 : decode cX3_init 38 = .ok (.return_, 1) := by decide +kernel
theorem dX3_begin_0 : decode cX3_begin 0 = .ok (.aload_n 0, 1) := by decide +kernel
theorem dX3_begin_1 : decode cX3_begin 1 = .ok (.iconst 0, 1) := by decide +kernel
theorem dX3_begin_2 : decode cX3_begin 2 = .ok (.putfield 15, 3) := by decide +kernel
theorem dX3_begin_5 : decode cX3_begin 5 = .ok (.aload_n 0, 1) := by decide +kernel
theorem dX3_begin_6 : decode cX3_begin 6 = .ok (.iconst 0, 1) := by decide +kernel
theorem dX3_begin_7 : decode cX3_begin 7 = .ok (.putfield 19, 3) := by decide +kernel
theorem dX3_begin_10 : decode cX3_begin 10 = .ok (.aload_n 0, 1) := by decide +kernel
theorem dX3_begin_11 : decode cX3_begin 11 = .ok (.iconst 0, 1) := by decide +kernel
theorem dX3_begin_12 : decode cX3_begin 12 = .ok (.putfield 22, 3) := by decide +kernel
theorem dX3_begin_15 : decode cX3_begin 15 = .ok (.aload_n 0, 1) := by decide +kernel
theorem dX3_begin_16 : decode cX3_begin 16 = .ok (.iconst 0, 1) := by decide +kernel
theorem dX3_begin_17 : decode cX3_begin 17 = .ok (.putfield 25, 3) := by decide +kernel
theorem dX3_begin_20 : decode cX3_begin 20 = .ok (.aload_n 0, 1) := by decide +kernel
theorem dX3_begin_21 : decode cX3_begin 21 = .ok (.lconst 0, 1) := by decide +kernel
theorem dX3_begin_22 : decode cX3_begin 22 = .ok (.putfield 28, 3) := by decide +kernel
theorem dX3_begin_25 : decode cX3_begin 25 = .ok (.return_, 1) := by decide +kernel
theorem dX3_addStep_0 : decode cX3_addStep 0 = .ok (.aload_n 0, 1) := by decide +kernel
theorem dX3_addStep_1 : decode cX3_addStep 1 = .ok (.getfield 15, 3) := by decide +kernel
theorem dX3_addStep_4 : decode cX3_addStep 4 = .ok (.sipush 1000, 3) := by decide +kernel
theorem dX3_addStep_7 : decode cX3_addStep 7 = .ok (.if_icmp .ge 13, 3) := by decide +kernel
theorem dX3_addStep_10 : decode cX3_addStep 10 = .ok (.aload_n 0, 1) := by decide +kernel
theorem dX3_addStep_11 : decode cX3_addStep 11 = .ok (.getfield 9, 3) := by decide +kernel
theorem dX3_addStep_14 : decode cX3_addStep 14 = .ok (.aload_n 0, 1) := by decide +kernel
theorem dX3_addStep_15 : decode cX3_addStep 15 = .ok (.getfield 15, 3) := by decide +kernel
theorem dX3_addStep_18 : decode cX3_addStep 18 = .ok (.iload_n 1, 1) := by decide +kernel
theorem dX3_addStep_19 : decode cX3_addStep 19 = .ok (.iastore, 1) := by decide +kernel
theorem dX3_addStep_20 : decode cX3_addStep 20 = .ok (.aload_n 0, 1) := by decide +kernel
theorem dX3_addStep_21 : decode cX3_addStep 21 = .ok (.dup, 1) := by decide +kernel
theorem dX3_addStep_22 : decode cX3_addStep 22 = .ok (.getfield 15, 3) := by decide +kernel
theorem dX3_addStep_25 : decode cX3_addStep 25 = .ok (.iconst 1, 1) := by decide +kernel
theorem dX3_addStep_26 : decode cX3_addStep 26 = .ok (.iadd, 1) := by decide +kernel
theorem dX3_addStep_27 : decode cX3_addStep 27 = .ok (.putfield 15, 3) := by decide +kernel
theorem dX3_addStep_30 : decode cX3_addStep 30 = .ok (.return_, 1) := by decide +kernel
theorem dX3_endWithValue_0 : decode cX3_endWithValue 0 = .ok (.aload_n 0, 1) := by decide +kernel
theorem dX3_endWithValue_1 : decode cX3_endWithValue 1 = .ok (.iconst 0, 1) := by decide +kernel
theorem dX3_endWithValue_2 : decode cX3_endWithValue 2 = .ok (.putfield 22, 3) := by decide +kernel
theorem dX3_endWithValue_5 : decode cX3_endWithValue 5 = .ok (.aload_n 0, 1) := by decide +kernel
theorem dX3_endWithValue_6 : decode cX3_endWithValue 6 = .ok (.dup, 1) := by decide +kernel
theorem dX3_endWithValue_7 : decode cX3_endWithValue 7 = .ok (.getfield 28, 3) := by decide +kernel
theorem dX3_endWithValue_10 : decode cX3_endWithValue 10 = .ok (.lload_n 1, 1) := by decide +kernel
theorem dX3_endWithValue_11 : decode cX3_endWithValue 11 = .ok (.ladd, 1) := by decide +kernel
theorem dX3_endWithValue_12 : decode cX3_endWithValue 12 = .ok (.putfield 28, 3) := by decide +kernel
theorem dX3_endWithValue_15 : decode cX3_endWithValue 15 = .ok (.return_, 1) := by decide +kernel
theorem dX3_endWithFailure_0 : decode cX3_endWithFailure 0 = .ok (.aload_n 0, 1) := by decide +kernel
theorem dX3_endWithFailure_1 : decode cX3_endWithFailure 1 = .ok (.iconst 3, 1) := by decide +kernel
theorem dX3_endWithFailure_2 : decode cX3_endWithFailure 2 = .ok (.putfield 22, 3) := by decide +kernel
theorem dX3_endWithFailure_5 : decode cX3_endWithFailure 5 = .ok (.aload_n 0, 1) := by decide +kernel
theorem dX3_endWithFailure_6 : decode cX3_endWithFailure 6 = .ok (.iload_n 1, 1) := by decide +kernel
theorem dX3_endWithFailure_7 : decode cX3_endWithFailure 7 = .ok (.putfield 25, 3) := by decide +kernel
theorem dX3_endWithFailure_10 : decode cX3_endWithFailure 10 = .ok (.return_, 1) := by decide +kernel
theorem dX4_init_0 : decode cX4_init 0 = .ok (.aload_n 0, 1) := by decide +kernel
theorem dX4_init_1 : decode cX4_init 1 = .ok (.invokespecial 3, 3) := by decide +kernel
theorem dX4_init_4 : decode cX4_init 4 = .ok (.aload_n 0, 1) := by decide +kernel
theorem dX4_init_5 : decode cX4_init 5 = .ok (.bipush 16, 2) := by decide +kernel
theorem dX4_init_7 : decode cX4_init 7 = .ok (.newarray .int, 2) := by decide +kernel
theorem dX4_init_9 : decode cX4_init 9 = .ok (.putfield 9, 3) := by decide +kernel
theorem dX4_init_12 : decode cX4_init 12 = .ok (.aload_n 0, 1) := by decide +kernel
theorem dX4_init_13 : decode cX4_init 13 = .ok (.bipush 16, 2) := by decide +kernel
theorem dX4_init_15 : decode cX4_init 15 = .ok (.newarray .long, 2) := by decide +kernel
theorem dX4_init_17 : decode cX4_init 17 = .ok (.putfield 15, 3) := by decide +kernel
theorem dX4_init_20 : decode cX4_init 20 = .ok (.aload_n 0, 1) := by decide +kernel
theorem dX4_init_21 : decode cX4_init 21 = .ok (.bipush 16, 2) := by decide +kernel
theorem dX4_init_23 : decode cX4_init 23 = .ok (.newarray .long, 2) := by decide +kernel
theorem dX4_init_25 : decode cX4_init 25 = .ok (.putfield 19, 3) := by decide +kernel
theorem dX4_init_28 : decode cX4_init 28 = .ok (.aload_n 0, 1) := by decide +kernel
theorem dX4_init_29 : decode cX4_init 29 = .ok (.bipush 16, 2) := by decide +kernel
theorem dX4_init_31 : decode cX4_init 31 = .ok (.newarray .int, 2) := by decide +kernel
theorem dX4_init_33 : decode cX4_init 33 = .ok (.putfield 22, 3) := by decide +kernel
theorem dX4_init_36 : decode cX4_init 36 = .ok (.aload_n 0, 1) := by decide +kernel
theorem dX4_init_37 : decode cX4_init 37 = .ok (.iconst 0, 1) := by decide +kernel
theorem dX4_init_38 : decode cX4_init 38 = .ok (.putfield 25, 3) := by decide +kernel
theorem dX4_init_41 : decode cX4_init 41 = .ok (.aload_n 0, 1) := by decide +kernel
theorem dX4_init_42 : decode cX4_init 42 = .ok (.iconst 0, 1) := by decide +kernel
theorem dX4_init_43 : decode cX4_init 43 = .ok (.putfield 29, 3) := by decide +kernel
theorem dX4_init_46 : decode cX4_init 46 = .ok (.aload_n 0, 1) := by decide +kernel
theorem dX4_init_47 : decode cX4_init 47 = .ok (.iconst 0, 1) := by decide +kernel
theorem dX4_init_48 : decode cX4_init 48 = .ok (.putfield 32, 3) := by decide +kernel
theorem dX4_init_51 : decode cX4_init 51 = .ok (.return_, 1) := by decide +kernel
theorem dX4_forget_0 : decode cX4_forget 0 = .ok (.aload_n 0, 1) := by decide +kernel
theorem dX4_forget_1 : decode cX4_forget 1 = .ok (.iconst 0, 1) := by decide +kernel
theorem dX4_forget_2 : decode cX4_forget 2 = .ok (.putfield 29, 3) := by decide +kernel
theorem dX4_forget_5 : decode cX4_forget 5 = .ok (.return_, 1) := by decide +kernel
theorem dX4_look_0 : decode cX4_look 0 = .ok (.aload_n 0, 1) := by decide +kernel
theorem dX4_look_1 : decode cX4_look 1 = .ok (.iload_n 1, 1) := by decide +kernel
theorem dX4_look_2 : decode cX4_look 2 = .ok (.lload_n 2, 1) := by decide +kernel
theorem dX4_look_3 : decode cX4_look 3 = .ok (.lload 4, 2) := by decide +kernel
theorem dX4_look_5 : decode cX4_look 5 = .ok (.invokevirtual 35, 3) := by decide +kernel
theorem dX4_look_8 : decode cX4_look 8 = .ok (.istore 6, 2) := by decide +kernel
theorem dX4_look_10 : decode cX4_look 10 = .ok (.iload 6, 2) := by decide +kernel
theorem dX4_look_12 : decode cX4_look 12 = .ok (.iconst (-1), 1) := by decide +kernel
theorem dX4_look_13 : decode cX4_look 13 = .ok (.if_icmp .eq 16, 3) := by decide +kernel
theorem dX4_look_16 : decode cX4_look 16 = .ok (.aload_n 0, 1) := by decide +kernel
theorem dX4_look_17 : decode cX4_look 17 = .ok (.dup, 1) := by decide +kernel
theorem dX4_look_18 : decode cX4_look 18 = .ok (.getfield 32, 3) := by decide +kernel
theorem dX4_look_21 : decode cX4_look 21 = .ok (.iconst 1, 1) := by decide +kernel
theorem dX4_look_22 : decode cX4_look 22 = .ok (.iadd, 1) := by decide +kernel
theorem dX4_look_23 : decode cX4_look 23 = .ok (.putfield 32, 3) := by decide +kernel
theorem dX4_look_26 : decode cX4_look 26 = .ok (.goto 34, 3) := by decide +kernel
theorem dX4_look_29 : decode cX4_look 29 = .ok (.aload_n 0, 1) := by decide +kernel
theorem dX4_look_30 : decode cX4_look 30 = .ok (.invokevirtual 39, 3) := by decide +kernel
theorem dX4_look_33 : decode cX4_look 33 = .ok (.istore 6, 2) := by decide +kernel
theorem dX4_look_35 : decode cX4_look 35 = .ok (.aload_n 0, 1) := by decide +kernel
theorem dX4_look_36 : decode cX4_look 36 = .ok (.getfield 9, 3) := by decide +kernel
theorem dX4_look_39 : decode cX4_look 39 = .ok (.iload 6, 2) := by decide +kernel
theorem dX4_look_41 : decode cX4_look 41 = .ok (.iload_n 1, 1) := by decide +kernel
theorem dX4_look_42 : decode cX4_look 42 = .ok (.iastore, 1) := by decide +kernel
theorem dX4_look_43 : decode cX4_look 43 = .ok (.aload_n 0, 1) := by decide +kernel
theorem dX4_look_44 : decode cX4_look 44 = .ok (.getfield 15, 3) := by decide +kernel
theorem dX4_look_47 : decode cX4_look 47 = .ok (.iload 6, 2) := by decide +kernel
theorem dX4_look_49 : decode cX4_look 49 = .ok (.lload_n 2, 1) := by decide +kernel
theorem dX4_look_50 : decode cX4_look 50 = .ok (.lastore, 1) := by decide +kernel
theorem dX4_look_51 : decode cX4_look 51 = .ok (.aload_n 0, 1) := by decide +kernel
theorem dX4_look_52 : decode cX4_look 52 = .ok (.getfield 19, 3) := by decide +kernel
theorem dX4_look_55 : decode cX4_look 55 = .ok (.iload 6, 2) := by decide +kernel
theorem dX4_look_57 : decode cX4_look 57 = .ok (.lload 4, 2) := by decide +kernel
theorem dX4_look_59 : decode cX4_look 59 = .ok (.lastore, 1) := by decide +kernel
theorem dX4_look_60 : decode cX4_look 60 = .ok (.aload_n 0, 1) := by decide +kernel
theorem dX4_look_61 : decode cX4_look 61 = .ok (.dup, 1) := by decide +kernel
theorem dX4_look_62 : decode cX4_look 62 = .ok (.getfield 25, 3) := by decide +kernel
theorem dX4_look_65 : decode cX4_look 65 = .ok (.iconst 1, 1) := by decide +kernel
theorem dX4_look_66 : decode cX4_look 66 = .ok (.iadd, 1) := by decide +kernel
theorem dX4_look_67 : decode cX4_look 67 = .ok (.putfield 25, 3) := by decide +kernel
theorem dX4_look_70 : decode cX4_look 70 = .ok (.aload_n 0, 1) := by decide +kernel
theorem dX4_look_71 : decode cX4_look 71 = .ok (.getfield 22, 3) := by decide +kernel
theorem dX4_look_74 : decode cX4_look 74 = .ok (.iload 6, 2) := by decide +kernel
theorem dX4_look_76 : decode cX4_look 76 = .ok (.aload_n 0, 1) := by decide +kernel
theorem dX4_look_77 : decode cX4_look 77 = .ok (.getfield 25, 3) := by decide +kernel
theorem dX4_look_80 : decode cX4_look 80 = .ok (.iastore, 1) := by decide +kernel
theorem dX4_look_81 : decode cX4_look 81 = .ok (.return_, 1) := by decide +kernel
theorem dX4_find_0 : decode cX4_find 0 = .ok (.iconst 0, 1) := by decide +kernel
theorem dX4_find_1 : decode cX4_find 1 = .ok (.istore 6, 2) := by decide +kernel
theorem dX4_find_3 : decode cX4_find 3 = .ok (.iload 6, 2) := by decide +kernel
theorem dX4_find_5 : decode cX4_find 5 = .ok (.aload_n 0, 1) := by decide +kernel
theorem dX4_find_6 : decode cX4_find 6 = .ok (.getfield 29, 3) := by decide +kernel
theorem dX4_find_9 : decode cX4_find 9 = .ok (.if_icmp .ge 48, 3) := by decide +kernel
theorem dX4_find_12 : decode cX4_find 12 = .ok (.aload_n 0, 1) := by decide +kernel
theorem dX4_find_13 : decode cX4_find 13 = .ok (.getfield 9, 3) := by decide +kernel
theorem dX4_find_16 : decode cX4_find 16 = .ok (.iload 6, 2) := by decide +kernel
theorem dX4_find_18 : decode cX4_find 18 = .ok (.iaload, 1) := by decide +kernel
theorem dX4_find_19 : decode cX4_find 19 = .ok (.iload_n 1, 1) := by decide +kernel
theorem dX4_find_20 : decode cX4_find 20 = .ok (.if_icmp .ne 31, 3) := by decide +kernel
theorem dX4_find_23 : decode cX4_find 23 = .ok (.aload_n 0, 1) := by decide +kernel
theorem dX4_find_24 : decode cX4_find 24 = .ok (.getfield 15, 3) := by decide +kernel
theorem dX4_find_27 : decode cX4_find 27 = .ok (.iload 6, 2) := by decide +kernel
theorem dX4_find_29 : decode cX4_find 29 = .ok (.laload, 1) := by decide +kernel
theorem dX4_find_30 : decode cX4_find 30 = .ok (.lload_n 2, 1) := by decide +kernel
theorem dX4_find_31 : decode cX4_find 31 = .ok (.lcmp, 1) := by decide +kernel
theorem dX4_find_32 : decode cX4_find 32 = .ok (.ifCond .ne 19, 3) := by decide +kernel
theorem dX4_find_35 : decode cX4_find 35 = .ok (.aload_n 0, 1) := by decide +kernel
theorem dX4_find_36 : decode cX4_find 36 = .ok (.getfield 19, 3) := by decide +kernel
theorem dX4_find_39 : decode cX4_find 39 = .ok (.iload 6, 2) := by decide +kernel
theorem dX4_find_41 : decode cX4_find 41 = .ok (.laload, 1) := by decide +kernel
theorem dX4_find_42 : decode cX4_find 42 = .ok (.lload 4, 2) := by decide +kernel
theorem dX4_find_44 : decode cX4_find 44 = .ok (.lcmp, 1) := by decide +kernel
theorem dX4_find_45 : decode cX4_find 45 = .ok (.ifCond .ne 6, 3) := by decide +kernel
theorem dX4_find_48 : decode cX4_find 48 = .ok (.iload 6, 2) := by decide +kernel
theorem dX4_find_50 : decode cX4_find 50 = .ok (.ireturn, 1) := by decide +kernel
theorem dX4_find_51 : decode cX4_find 51 = .ok (.iinc 6 1, 3) := by decide +kernel
theorem dX4_find_54 : decode cX4_find 54 = .ok (.goto (-51), 3) := by decide +kernel
theorem dX4_find_57 : decode cX4_find 57 = .ok (.iconst (-1), 1) := by decide +kernel
theorem dX4_find_58 : decode cX4_find 58 = .ok (.ireturn, 1) := by decide +kernel
theorem dX4_makeRoom_0 : decode cX4_makeRoom 0 = .ok (.aload_n 0, 1) := by decide +kernel
theorem dX4_makeRoom_1 : decode cX4_makeRoom 1 = .ok (.getfield 29, 3) := by decide +kernel
theorem dX4_makeRoom_4 : decode cX4_makeRoom 4 = .ok (.bipush 16, 2) := by decide +kernel
theorem dX4_makeRoom_6 : decode cX4_makeRoom 6 = .ok (.if_icmp .ge 20, 3) := by decide +kernel
theorem dX4_makeRoom_9 : decode cX4_makeRoom 9 = .ok (.aload_n 0, 1) := by decide +kernel
theorem dX4_makeRoom_10 : decode cX4_makeRoom 10 = .ok (.dup, 1) := by decide +kernel
theorem dX4_makeRoom_11 : decode cX4_makeRoom 11 = .ok (.getfield 29, 3) := by decide +kernel
theorem dX4_makeRoom_14 : decode cX4_makeRoom 14 = .ok (.iconst 1, 1) := by decide +kernel
theorem dX4_makeRoom_15 : decode cX4_makeRoom 15 = .ok (.iadd, 1) := by decide +kernel
theorem dX4_makeRoom_16 : decode cX4_makeRoom 16 = .ok (.putfield 29, 3) := by decide +kernel
theorem dX4_makeRoom_19 : decode cX4_makeRoom 19 = .ok (.aload_n 0, 1) := by decide +kernel
theorem dX4_makeRoom_20 : decode cX4_makeRoom 20 = .ok (.getfield 29, 3) := by decide +kernel
theorem dX4_makeRoom_23 : decode cX4_makeRoom 23 = .ok (.iconst 1, 1) := by decide +kernel
theorem dX4_makeRoom_24 : decode cX4_makeRoom 24 = .ok (.isub, 1) := by decide +kernel
theorem dX4_makeRoom_25 : decode cX4_makeRoom 25 = .ok (.ireturn, 1) := by decide +kernel
theorem dX4_makeRoom_26 : decode cX4_makeRoom 26 = .ok (.iconst 0, 1) := by decide +kernel
theorem dX4_makeRoom_27 : decode cX4_makeRoom 27 = .ok (.istore_n 1, 1) := by decide +kernel
theorem dX4_makeRoom_28 : decode cX4_makeRoom 28 = .ok (.iconst 1, 1) := by decide +kernel
theorem dX4_makeRoom_29 : decode cX4_makeRoom 29 = .ok (.istore_n 2, 1) := by decide +kernel
theorem dX4_makeRoom_30 : decode cX4_makeRoom 30 = .ok (.iload_n 2, 1) := by decide +kernel
theorem dX4_makeRoom_31 : decode cX4_makeRoom 31 = .ok (.bipush 16, 2) := by decide +kernel
theorem dX4_makeRoom_33 : decode cX4_makeRoom 33 = .ok (.if_icmp .ge 26, 3) := by decide +kernel
theorem dX4_makeRoom_36 : decode cX4_makeRoom 36 = .ok (.aload_n 0, 1) := by decide +kernel
theorem dX4_makeRoom_37 : decode cX4_makeRoom 37 = .ok (.getfield 22, 3) := by decide +kernel
theorem dX4_makeRoom_40 : decode cX4_makeRoom 40 = .ok (.iload_n 2, 1) := by decide +kernel
theorem dX4_makeRoom_41 : decode cX4_makeRoom 41 = .ok (.iaload, 1) := by decide +kernel
theorem dX4_makeRoom_42 : decode cX4_makeRoom 42 = .ok (.aload_n 0, 1) := by decide +kernel
theorem dX4_makeRoom_43 : decode cX4_makeRoom 43 = .ok (.getfield 22, 3) := by decide +kernel
theorem dX4_makeRoom_46 : decode cX4_makeRoom 46 = .ok (.iload_n 1, 1) := by decide +kernel
theorem dX4_makeRoom_47 : decode cX4_makeRoom 47 = .ok (.iaload, 1) := by decide +kernel
theorem dX4_makeRoom_48 : decode cX4_makeRoom 48 = .ok (.if_icmp .ge 5, 3) := by decide +kernel
theorem dX4_makeRoom_51 : decode cX4_makeRoom 51 = .ok (.iload_n 2, 1) := by decide +kernel
theorem dX4_makeRoom_52 : decode cX4_makeRoom 52 = .ok (.istore_n 1, 1) := by decide +kernel
theorem dX4_makeRoom_53 : decode cX4_makeRoom 53 = .ok (.iinc 2 1, 3) := by decide +kernel
theorem dX4_makeRoom_56 : decode cX4_makeRoom 56 = .ok (.goto (-26), 3) := by decide +kernel
theorem dX4_makeRoom_59 : decode cX4_makeRoom 59 = .ok (.iload_n 1, 1) := by decide +kernel
theorem dX4_makeRoom_60 : decode cX4_makeRoom 60 = .ok (.ireturn, 1) := by decide +kernel
theorem dX5_init_0 : decode cX5_init 0 = .ok (.aload_n 0, 1) := by decide +kernel
theorem dX5_init_1 : decode cX5_init 1 = .ok (.invokespecial 3, 3) := by decide +kernel
theorem dX5_init_4 : decode cX5_init 4 = .ok (.aload_n 0, 1) := by decide +kernel
theorem dX5_init_5 : decode cX5_init 5 = .ok (.new 9, 3) := by decide +kernel
theorem dX5_init_8 : decode cX5_init 8 = .ok (.dup, 1) := by decide +kernel
theorem dX5_init_9 : decode cX5_init 9 = .ok (.invokespecial 11, 3) := by decide +kernel
theorem dX5_init_12 : decode cX5_init 12 = .ok (.putfield 12, 3) := by decide +kernel
theorem dX5_init_15 : decode cX5_init 15 = .ok (.aload_n 0, 1) := by decide +kernel
theorem dX5_init_16 : decode cX5_init 16 = .ok (.new 9, 3) := by decide +kernel
theorem dX5_init_19 : decode cX5_init 19 = .ok (.dup, 1) := by decide +kernel
theorem dX5_init_20 : decode cX5_init 20 = .ok (.invokespecial 11, 3) := by decide +kernel
theorem dX5_init_23 : decode cX5_init 23 = .ok (.putfield 18, 3) := by decide +kernel
theorem dX5_init_26 : decode cX5_init 26 = .ok (.aload_n 0, 1) := by decide +kernel
theorem dX5_init_27 : decode cX5_init 27 = .ok (.iconst 0, 1) := by decide +kernel
theorem dX5_init_28 : decode cX5_init 28 = .ok (.putfield 21, 3) := by decide +kernel
theorem dX5_init_31 : decode cX5_init 31 = .ok (.aload_n 0, 1) := by decide +kernel
theorem dX5_init_32 : decode cX5_init 32 = .ok (.iconst 0, 1) := by decide +kernel
theorem dX5_init_33 : decode cX5_init 33 = .ok (.putfield 25, 3) := by decide +kernel
theorem dX5_init_36 : decode cX5_init 36 = .ok (.aload_n 0, 1) := by decide +kernel
theorem dX5_init_37 : decode cX5_init 37 = .ok (.iconst 0, 1) := by decide +kernel
theorem dX5_init_38 : decode cX5_init 38 = .ok (.putfield 28, 3) := by decide +kernel
theorem dX5_init_41 : decode cX5_init 41 = .ok (.aload_n 0, 1) := by decide +kernel
theorem dX5_init_42 : decode cX5_init 42 = .ok (.iconst 0, 1) := by decide +kernel
theorem dX5_init_43 : decode cX5_init 43 = .ok (.putfield 31, 3) := by decide +kernel
theorem dX5_init_46 : decode cX5_init 46 = .ok (.return_, 1) := by decide +kernel
theorem dX5_fillCells_0 : decode cX5_fillCells 0 = .ok (.aload_n 0, 1) := by decide +kernel
theorem dX5_fillCells_1 : decode cX5_fillCells 1 = .ok (.getfield 12, 3) := by decide +kernel
theorem dX5_fillCells_4 : decode cX5_fillCells 4 = .ok (.aload_n 1, 1) := by decide +kernel
theorem dX5_fillCells_5 : decode cX5_fillCells 5 = .ok (.iconst 0, 1) := by decide +kernel
theorem dX5_fillCells_6 : decode cX5_fillCells 6 = .ok (.invokevirtual 34, 3) := by decide +kernel
theorem dX5_fillCells_9 : decode cX5_fillCells 9 = .ok (.aload_n 0, 1) := by decide +kernel
theorem dX5_fillCells_10 : decode cX5_fillCells 10 = .ok (.getfield 18, 3) := by decide +kernel
theorem dX5_fillCells_13 : decode cX5_fillCells 13 = .ok (.aload_n 1, 1) := by decide +kernel
theorem dX5_fillCells_14 : decode cX5_fillCells 14 = .ok (.iconst 1, 1) := by decide +kernel
theorem dX5_fillCells_15 : decode cX5_fillCells 15 = .ok (.invokevirtual 34, 3) := by decide +kernel
theorem dX5_fillCells_18 : decode cX5_fillCells 18 = .ok (.return_, 1) := by decide +kernel
theorem dX5_findHole_0 : decode cX5_findHole 0 = .ok (.aload_n 0, 1) := by decide +kernel
theorem dX5_findHole_1 : decode cX5_findHole 1 = .ok (.aload_n 1, 1) := by decide +kernel
theorem dX5_findHole_2 : decode cX5_findHole 2 = .ok (.invokevirtual 38, 3) := by decide +kernel
theorem dX5_findHole_5 : decode cX5_findHole 5 = .ok (.iconst 0, 1) := by decide +kernel
theorem dX5_findHole_6 : decode cX5_findHole 6 = .ok (.istore_n 2, 1) := by decide +kernel
theorem dX5_findHole_7 : decode cX5_findHole 7 = .ok (.iload_n 2, 1) := by decide +kernel
theorem dX5_findHole_8 : decode cX5_findHole 8 = .ok (.aload_n 0, 1) := by decide +kernel
theorem dX5_findHole_9 : decode cX5_findHole 9 = .ok (.getfield 12, 3) := by decide +kernel
theorem dX5_findHole_12 : decode cX5_findHole 12 = .ok (.getfield 42, 3) := by decide +kernel
theorem dX5_findHole_15 : decode cX5_findHole 15 = .ok (.if_icmp .ge 62, 3) := by decide +kernel
theorem dX5_findHole_18 : decode cX5_findHole 18 = .ok (.iconst 0, 1) := by decide +kernel
theorem dX5_findHole_19 : decode cX5_findHole 19 = .ok (.istore_n 3, 1) := by decide +kernel
theorem dX5_findHole_20 : decode cX5_findHole 20 = .ok (.iload_n 3, 1) := by decide +kernel
theorem dX5_findHole_21 : decode cX5_findHole 21 = .ok (.aload_n 0, 1) := by decide +kernel
theorem dX5_findHole_22 : decode cX5_findHole 22 = .ok (.getfield 18, 3) := by decide +kernel
theorem dX5_findHole_25 : decode cX5_findHole 25 = .ok (.getfield 42, 3) := by decide +kernel
theorem dX5_findHole_28 : decode cX5_findHole 28 = .ok (.if_icmp .ge 43, 3) := by decide +kernel
theorem dX5_findHole_31 : decode cX5_findHole 31 = .ok (.aload_n 1, 1) := by decide +kernel
theorem dX5_findHole_32 : decode cX5_findHole 32 = .ok (.aload_n 0, 1) := by decide +kernel
theorem dX5_findHole_33 : decode cX5_findHole 33 = .ok (.getfield 12, 3) := by decide +kernel
theorem dX5_findHole_36 : decode cX5_findHole 36 = .ok (.getfield 45, 3) := by decide +kernel
theorem dX5_findHole_39 : decode cX5_findHole 39 = .ok (.iload_n 2, 1) := by decide +kernel
theorem dX5_findHole_40 : decode cX5_findHole 40 = .ok (.iaload, 1) := by decide +kernel
theorem dX5_findHole_41 : decode cX5_findHole 41 = .ok (.aload_n 0, 1) := by decide +kernel
theorem dX5_findHole_42 : decode cX5_findHole 42 = .ok (.getfield 18, 3) := by decide +kernel
theorem dX5_findHole_45 : decode cX5_findHole 45 = .ok (.getfield 45, 3) := by decide +kernel
theorem dX5_findHole_48 : decode cX5_findHole 48 = .ok (.iload_n 3, 1) := by decide +kernel
theorem dX5_findHole_49 : decode cX5_findHole 49 = .ok (.iaload, 1) := by decide +kernel
theorem dX5_findHole_50 : decode cX5_findHole 50 = .ok (.iand, 1) := by decide +kernel
theorem dX5_findHole_51 : decode cX5_findHole 51 = .ok (.invokevirtual 49, 3) := by decide +kernel
theorem dX5_findHole_54 : decode cX5_findHole 54 = .ok (.iconst (-1), 1) := by decide +kernel
theorem dX5_findHole_55 : decode cX5_findHole 55 = .ok (.if_icmp .ne 10, 3) := by decide +kernel
theorem dX5_findHole_58 : decode cX5_findHole 58 = .ok (.aload_n 0, 1) := by decide +kernel
theorem dX5_findHole_59 : decode cX5_findHole 59 = .ok (.iload_n 2, 1) := by decide +kernel
theorem dX5_findHole_60 : decode cX5_findHole 60 = .ok (.iload_n 3, 1) := by decide +kernel
theorem dX5_findHole_61 : decode cX5_findHole 61 = .ok (.invokevirtual 55, 3) := by decide +kernel
theorem dX5_findHole_64 : decode cX5_findHole 64 = .ok (.ireturn, 1) := by decide +kernel
theorem dX5_findHole_65 : decode cX5_findHole 65 = .ok (.iinc 3 1, 3) := by decide +kernel
theorem dX5_findHole_68 : decode cX5_findHole 68 = .ok (.goto (-48), 3) := by decide +kernel
theorem dX5_findHole_71 : decode cX5_findHole 71 = .ok (.iinc 2 1, 3) := by decide +kernel
theorem dX5_findHole_74 : decode cX5_findHole 74 = .ok (.goto (-67), 3) := by decide +kernel
theorem dX5_findHole_77 : decode cX5_findHole 77 = .ok (.iconst 0, 1) := by decide +kernel
theorem dX5_findHole_78 : decode cX5_findHole 78 = .ok (.ireturn, 1) := by decide +kernel
theorem dX5_findDoubt_0 : decode cX5_findDoubt 0 = .ok (.aload_n 0, 1) := by decide +kernel
theorem dX5_findDoubt_1 : decode cX5_findDoubt 1 = .ok (.aload_n 1, 1) := by decide +kernel
theorem dX5_findDoubt_2 : decode cX5_findDoubt 2 = .ok (.invokevirtual 38, 3) := by decide +kernel
theorem dX5_findDoubt_5 : decode cX5_findDoubt 5 = .ok (.iconst 0, 1) := by decide +kernel
theorem dX5_findDoubt_6 : decode cX5_findDoubt 6 = .ok (.istore_n 3, 1) := by decide +kernel
theorem dX5_findDoubt_7 : decode cX5_findDoubt 7 = .ok (.iconst 0, 1) := by decide +kernel
theorem dX5_findDoubt_8 : decode cX5_findDoubt 8 = .ok (.istore 4, 2) := by decide +kernel
theorem dX5_findDoubt_10 : decode cX5_findDoubt 10 = .ok (.iload 4, 2) := by decide +kernel
theorem dX5_findDoubt_12 : decode cX5_findDoubt 12 = .ok (.aload_n 1, 1) := by decide +kernel
theorem dX5_findDoubt_13 : decode cX5_findDoubt 13 = .ok (.getfield 59, 3) := by decide +kernel
theorem dX5_findDoubt_16 : decode cX5_findDoubt 16 = .ok (.if_icmp .ge 64, 3) := by decide +kernel
theorem dX5_findDoubt_19 : decode cX5_findDoubt 19 = .ok (.iload 4, 2) := by decide +kernel
theorem dX5_findDoubt_21 : decode cX5_findDoubt 21 = .ok (.iconst 1, 1) := by decide +kernel
theorem dX5_findDoubt_22 : decode cX5_findDoubt 22 = .ok (.iadd, 1) := by decide +kernel
theorem dX5_findDoubt_23 : decode cX5_findDoubt 23 = .ok (.istore 5, 2) := by decide +kernel
theorem dX5_findDoubt_25 : decode cX5_findDoubt 25 = .ok (.iload 5, 2) := by decide +kernel
theorem dX5_findDoubt_27 : decode cX5_findDoubt 27 = .ok (.aload_n 1, 1) := by decide +kernel
theorem dX5_findDoubt_28 : decode cX5_findDoubt 28 = .ok (.getfield 59, 3) := by decide +kernel
theorem dX5_findDoubt_31 : decode cX5_findDoubt 31 = .ok (.if_icmp .ge 43, 3) := by decide +kernel
theorem dX5_findDoubt_34 : decode cX5_findDoubt 34 = .ok (.aload_n 0, 1) := by decide +kernel
theorem dX5_findDoubt_35 : decode cX5_findDoubt 35 = .ok (.aload_n 1, 1) := by decide +kernel
theorem dX5_findDoubt_36 : decode cX5_findDoubt 36 = .ok (.iload 4, 2) := by decide +kernel
theorem dX5_findDoubt_38 : decode cX5_findDoubt 38 = .ok (.iload 5, 2) := by decide +kernel
theorem dX5_findDoubt_40 : decode cX5_findDoubt 40 = .ok (.invokevirtual 62, 3) := by decide +kernel
theorem dX5_findDoubt_43 : decode cX5_findDoubt 43 = .ok (.ifCond .eq 25, 3) := by decide +kernel
theorem dX5_findDoubt_46 : decode cX5_findDoubt 46 = .ok (.iload_n 3, 1) := by decide +kernel
theorem dX5_findDoubt_47 : decode cX5_findDoubt 47 = .ok (.iload_n 2, 1) := by decide +kernel
theorem dX5_findDoubt_48 : decode cX5_findDoubt 48 = .ok (.if_icmp .ne 17, 3) := by decide +kernel
theorem dX5_findDoubt_51 : decode cX5_findDoubt 51 = .ok (.aload_n 0, 1) := by decide +kernel
theorem dX5_findDoubt_52 : decode cX5_findDoubt 52 = .ok (.iload 4, 2) := by decide +kernel
theorem dX5_findDoubt_54 : decode cX5_findDoubt 54 = .ok (.putfield 28, 3) := by decide +kernel
theorem dX5_findDoubt_57 : decode cX5_findDoubt 57 = .ok (.aload_n 0, 1) := by decide +kernel
theorem dX5_findDoubt_58 : decode cX5_findDoubt 58 = .ok (.iload 5, 2) := by decide +kernel
theorem dX5_findDoubt_60 : decode cX5_findDoubt 60 = .ok (.putfield 31, 3) := by decide +kernel
theorem dX5_findDoubt_63 : decode cX5_findDoubt 63 = .ok (.iconst 1, 1) := by decide +kernel
theorem dX5_findDoubt_64 : decode cX5_findDoubt 64 = .ok (.ireturn, 1) := by decide +kernel
theorem dX5_findDoubt_65 : decode cX5_findDoubt 65 = .ok (.iinc 3 1, 3) := by decide +kernel
theorem dX5_findDoubt_68 : decode cX5_findDoubt 68 = .ok (.iinc 5 1, 3) := by decide +kernel
theorem dX5_findDoubt_71 : decode cX5_findDoubt 71 = .ok (.goto (-46), 3) := by decide +kernel
theorem dX5_findDoubt_74 : decode cX5_findDoubt 74 = .ok (.iinc 4 1, 3) := by decide +kernel
theorem dX5_findDoubt_77 : decode cX5_findDoubt 77 = .ok (.goto (-67), 3) := by decide +kernel
theorem dX5_findDoubt_80 : decode cX5_findDoubt 80 = .ok (.iconst 0, 1) := by decide +kernel
theorem dX5_findDoubt_81 : decode cX5_findDoubt 81 = .ok (.ireturn, 1) := by decide +kernel
theorem dX5_haveDoubt_0 : decode cX5_haveDoubt 0 = .ok (.iconst 1, 1) := by decide +kernel
theorem dX5_haveDoubt_1 : decode cX5_haveDoubt 1 = .ok (.iload_n 2, 1) := by decide +kernel
theorem dX5_haveDoubt_2 : decode cX5_haveDoubt 2 = .ok (.ishl, 1) := by decide +kernel
theorem dX5_haveDoubt_3 : decode cX5_haveDoubt 3 = .ok (.iconst 1, 1) := by decide +kernel
theorem dX5_haveDoubt_4 : decode cX5_haveDoubt 4 = .ok (.iload_n 3, 1) := by decide +kernel
theorem dX5_haveDoubt_5 : decode cX5_haveDoubt 5 = .ok (.ishl, 1) := by decide +kernel
theorem dX5_haveDoubt_6 : decode cX5_haveDoubt 6 = .ok (.ior, 1) := by decide +kernel
theorem dX5_haveDoubt_7 : decode cX5_haveDoubt 7 = .ok (.istore 4, 2) := by decide +kernel
theorem dX5_haveDoubt_9 : decode cX5_haveDoubt 9 = .ok (.aload_n 1, 1) := by decide +kernel
theorem dX5_haveDoubt_10 : decode cX5_haveDoubt 10 = .ok (.getfield 66, 3) := by decide +kernel
theorem dX5_haveDoubt_13 : decode cX5_haveDoubt 13 = .ok (.iload 4, 2) := by decide +kernel
theorem dX5_haveDoubt_15 : decode cX5_haveDoubt 15 = .ok (.iand, 1) := by decide +kernel
theorem dX5_haveDoubt_16 : decode cX5_haveDoubt 16 = .ok (.iload 4, 2) := by decide +kernel
theorem dX5_haveDoubt_18 : decode cX5_haveDoubt 18 = .ok (.if_icmp .ne 27, 3) := by decide +kernel
theorem dX5_haveDoubt_21 : decode cX5_haveDoubt 21 = .ok (.aload_n 1, 1) := by decide +kernel
theorem dX5_haveDoubt_22 : decode cX5_haveDoubt 22 = .ok (.iload_n 2, 1) := by decide +kernel
theorem dX5_haveDoubt_23 : decode cX5_haveDoubt 23 = .ok (.invokevirtual 69, 3) := by decide +kernel
theorem dX5_haveDoubt_26 : decode cX5_haveDoubt 26 = .ok (.iconst 1, 1) := by decide +kernel
theorem dX5_haveDoubt_27 : decode cX5_haveDoubt 27 = .ok (.iload_n 3, 1) := by decide +kernel
theorem dX5_haveDoubt_28 : decode cX5_haveDoubt 28 = .ok (.ishl, 1) := by decide +kernel
theorem dX5_haveDoubt_29 : decode cX5_haveDoubt 29 = .ok (.iand, 1) := by decide +kernel
theorem dX5_haveDoubt_30 : decode cX5_haveDoubt 30 = .ok (.ifCond .ne 15, 3) := by decide +kernel
theorem dX5_haveDoubt_33 : decode cX5_haveDoubt 33 = .ok (.aload_n 1, 1) := by decide +kernel
theorem dX5_haveDoubt_34 : decode cX5_haveDoubt 34 = .ok (.iload_n 3, 1) := by decide +kernel
theorem dX5_haveDoubt_35 : decode cX5_haveDoubt 35 = .ok (.invokevirtual 69, 3) := by decide +kernel
theorem dX5_haveDoubt_38 : decode cX5_haveDoubt 38 = .ok (.iconst 1, 1) := by decide +kernel
theorem dX5_haveDoubt_39 : decode cX5_haveDoubt 39 = .ok (.iload_n 2, 1) := by decide +kernel
theorem dX5_haveDoubt_40 : decode cX5_haveDoubt 40 = .ok (.ishl, 1) := by decide +kernel
theorem dX5_haveDoubt_41 : decode cX5_haveDoubt 41 = .ok (.iand, 1) := by decide +kernel
theorem dX5_haveDoubt_42 : decode cX5_haveDoubt 42 = .ok (.ifCond .eq 5, 3) := by decide +kernel
theorem dX5_haveDoubt_45 : decode cX5_haveDoubt 45 = .ok (.iconst 0, 1) := by decide +kernel
theorem dX5_haveDoubt_46 : decode cX5_haveDoubt 46 = .ok (.ireturn, 1) := by decide +kernel
theorem dX5_haveDoubt_47 : decode cX5_haveDoubt 47 = .ok (.aload_n 1, 1) := by decide +kernel
theorem dX5_haveDoubt_48 : decode cX5_haveDoubt 48 = .ok (.iload_n 2, 1) := by decide +kernel
theorem dX5_haveDoubt_49 : decode cX5_haveDoubt 49 = .ok (.invokevirtual 72, 3) := by decide +kernel
theorem dX5_haveDoubt_52 : decode cX5_haveDoubt 52 = .ok (.aload_n 1, 1) := by decide +kernel
theorem dX5_haveDoubt_53 : decode cX5_haveDoubt 53 = .ok (.iload_n 3, 1) := by decide +kernel
theorem dX5_haveDoubt_54 : decode cX5_haveDoubt 54 = .ok (.invokevirtual 72, 3) := by decide +kernel
theorem dX5_haveDoubt_57 : decode cX5_haveDoubt 57 = .ok (.iand, 1) := by decide +kernel
theorem dX5_haveDoubt_58 : decode cX5_haveDoubt 58 = .ok (.istore 5, 2) := by decide +kernel
theorem dX5_haveDoubt_60 : decode cX5_haveDoubt 60 = .ok (.iconst 0, 1) := by decide +kernel
theorem dX5_haveDoubt_61 : decode cX5_haveDoubt 61 = .ok (.istore 6, 2) := by decide +kernel
theorem dX5_haveDoubt_63 : decode cX5_haveDoubt 63 = .ok (.iload 6, 2) := by decide +kernel
theorem dX5_haveDoubt_65 : decode cX5_haveDoubt 65 = .ok (.aload_n 0, 1) := by decide +kernel
theorem dX5_haveDoubt_66 : decode cX5_haveDoubt 66 = .ok (.getfield 12, 3) := by decide +kernel
theorem dX5_haveDoubt_69 : decode cX5_haveDoubt 69 = .ok (.getfield 42, 3) := by decide +kernel
theorem dX5_haveDoubt_72 : decode cX5_haveDoubt 72 = .ok (.if_icmp .ge 80, 3) := by decide +kernel
theorem dX5_haveDoubt_75 : decode cX5_haveDoubt 75 = .ok (.iconst 0, 1) := by decide +kernel
theorem dX5_haveDoubt_76 : decode cX5_haveDoubt 76 = .ok (.istore 7, 2) := by decide +kernel
theorem dX5_haveDoubt_78 : decode cX5_haveDoubt 78 = .ok (.iload 7, 2) := by decide +kernel
theorem dX5_haveDoubt_80 : decode cX5_haveDoubt 80 = .ok (.aload_n 0, 1) := by decide +kernel
theorem dX5_haveDoubt_81 : decode cX5_haveDoubt 81 = .ok (.getfield 18, 3) := by decide +kernel
theorem dX5_haveDoubt_84 : decode cX5_haveDoubt 84 = .ok (.getfield 42, 3) := by decide +kernel
theorem dX5_haveDoubt_87 : decode cX5_haveDoubt 87 = .ok (.if_icmp .ge 59, 3) := by decide +kernel
theorem dX5_haveDoubt_90 : decode cX5_haveDoubt 90 = .ok (.aload_n 0, 1) := by decide +kernel
theorem dX5_haveDoubt_91 : decode cX5_haveDoubt 91 = .ok (.getfield 12, 3) := by decide +kernel
theorem dX5_haveDoubt_94 : decode cX5_haveDoubt 94 = .ok (.getfield 45, 3) := by decide +kernel
theorem dX5_haveDoubt_97 : decode cX5_haveDoubt 97 = .ok (.iload 6, 2) := by decide +kernel
theorem dX5_haveDoubt_99 : decode cX5_haveDoubt 99 = .ok (.iaload, 1) := by decide +kernel
theorem dX5_haveDoubt_100 : decode cX5_haveDoubt 100 = .ok (.aload_n 0, 1) := by decide +kernel
theorem dX5_haveDoubt_101 : decode cX5_haveDoubt 101 = .ok (.getfield 18, 3) := by decide +kernel
theorem dX5_haveDoubt_104 : decode cX5_haveDoubt 104 = .ok (.getfield 45, 3) := by decide +kernel
theorem dX5_haveDoubt_107 : decode cX5_haveDoubt 107 = .ok (.iload 7, 2) := by decide +kernel
theorem dX5_haveDoubt_109 : decode cX5_haveDoubt 109 = .ok (.iaload, 1) := by decide +kernel
theorem dX5_haveDoubt_110 : decode cX5_haveDoubt 110 = .ok (.iand, 1) := by decide +kernel
theorem dX5_haveDoubt_111 : decode cX5_haveDoubt 111 = .ok (.istore 8, 2) := by decide +kernel
theorem dX5_haveDoubt_113 : decode cX5_haveDoubt 113 = .ok (.iload 8, 2) := by decide +kernel
theorem dX5_haveDoubt_115 : decode cX5_haveDoubt 115 = .ok (.iload 4, 2) := by decide +kernel
theorem dX5_haveDoubt_117 : decode cX5_haveDoubt 117 = .ok (.iand, 1) := by decide +kernel
theorem dX5_haveDoubt_118 : decode cX5_haveDoubt 118 = .ok (.iload 4, 2) := by decide +kernel
theorem dX5_haveDoubt_120 : decode cX5_haveDoubt 120 = .ok (.if_icmp .ne 20, 3) := by decide +kernel
theorem dX5_haveDoubt_123 : decode cX5_haveDoubt 123 = .ok (.iload 8, 2) := by decide +kernel
theorem dX5_haveDoubt_125 : decode cX5_haveDoubt 125 = .ok (.iload 5, 2) := by decide +kernel
theorem dX5_haveDoubt_127 : decode cX5_haveDoubt 127 = .ok (.iand, 1) := by decide +kernel
theorem dX5_haveDoubt_128 : decode cX5_haveDoubt 128 = .ok (.ifCond .ne 12, 3) := by decide +kernel
theorem dX5_haveDoubt_131 : decode cX5_haveDoubt 131 = .ok (.aload_n 0, 1) := by decide +kernel
theorem dX5_haveDoubt_132 : decode cX5_haveDoubt 132 = .ok (.iload 6, 2) := by decide +kernel
theorem dX5_haveDoubt_134 : decode cX5_haveDoubt 134 = .ok (.iload 7, 2) := by decide +kernel
theorem dX5_haveDoubt_136 : decode cX5_haveDoubt 136 = .ok (.invokevirtual 55, 3) := by decide +kernel
theorem dX5_haveDoubt_139 : decode cX5_haveDoubt 139 = .ok (.ireturn, 1) := by decide +kernel
theorem dX5_haveDoubt_140 : decode cX5_haveDoubt 140 = .ok (.iinc 7 1, 3) := by decide +kernel
theorem dX5_haveDoubt_143 : decode cX5_haveDoubt 143 = .ok (.goto (-65), 3) := by decide +kernel
theorem dX5_haveDoubt_146 : decode cX5_haveDoubt 146 = .ok (.iinc 6 1, 3) := by decide +kernel
theorem dX5_haveDoubt_149 : decode cX5_haveDoubt 149 = .ok (.goto (-86), 3) := by decide +kernel
theorem dX5_haveDoubt_152 : decode cX5_haveDoubt 152 = .ok (.iconst 0, 1) := by decide +kernel
theorem dX5_haveDoubt_153 : decode cX5_haveDoubt 153 = .ok (.ireturn, 1) := by decide +kernel
theorem dX5_foundAt_0 : decode cX5_foundAt 0 = .ok (.aload_n 0, 1) := by decide +kernel
theorem dX5_foundAt_1 : decode cX5_foundAt 1 = .ok (.iload_n 1, 1) := by decide +kernel
theorem dX5_foundAt_2 : decode cX5_foundAt 2 = .ok (.putfield 21, 3) := by decide +kernel
theorem dX5_foundAt_5 : decode cX5_foundAt 5 = .ok (.aload_n 0, 1) := by decide +kernel
theorem dX5_foundAt_6 : decode cX5_foundAt 6 = .ok (.iload_n 2, 1) := by decide +kernel
theorem dX5_foundAt_7 : decode cX5_foundAt 7 = .ok (.putfield 25, 3) := by decide +kernel
theorem dX5_foundAt_10 : decode cX5_foundAt 10 = .ok (.iconst 1, 1) := by decide +kernel
theorem dX5_foundAt_11 : decode cX5_foundAt 11 = .ok (.ireturn, 1) := by decide +kernel
theorem dX5_partOfTuple_0 : decode cX5_partOfTuple 0 = .ok (.iload_n 1, 1) := by decide +kernel
theorem dX5_partOfTuple_1 : decode cX5_partOfTuple 1 = .ok (.tableswitch 66 0 2 #[27, 40, 53], 27) := by decide +kernel
theorem dX5_partOfTuple_28 : decode cX5_partOfTuple 28 = .ok (.aload_n 0, 1) := by decide +kernel
theorem dX5_partOfTuple_29 : decode cX5_partOfTuple 29 = .ok (.getfield 12, 3) := by decide +kernel
theorem dX5_partOfTuple_32 : decode cX5_partOfTuple 32 = .ok (.getfield 75, 3) := by decide +kernel
theorem dX5_partOfTuple_35 : decode cX5_partOfTuple 35 = .ok (.aload_n 0, 1) := by decide +kernel
theorem dX5_partOfTuple_36 : decode cX5_partOfTuple 36 = .ok (.getfield 21, 3) := by decide +kernel
theorem dX5_partOfTuple_39 : decode cX5_partOfTuple 39 = .ok (.iaload, 1) := by decide +kernel
theorem dX5_partOfTuple_40 : decode cX5_partOfTuple 40 = .ok (.ireturn, 1) := by decide +kernel
theorem dX5_partOfTuple_41 : decode cX5_partOfTuple 41 = .ok (.aload_n 0, 1) := by decide +kernel
theorem dX5_partOfTuple_42 : decode cX5_partOfTuple 42 = .ok (.getfield 18, 3) := by decide +kernel
theorem dX5_partOfTuple_45 : decode cX5_partOfTuple 45 = .ok (.getfield 75, 3) := by decide +kernel
theorem dX5_partOfTuple_48 : decode cX5_partOfTuple 48 = .ok (.aload_n 0, 1) := by decide +kernel
theorem dX5_partOfTuple_49 : decode cX5_partOfTuple 49 = .ok (.getfield 25, 3) := by decide +kernel
theorem dX5_partOfTuple_52 : decode cX5_partOfTuple 52 = .ok (.iaload, 1) := by decide +kernel
theorem dX5_partOfTuple_53 : decode cX5_partOfTuple 53 = .ok (.ireturn, 1) := by decide +kernel
theorem dX5_partOfTuple_54 : decode cX5_partOfTuple 54 = .ok (.aload_n 0, 1) := by decide +kernel
theorem dX5_partOfTuple_55 : decode cX5_partOfTuple 55 = .ok (.getfield 12, 3) := by decide +kernel
theorem dX5_partOfTuple_58 : decode cX5_partOfTuple 58 = .ok (.getfield 78, 3) := by decide +kernel
theorem dX5_partOfTuple_61 : decode cX5_partOfTuple 61 = .ok (.aload_n 0, 1) := by decide +kernel
theorem dX5_partOfTuple_62 : decode cX5_partOfTuple 62 = .ok (.getfield 21, 3) := by decide +kernel
theorem dX5_partOfTuple_65 : decode cX5_partOfTuple 65 = .ok (.iaload, 1) := by decide +kernel
theorem dX5_partOfTuple_66 : decode cX5_partOfTuple 66 = .ok (.ireturn, 1) := by decide +kernel
theorem dX5_partOfTuple_67 : decode cX5_partOfTuple 67 = .ok (.aload_n 0, 1) := by decide +kernel
theorem dX5_partOfTuple_68 : decode cX5_partOfTuple 68 = .ok (.getfield 18, 3) := by decide +kernel
theorem dX5_partOfTuple_71 : decode cX5_partOfTuple 71 = .ok (.getfield 78, 3) := by decide +kernel
theorem dX5_partOfTuple_74 : decode cX5_partOfTuple 74 = .ok (.aload_n 0, 1) := by decide +kernel
theorem dX5_partOfTuple_75 : decode cX5_partOfTuple 75 = .ok (.getfield 25, 3) := by decide +kernel
theorem dX5_partOfTuple_78 : decode cX5_partOfTuple 78 = .ok (.iaload, 1) := by decide +kernel
theorem dX5_partOfTuple_79 : decode cX5_partOfTuple 79 = .ok (.ireturn, 1) := by decide +kernel
theorem dX6_init_0 : decode cX6_init 0 = .ok (.aload_n 0, 1) := by decide +kernel
theorem dX6_init_1 : decode cX6_init 1 = .ok (.invokespecial 3, 3) := by decide +kernel
theorem dX6_init_4 : decode cX6_init 4 = .ok (.aload_n 0, 1) := by decide +kernel
theorem dX6_init_5 : decode cX6_init 5 = .ok (.iconst 2, 1) := by decide +kernel
theorem dX6_init_6 : decode cX6_init 6 = .ok (.newarray .int, 2) := by decide +kernel
theorem dX6_init_8 : decode cX6_init 8 = .ok (.putfield 9, 3) := by decide +kernel
theorem dX6_init_11 : decode cX6_init 11 = .ok (.aload_n 0, 1) := by decide +kernel
theorem dX6_init_12 : decode cX6_init 12 = .ok (.iconst 2, 1) := by decide +kernel
theorem dX6_init_13 : decode cX6_init 13 = .ok (.newarray .int, 2) := by decide +kernel
theorem dX6_init_15 : decode cX6_init 15 = .ok (.putfield 15, 3) := by decide +kernel
theorem dX6_init_18 : decode cX6_init 18 = .ok (.aload_n 0, 1) := by decide +kernel
theorem dX6_init_19 : decode cX6_init 19 = .ok (.iconst 1, 1) := by decide +kernel
theorem dX6_init_20 : decode cX6_init 20 = .ok (.putfield 18, 3) := by decide +kernel
theorem dX6_init_23 : decode cX6_init 23 = .ok (.return_, 1) := by decide +kernel
theorem dX6_weightTogether_0 : decode cX6_weightTogether 0 = .ok (.lconst 0, 1) := by decide +kernel
theorem dX6_weightTogether_1 : decode cX6_weightTogether 1 = .ok (.lstore_n 1, 1) := by decide +kernel
theorem dX6_weightTogether_2 : decode cX6_weightTogether 2 = .ok (.iconst 0, 1) := by decide +kernel
theorem dX6_weightTogether_3 : decode cX6_weightTogether 3 = .ok (.istore_n 3, 1) := by decide +kernel
theorem dX6_weightTogether_4 : decode cX6_weightTogether 4 = .ok (.iload_n 3, 1) := by decide +kernel
theorem dX6_weightTogether_5 : decode cX6_weightTogether 5 = .ok (.aload_n 0, 1) := by decide +kernel
theorem dX6_weightTogether_6 : decode cX6_weightTogether 6 = .ok (.getfield 18, 3) := by decide +kernel
theorem dX6_weightTogether_9 : decode cX6_weightTogether 9 = .ok (.if_icmp .ge 19, 3) := by decide +kernel
theorem dX6_weightTogether_12 : decode cX6_weightTogether 12 = .ok (.lload_n 1, 1) := by decide +kernel
theorem dX6_weightTogether_13 : decode cX6_weightTogether 13 = .ok (.aload_n 0, 1) := by decide +kernel
theorem dX6_weightTogether_14 : decode cX6_weightTogether 14 = .ok (.getfield 15, 3) := by decide +kernel
theorem dX6_weightTogether_17 : decode cX6_weightTogether 17 = .ok (.iload_n 3, 1) := by decide +kernel
theorem dX6_weightTogether_18 : decode cX6_weightTogether 18 = .ok (.iaload, 1) := by decide +kernel
theorem dX6_weightTogether_19 : decode cX6_weightTogether 19 = .ok (.i2l, 1) := by decide +kernel
theorem dX6_weightTogether_20 : decode cX6_weightTogether 20 = .ok (.ladd, 1) := by decide +kernel
theorem dX6_weightTogether_21 : decode cX6_weightTogether 21 = .ok (.lstore_n 1, 1) := by decide +kernel
theorem dX6_weightTogether_22 : decode cX6_weightTogether 22 = .ok (.iinc 3 1, 3) := by decide +kernel
theorem dX6_weightTogether_25 : decode cX6_weightTogether 25 = .ok (.goto (-21), 3) := by decide +kernel
theorem dX6_weightTogether_28 : decode cX6_weightTogether 28 = .ok (.lload_n 1, 1) := by decide +kernel
theorem dX6_weightTogether_29 : decode cX6_weightTogether 29 = .ok (.lreturn, 1) := by decide +kernel
theorem dX6_turnRound_0 : decode cX6_turnRound 0 = .ok (.aload_n 0, 1) := by decide +kernel
theorem dX6_turnRound_1 : decode cX6_turnRound 1 = .ok (.getfield 18, 3) := by decide +kernel
theorem dX6_turnRound_4 : decode cX6_turnRound 4 = .ok (.iconst 2, 1) := by decide +kernel
theorem dX6_turnRound_5 : decode cX6_turnRound 5 = .ok (.if_icmp .ge 4, 3) := by decide +kernel
theorem dX6_turnRound_8 : decode cX6_turnRound 8 = .ok (.return_, 1) := by decide +kernel
theorem dX6_turnRound_9 : decode cX6_turnRound 9 = .ok (.aload_n 0, 1) := by decide +kernel
theorem dX6_turnRound_10 : decode cX6_turnRound 10 = .ok (.getfield 9, 3) := by decide +kernel
theorem dX6_turnRound_13 : decode cX6_turnRound 13 = .ok (.iconst 0, 1) := by decide +kernel
theorem dX6_turnRound_14 : decode cX6_turnRound 14 = .ok (.iaload, 1) := by decide +kernel
theorem dX6_turnRound_15 : decode cX6_turnRound 15 = .ok (.istore_n 1, 1) := by decide +kernel
theorem dX6_turnRound_16 : decode cX6_turnRound 16 = .ok (.aload_n 0, 1) := by decide +kernel
theorem dX6_turnRound_17 : decode cX6_turnRound 17 = .ok (.getfield 9, 3) := by decide +kernel
theorem dX6_turnRound_20 : decode cX6_turnRound 20 = .ok (.iconst 0, 1) := by decide +kernel
theorem dX6_turnRound_21 : decode cX6_turnRound 21 = .ok (.aload_n 0, 1) := by decide +kernel
theorem dX6_turnRound_22 : decode cX6_turnRound 22 = .ok (.getfield 9, 3) := by decide +kernel
theorem dX6_turnRound_25 : decode cX6_turnRound 25 = .ok (.iconst 1, 1) := by decide +kernel
theorem dX6_turnRound_26 : decode cX6_turnRound 26 = .ok (.iaload, 1) := by decide +kernel
theorem dX6_turnRound_27 : decode cX6_turnRound 27 = .ok (.iastore, 1) := by decide +kernel
theorem dX6_turnRound_28 : decode cX6_turnRound 28 = .ok (.aload_n 0, 1) := by decide +kernel
theorem dX6_turnRound_29 : decode cX6_turnRound 29 = .ok (.getfield 9, 3) := by decide +kernel
theorem dX6_turnRound_32 : decode cX6_turnRound 32 = .ok (.iconst 1, 1) := by decide +kernel
theorem dX6_turnRound_33 : decode cX6_turnRound 33 = .ok (.iload_n 1, 1) := by decide +kernel
theorem dX6_turnRound_34 : decode cX6_turnRound 34 = .ok (.iastore, 1) := by decide +kernel
theorem dX6_turnRound_35 : decode cX6_turnRound 35 = .ok (.aload_n 0, 1) := by decide +kernel
theorem dX6_turnRound_36 : decode cX6_turnRound 36 = .ok (.getfield 15, 3) := by decide +kernel
theorem dX6_turnRound_39 : decode cX6_turnRound 39 = .ok (.iconst 0, 1) := by decide +kernel
theorem dX6_turnRound_40 : decode cX6_turnRound 40 = .ok (.iaload, 1) := by decide +kernel
theorem dX6_turnRound_41 : decode cX6_turnRound 41 = .ok (.istore_n 2, 1) := by decide +kernel
theorem dX6_turnRound_42 : decode cX6_turnRound 42 = .ok (.aload_n 0, 1) := by decide +kernel
theorem dX6_turnRound_43 : decode cX6_turnRound 43 = .ok (.getfield 15, 3) := by decide +kernel
theorem dX6_turnRound_46 : decode cX6_turnRound 46 = .ok (.iconst 0, 1) := by decide +kernel
theorem dX6_turnRound_47 : decode cX6_turnRound 47 = .ok (.aload_n 0, 1) := by decide +kernel
theorem dX6_turnRound_48 : decode cX6_turnRound 48 = .ok (.getfield 15, 3) := by decide +kernel
theorem dX6_turnRound_51 : decode cX6_turnRound 51 = .ok (.iconst 1, 1) := by decide +kernel
theorem dX6_turnRound_52 : decode cX6_turnRound 52 = .ok (.iaload, 1) := by decide +kernel
theorem dX6_turnRound_53 : decode cX6_turnRound 53 = .ok (.iastore, 1) := by decide +kernel
theorem dX6_turnRound_54 : decode cX6_turnRound 54 = .ok (.aload_n 0, 1) := by decide +kernel
theorem dX6_turnRound_55 : decode cX6_turnRound 55 = .ok (.getfield 15, 3) := by decide +kernel
theorem dX6_turnRound_58 : decode cX6_turnRound 58 = .ok (.iconst 1, 1) := by decide +kernel
theorem dX6_turnRound_59 : decode cX6_turnRound 59 = .ok (.iload_n 2, 1) := by decide +kernel
theorem dX6_turnRound_60 : decode cX6_turnRound 60 = .ok (.iastore, 1) := by decide +kernel
theorem dX6_turnRound_61 : decode cX6_turnRound 61 = .ok (.return_, 1) := by decide +kernel
theorem dX7_init_0 : decode cX7_init 0 = .ok (.aload_n 0, 1) := by decide +kernel
theorem dX7_init_1 : decode cX7_init 1 = .ok (.invokespecial 3, 3) := by decide +kernel
theorem dX7_init_4 : decode cX7_init 4 = .ok (.aload_n 0, 1) := by decide +kernel
theorem dX7_init_5 : decode cX7_init 5 = .ok (.sipush 300, 3) := by decide +kernel
theorem dX7_init_8 : decode cX7_init 8 = .ok (.newarray .int, 2) := by decide +kernel
theorem dX7_init_10 : decode cX7_init 10 = .ok (.putfield 9, 3) := by decide +kernel
theorem dX7_init_13 : decode cX7_init 13 = .ok (.aload_n 0, 1) := by decide +kernel
theorem dX7_init_14 : decode cX7_init 14 = .ok (.sipush 300, 3) := by decide +kernel
theorem dX7_init_17 : decode cX7_init 17 = .ok (.newarray .int, 2) := by decide +kernel
theorem dX7_init_19 : decode cX7_init 19 = .ok (.putfield 15, 3) := by decide +kernel
theorem dX7_init_22 : decode cX7_init 22 = .ok (.aload_n 0, 1) := by decide +kernel
theorem dX7_init_23 : decode cX7_init 23 = .ok (.iconst 0, 1) := by decide +kernel
theorem dX7_init_24 : decode cX7_init 24 = .ok (.putfield 18, 3) := by decide +kernel
theorem dX7_init_27 : decode cX7_init 27 = .ok (.return_, 1) := by decide +kernel
theorem dX7_holds_0 : decode cX7_holds 0 = .ok (.iload_n 1, 1) := by decide +kernel
theorem dX7_holds_1 : decode cX7_holds 1 = .ok (.ifCond .lt 15, 3) := by decide +kernel
theorem dX7_holds_4 : decode cX7_holds 4 = .ok (.iload_n 1, 1) := by decide +kernel
theorem dX7_holds_5 : decode cX7_holds 5 = .ok (.aload_n 0, 1) := by decide +kernel
theorem dX7_holds_6 : decode cX7_holds 6 = .ok (.getfield 18, 3) := by decide +kernel
theorem dX7_holds_9 : decode cX7_holds 9 = .ok (.if_icmp .ge 7, 3) := by decide +kernel
theorem dX7_holds_12 : decode cX7_holds 12 = .ok (.iconst 1, 1) := by decide +kernel
theorem dX7_holds_13 : decode cX7_holds 13 = .ok (.goto 4, 3) := by decide +kernel
theorem dX7_holds_16 : decode cX7_holds 16 = .ok (.iconst 0, 1) := by decide +kernel
theorem dX7_holds_17 : decode cX7_holds 17 = .ok (.ireturn, 1) := by decide +kernel
theorem dX7_bring_0 : decode cX7_bring 0 = .ok (.aload_n 0, 1) := by decide +kernel
theorem dX7_bring_1 : decode cX7_bring 1 = .ok (.getfield 18, 3) := by decide +kernel
theorem dX7_bring_4 : decode cX7_bring 4 = .ok (.sipush 300, 3) := by decide +kernel
theorem dX7_bring_7 : decode cX7_bring 7 = .ok (.if_icmp .lt 5, 3) := by decide +kernel
theorem dX7_bring_10 : decode cX7_bring 10 = .ok (.iconst (-1), 1) := by decide +kernel
theorem dX7_bring_11 : decode cX7_bring 11 = .ok (.ireturn, 1) := by decide +kernel
theorem dX7_bring_12 : decode cX7_bring 12 = .ok (.aload_n 0, 1) := by decide +kernel
theorem dX7_bring_13 : decode cX7_bring 13 = .ok (.getfield 9, 3) := by decide +kernel
theorem dX7_bring_16 : decode cX7_bring 16 = .ok (.aload_n 0, 1) := by decide +kernel
theorem dX7_bring_17 : decode cX7_bring 17 = .ok (.getfield 18, 3) := by decide +kernel
theorem dX7_bring_20 : decode cX7_bring 20 = .ok (.iload_n 1, 1) := by decide +kernel
theorem dX7_bring_21 : decode cX7_bring 21 = .ok (.iastore, 1) := by decide +kernel
theorem dX7_bring_22 : decode cX7_bring 22 = .ok (.aload_n 0, 1) := by decide +kernel
theorem dX7_bring_23 : decode cX7_bring 23 = .ok (.getfield 15, 3) := by decide +kernel
theorem dX7_bring_26 : decode cX7_bring 26 = .ok (.aload_n 0, 1) := by decide +kernel
theorem dX7_bring_27 : decode cX7_bring 27 = .ok (.getfield 18, 3) := by decide +kernel
theorem dX7_bring_30 : decode cX7_bring 30 = .ok (.iload_n 2, 1) := by decide +kernel
theorem dX7_bring_31 : decode cX7_bring 31 = .ok (.iastore, 1) := by decide +kernel
theorem dX7_bring_32 : decode cX7_bring 32 = .ok (.aload_n 0, 1) := by decide +kernel
theorem dX7_bring_33 : decode cX7_bring 33 = .ok (.dup, 1) := by decide +kernel
theorem dX7_bring_34 : decode cX7_bring 34 = .ok (.getfield 18, 3) := by decide +kernel
theorem dX7_bring_37 : decode cX7_bring 37 = .ok (.iconst 1, 1) := by decide +kernel
theorem dX7_bring_38 : decode cX7_bring 38 = .ok (.iadd, 1) := by decide +kernel
theorem dX7_bring_39 : decode cX7_bring 39 = .ok (.putfield 18, 3) := by decide +kernel
theorem dX7_bring_42 : decode cX7_bring 42 = .ok (.aload_n 0, 1) := by decide +kernel
theorem dX7_bring_43 : decode cX7_bring 43 = .ok (.getfield 18, 3) := by decide +kernel
theorem dX7_bring_46 : decode cX7_bring 46 = .ok (.iconst 1, 1) := by decide +kernel
theorem dX7_bring_47 : decode cX7_bring 47 = .ok (.isub, 1) := by decide +kernel
theorem dX7_bring_48 : decode cX7_bring 48 = .ok (.ireturn, 1) := by decide +kernel
theorem dX8_init_0 : decode cX8_init 0 = .ok (.aload_n 0, 1) := by decide +kernel
theorem dX8_init_1 : decode cX8_init 1 = .ok (.invokespecial 3, 3) := by decide +kernel
theorem dX8_init_4 : decode cX8_init 4 = .ok (.aload_n 0, 1) := by decide +kernel
theorem dX8_init_5 : decode cX8_init 5 = .ok (.bipush 12, 2) := by decide +kernel
theorem dX8_init_7 : decode cX8_init 7 = .ok (.newarray .int, 2) := by decide +kernel
theorem dX8_init_9 : decode cX8_init 9 = .ok (.putfield 9, 3) := by decide +kernel
theorem dX8_init_12 : decode cX8_init 12 = .ok (.aload_n 0, 1) := by decide +kernel
theorem dX8_init_13 : decode cX8_init 13 = .ok (.bipush 16, 2) := by decide +kernel
theorem dX8_init_15 : decode cX8_init 15 = .ok (.newarray .int, 2) := by decide +kernel
theorem dX8_init_17 : decode cX8_init 17 = .ok (.putfield 15, 3) := by decide +kernel
theorem dX8_init_20 : decode cX8_init 20 = .ok (.aload_n 0, 1) := by decide +kernel
theorem dX8_init_21 : decode cX8_init 21 = .ok (.bipush 16, 2) := by decide +kernel
theorem dX8_init_23 : decode cX8_init 23 = .ok (.newarray .int, 2) := by decide +kernel
theorem dX8_init_25 : decode cX8_init 25 = .ok (.putfield 18, 3) := by decide +kernel
theorem dX8_init_28 : decode cX8_init 28 = .ok (.aload_n 0, 1) := by decide +kernel
theorem dX8_init_29 : decode cX8_init 29 = .ok (.iconst 0, 1) := by decide +kernel
theorem dX8_init_30 : decode cX8_init 30 = .ok (.putfield 21, 3) := by decide +kernel
theorem dX8_init_33 : decode cX8_init 33 = .ok (.aload_n 0, 1) := by decide +kernel
theorem dX8_init_34 : decode cX8_init 34 = .ok (.iconst 0, 1) := by decide +kernel
theorem dX8_init_35 : decode cX8_init 35 = .ok (.putfield 25, 3) := by decide +kernel
theorem dX8_init_38 : decode cX8_init 38 = .ok (.aload_n 0, 1) := by decide +kernel
theorem dX8_init_39 : decode cX8_init 39 = .ok (.getfield 9, 3) := by decide +kernel
theorem dX8_init_42 : decode cX8_init 42 = .ok (.iconst (-1), 1) := by decide +kernel
theorem dX8_init_43 : decode cX8_init 43 = .ok (.invokestatic 29, 3) := by decide +kernel
theorem dX8_init_46 : decode cX8_init 46 = .ok (.return_, 1) := by decide +kernel
theorem dX8_addTrait_0 : decode cX8_addTrait 0 = .ok (.iconst 1, 1) := by decide +kernel
theorem dX8_addTrait_1 : decode cX8_addTrait 1 = .ok (.iload_n 2, 1) := by decide +kernel
theorem dX8_addTrait_2 : decode cX8_addTrait 2 = .ok (.ishl, 1) := by decide +kernel
theorem dX8_addTrait_3 : decode cX8_addTrait 3 = .ok (.istore_n 3, 1) := by decide +kernel
theorem dX8_addTrait_4 : decode cX8_addTrait 4 = .ok (.aload_n 0, 1) := by decide +kernel
theorem dX8_addTrait_5 : decode cX8_addTrait 5 = .ok (.getfield 15, 3) := by decide +kernel
theorem dX8_addTrait_8 : decode cX8_addTrait 8 = .ok (.iload_n 1, 1) := by decide +kernel
theorem dX8_addTrait_9 : decode cX8_addTrait 9 = .ok (.iaload, 1) := by decide +kernel
theorem dX8_addTrait_10 : decode cX8_addTrait 10 = .ok (.iload_n 3, 1) := by decide +kernel
theorem dX8_addTrait_11 : decode cX8_addTrait 11 = .ok (.iand, 1) := by decide +kernel
theorem dX8_addTrait_12 : decode cX8_addTrait 12 = .ok (.ifCond .eq 5, 3) := by decide +kernel
theorem dX8_addTrait_15 : decode cX8_addTrait 15 = .ok (.iconst 0, 1) := by decide +kernel
theorem dX8_addTrait_16 : decode cX8_addTrait 16 = .ok (.ireturn, 1) := by decide +kernel
theorem dX8_addTrait_17 : decode cX8_addTrait 17 = .ok (.aload_n 0, 1) := by decide +kernel
theorem dX8_addTrait_18 : decode cX8_addTrait 18 = .ok (.getfield 15, 3) := by decide +kernel
theorem dX8_addTrait_21 : decode cX8_addTrait 21 = .ok (.iload_n 1, 1) := by decide +kernel
theorem dX8_addTrait_22 : decode cX8_addTrait 22 = .ok (.dup2, 1) := by decide +kernel
theorem dX8_addTrait_23 : decode cX8_addTrait 23 = .ok (.iaload, 1) := by decide +kernel
theorem dX8_addTrait_24 : decode cX8_addTrait 24 = .ok (.iload_n 3, 1) := by decide +kernel
theorem dX8_addTrait_25 : decode cX8_addTrait 25 = .ok (.ior, 1) := by decide +kernel
theorem dX8_addTrait_26 : decode cX8_addTrait 26 = .ok (.iastore, 1) := by decide +kernel
theorem dX8_addTrait_27 : decode cX8_addTrait 27 = .ok (.iconst 1, 1) := by decide +kernel
theorem dX8_addTrait_28 : decode cX8_addTrait 28 = .ok (.ireturn, 1) := by decide +kernel
theorem dX8_isAbstract_0 : decode cX8_isAbstract 0 = .ok (.aload_n 0, 1) := by decide +kernel
theorem dX8_isAbstract_1 : decode cX8_isAbstract 1 = .ok (.getfield 21, 3) := by decide +kernel
theorem dX8_isAbstract_4 : decode cX8_isAbstract 4 = .ok (.iconst 1, 1) := by decide +kernel
theorem dX8_isAbstract_5 : decode cX8_isAbstract 5 = .ok (.iload_n 1, 1) := by decide +kernel
theorem dX8_isAbstract_6 : decode cX8_isAbstract 6 = .ok (.ishl, 1) := by decide +kernel
theorem dX8_isAbstract_7 : decode cX8_isAbstract 7 = .ok (.iand, 1) := by decide +kernel
theorem dX8_isAbstract_8 : decode cX8_isAbstract 8 = .ok (.ifCond .eq 7, 3) := by decide +kernel
theorem dX8_isAbstract_11 : decode cX8_isAbstract 11 = .ok (.iconst 1, 1) := by decide +kernel
theorem dX8_isAbstract_12 : decode cX8_isAbstract 12 = .ok (.goto 4, 3) := by decide +kernel
theorem dX8_isAbstract_15 : decode cX8_isAbstract 15 = .ok (.iconst 0, 1) := by decide +kernel
theorem dX8_isAbstract_16 : decode cX8_isAbstract 16 = .ok (.ireturn, 1) := by decide +kernel
theorem dX8_findReach_0 : decode cX8_findReach 0 = .ok (.iconst 0, 1) := by decide +kernel
theorem dX8_findReach_1 : decode cX8_findReach 1 = .ok (.istore_n 1, 1) := by decide +kernel
theorem dX8_findReach_2 : decode cX8_findReach 2 = .ok (.iload_n 1, 1) := by decide +kernel
theorem dX8_findReach_3 : decode cX8_findReach 3 = .ok (.bipush 16, 2) := by decide +kernel
theorem dX8_findReach_5 : decode cX8_findReach 5 = .ok (.if_icmp .ge 54, 3) := by decide +kernel
theorem dX8_findReach_8 : decode cX8_findReach 8 = .ok (.aload_n 0, 1) := by decide +kernel
theorem dX8_findReach_9 : decode cX8_findReach 9 = .ok (.getfield 18, 3) := by decide +kernel
theorem dX8_findReach_12 : decode cX8_findReach 12 = .ok (.iload_n 1, 1) := by decide +kernel
theorem dX8_findReach_13 : decode cX8_findReach 13 = .ok (.aload_n 0, 1) := by decide +kernel
theorem dX8_findReach_14 : decode cX8_findReach 14 = .ok (.getfield 15, 3) := by decide +kernel
theorem dX8_findReach_17 : decode cX8_findReach 17 = .ok (.iload_n 1, 1) := by decide +kernel
theorem dX8_findReach_18 : decode cX8_findReach 18 = .ok (.iaload, 1) := by decide +kernel
theorem dX8_findReach_19 : decode cX8_findReach 19 = .ok (.iastore, 1) := by decide +kernel
theorem dX8_findReach_20 : decode cX8_findReach 20 = .ok (.iload_n 1, 1) := by decide +kernel
theorem dX8_findReach_21 : decode cX8_findReach 21 = .ok (.bipush 12, 2) := by decide +kernel
theorem dX8_findReach_23 : decode cX8_findReach 23 = .ok (.if_icmp .ge 30, 3) := by decide +kernel
theorem dX8_findReach_26 : decode cX8_findReach 26 = .ok (.aload_n 0, 1) := by decide +kernel
theorem dX8_findReach_27 : decode cX8_findReach 27 = .ok (.getfield 9, 3) := by decide +kernel
theorem dX8_findReach_30 : decode cX8_findReach 30 = .ok (.iload_n 1, 1) := by decide +kernel
theorem dX8_findReach_31 : decode cX8_findReach 31 = .ok (.iaload, 1) := by decide +kernel
theorem dX8_findReach_32 : decode cX8_findReach 32 = .ok (.iconst (-1), 1) := by decide +kernel
theorem dX8_findReach_33 : decode cX8_findReach 33 = .ok (.if_icmp .eq 20, 3) := by decide +kernel
theorem dX8_findReach_36 : decode cX8_findReach 36 = .ok (.aload_n 0, 1) := by decide +kernel
theorem dX8_findReach_37 : decode cX8_findReach 37 = .ok (.getfield 18, 3) := by decide +kernel
theorem dX8_findReach_40 : decode cX8_findReach 40 = .ok (.iload_n 1, 1) := by decide +kernel
theorem dX8_findReach_41 : decode cX8_findReach 41 = .ok (.dup2, 1) := by decide +kernel
theorem dX8_findReach_42 : decode cX8_findReach 42 = .ok (.iaload, 1) := by decide +kernel
theorem dX8_findReach_43 : decode cX8_findReach 43 = .ok (.iconst 1, 1) := by decide +kernel
theorem dX8_findReach_44 : decode cX8_findReach 44 = .ok (.aload_n 0, 1) := by decide +kernel
theorem dX8_findReach_45 : decode cX8_findReach 45 = .ok (.getfield 9, 3) := by decide +kernel
theorem dX8_findReach_48 : decode cX8_findReach 48 = .ok (.iload_n 1, 1) := by decide +kernel
theorem dX8_findReach_49 : decode cX8_findReach 49 = .ok (.iaload, 1) := by decide +kernel
theorem dX8_findReach_50 : decode cX8_findReach 50 = .ok (.ishl, 1) := by decide +kernel
theorem dX8_findReach_51 : decode cX8_findReach 51 = .ok (.ior, 1) := by decide +kernel
theorem dX8_findReach_52 : decode cX8_findReach 52 = .ok (.iastore, 1) := by decide +kernel
theorem dX8_findReach_53 : decode cX8_findReach 53 = .ok (.iinc 1 1, 3) := by decide +kernel
theorem dX8_findReach_56 : decode cX8_findReach 56 = .ok (.goto (-54), 3) := by decide +kernel
theorem dX8_findReach_59 : decode cX8_findReach 59 = .ok (.iconst 0, 1) := by decide +kernel
theorem dX8_findReach_60 : decode cX8_findReach 60 = .ok (.istore_n 1, 1) := by decide +kernel
theorem dX8_findReach_61 : decode cX8_findReach 61 = .ok (.iload_n 1, 1) := by decide +kernel
theorem dX8_findReach_62 : decode cX8_findReach 62 = .ok (.bipush 16, 2) := by decide +kernel
theorem dX8_findReach_64 : decode cX8_findReach 64 = .ok (.if_icmp .ge 51, 3) := by decide +kernel
theorem dX8_findReach_67 : decode cX8_findReach 67 = .ok (.iconst 0, 1) := by decide +kernel
theorem dX8_findReach_68 : decode cX8_findReach 68 = .ok (.istore_n 2, 1) := by decide +kernel
theorem dX8_findReach_69 : decode cX8_findReach 69 = .ok (.iload_n 2, 1) := by decide +kernel
theorem dX8_findReach_70 : decode cX8_findReach 70 = .ok (.bipush 16, 2) := by decide +kernel
theorem dX8_findReach_72 : decode cX8_findReach 72 = .ok (.if_icmp .ge 37, 3) := by decide +kernel
theorem dX8_findReach_75 : decode cX8_findReach 75 = .ok (.aload_n 0, 1) := by decide +kernel
theorem dX8_findReach_76 : decode cX8_findReach 76 = .ok (.getfield 18, 3) := by decide +kernel
theorem dX8_findReach_79 : decode cX8_findReach 79 = .ok (.iload_n 2, 1) := by decide +kernel
theorem dX8_findReach_80 : decode cX8_findReach 80 = .ok (.iaload, 1) := by decide +kernel
theorem dX8_findReach_81 : decode cX8_findReach 81 = .ok (.iconst 1, 1) := by decide +kernel
theorem dX8_findReach_82 : decode cX8_findReach 82 = .ok (.iload_n 1, 1) := by decide +kernel
theorem dX8_findReach_83 : decode cX8_findReach 83 = .ok (.ishl, 1) := by decide +kernel
theorem dX8_findReach_84 : decode cX8_findReach 84 = .ok (.iand, 1) := by decide +kernel
theorem dX8_findReach_85 : decode cX8_findReach 85 = .ok (.ifCond .eq 18, 3) := by decide +kernel
theorem dX8_findReach_88 : decode cX8_findReach 88 = .ok (.aload_n 0, 1) := by decide +kernel
theorem dX8_findReach_89 : decode cX8_findReach 89 = .ok (.getfield 18, 3) := by decide +kernel
theorem dX8_findReach_92 : decode cX8_findReach 92 = .ok (.iload_n 2, 1) := by decide +kernel
theorem dX8_findReach_93 : decode cX8_findReach 93 = .ok (.dup2, 1) := by decide +kernel
theorem dX8_findReach_94 : decode cX8_findReach 94 = .ok (.iaload, 1) := by decide +kernel
theorem dX8_findReach_95 : decode cX8_findReach 95 = .ok (.aload_n 0, 1) := by decide +kernel
theorem dX8_findReach_96 : decode cX8_findReach 96 = .ok (.getfield 18, 3) := by decide +kernel
theorem dX8_findReach_99 : decode cX8_findReach 99 = .ok (.iload_n 1, 1) := by decide +kernel
theorem dX8_findReach_100 : decode cX8_findReach 100 = .ok (.iaload, 1) := by decide +kernel
theorem dX8_findReach_101 : decode cX8_findReach 101 = .ok (.ior, 1) := by decide +kernel
theorem dX8_findReach_102 : decode cX8_findReach 102 = .ok (.iastore, 1) := by decide +kernel
theorem dX8_findReach_103 : decode cX8_findReach 103 = .ok (.iinc 2 1, 3) := by decide +kernel
theorem dX8_findReach_106 : decode cX8_findReach 106 = .ok (.goto (-37), 3) := by decide +kernel
theorem dX8_findReach_109 : decode cX8_findReach 109 = .ok (.iinc 1 1, 3) := by decide +kernel
theorem dX8_findReach_112 : decode cX8_findReach 112 = .ok (.goto (-51), 3) := by decide +kernel
theorem dX8_findReach_115 : decode cX8_findReach 115 = .ok (.return_, 1) := by decide +kernel
theorem dX8_goesRound_0 : decode cX8_goesRound 0 = .ok (.iconst 0, 1) := by decide +kernel
theorem dX8_goesRound_1 : decode cX8_goesRound 1 = .ok (.istore_n 1, 1) := by decide +kernel
theorem dX8_goesRound_2 : decode cX8_goesRound 2 = .ok (.iload_n 1, 1) := by decide +kernel
theorem dX8_goesRound_3 : decode cX8_goesRound 3 = .ok (.bipush 16, 2) := by decide +kernel
theorem dX8_goesRound_5 : decode cX8_goesRound 5 = .ok (.if_icmp .ge 24, 3) := by decide +kernel
theorem dX8_goesRound_8 : decode cX8_goesRound 8 = .ok (.aload_n 0, 1) := by decide +kernel
theorem dX8_goesRound_9 : decode cX8_goesRound 9 = .ok (.getfield 18, 3) := by decide +kernel
theorem dX8_goesRound_12 : decode cX8_goesRound 12 = .ok (.iload_n 1, 1) := by decide +kernel
theorem dX8_goesRound_13 : decode cX8_goesRound 13 = .ok (.iaload, 1) := by decide +kernel
theorem dX8_goesRound_14 : decode cX8_goesRound 14 = .ok (.iconst 1, 1) := by decide +kernel
theorem dX8_goesRound_15 : decode cX8_goesRound 15 = .ok (.iload_n 1, 1) := by decide +kernel
theorem dX8_goesRound_16 : decode cX8_goesRound 16 = .ok (.ishl, 1) := by decide +kernel
theorem dX8_goesRound_17 : decode cX8_goesRound 17 = .ok (.iand, 1) := by decide +kernel
theorem dX8_goesRound_18 : decode cX8_goesRound 18 = .ok (.ifCond .eq 5, 3) := by decide +kernel
theorem dX8_goesRound_21 : decode cX8_goesRound 21 = .ok (.iconst 1, 1) := by decide +kernel
theorem dX8_goesRound_22 : decode cX8_goesRound 22 = .ok (.ireturn, 1) := by decide +kernel
theorem dX8_goesRound_23 : decode cX8_goesRound 23 = .ok (.iinc 1 1, 3) := by decide +kernel
theorem dX8_goesRound_26 : decode cX8_goesRound 26 = .ok (.goto (-24), 3) := by decide +kernel
theorem dX8_goesRound_29 : decode cX8_goesRound 29 = .ok (.iconst 0, 1) := by decide +kernel
theorem dX8_goesRound_30 : decode cX8_goesRound 30 = .ok (.ireturn, 1) := by decide +kernel
theorem dX8_isBelow_0 : decode cX8_isBelow 0 = .ok (.iload_n 1, 1) := by decide +kernel
theorem dX8_isBelow_1 : decode cX8_isBelow 1 = .ok (.iload_n 2, 1) := by decide +kernel
theorem dX8_isBelow_2 : decode cX8_isBelow 2 = .ok (.if_icmp .eq 16, 3) := by decide +kernel
theorem dX8_isBelow_5 : decode cX8_isBelow 5 = .ok (.aload_n 0, 1) := by decide +kernel
theorem dX8_isBelow_6 : decode cX8_isBelow 6 = .ok (.getfield 18, 3) := by decide +kernel
theorem dX8_isBelow_9 : decode cX8_isBelow 9 = .ok (.iload_n 1, 1) := by decide +kernel
theorem dX8_isBelow_10 : decode cX8_isBelow 10 = .ok (.iaload, 1) := by decide +kernel
theorem dX8_isBelow_11 : decode cX8_isBelow 11 = .ok (.iconst 1, 1) := by decide +kernel
theorem dX8_isBelow_12 : decode cX8_isBelow 12 = .ok (.iload_n 2, 1) := by decide +kernel
theorem dX8_isBelow_13 : decode cX8_isBelow 13 = .ok (.ishl, 1) := by decide +kernel
theorem dX8_isBelow_14 : decode cX8_isBelow 14 = .ok (.iand, 1) := by decide +kernel
theorem dX8_isBelow_15 : decode cX8_isBelow 15 = .ok (.ifCond .eq 7, 3) := by decide +kernel
theorem dX8_isBelow_18 : decode cX8_isBelow 18 = .ok (.iconst 1, 1) := by decide +kernel
theorem dX8_isBelow_19 : decode cX8_isBelow 19 = .ok (.goto 4, 3) := by decide +kernel
theorem dX8_isBelow_22 : decode cX8_isBelow 22 = .ok (.iconst 0, 1) := by decide +kernel
theorem dX8_isBelow_23 : decode cX8_isBelow 23 = .ok (.ireturn, 1) := by decide +kernel
theorem dX9_init_0 : decode cX9_init 0 = .ok (.aload_n 0, 1) := by decide +kernel
theorem dX9_init_1 : decode cX9_init 1 = .ok (.invokespecial 3, 3) := by decide +kernel
theorem dX9_init_4 : decode cX9_init 4 = .ok (.aload_n 0, 1) := by decide +kernel
theorem dX9_init_5 : decode cX9_init 5 = .ok (.new 9, 3) := by decide +kernel
theorem dX9_init_8 : decode cX9_init 8 = .ok (.dup, 1) := by decide +kernel
theorem dX9_init_9 : decode cX9_init 9 = .ok (.invokespecial 11, 3) := by decide +kernel
theorem dX9_init_12 : decode cX9_init 12 = .ok (.putfield 12, 3) := by decide +kernel
theorem dX9_init_15 : decode cX9_init 15 = .ok (.aload_n 0, 1) := by decide +kernel
theorem dX9_init_16 : decode cX9_init 16 = .ok (.new 16, 3) := by decide +kernel
theorem dX9_init_19 : decode cX9_init 19 = .ok (.dup, 1) := by decide +kernel
theorem dX9_init_20 : decode cX9_init 20 = .ok (.invokespecial 18, 3) := by decide +kernel
theorem dX9_init_23 : decode cX9_init 23 = .ok (.putfield 19, 3) := by decide +kernel
theorem dX9_init_26 : decode cX9_init 26 = .ok (.aload_n 0, 1) := by decide +kernel
theorem dX9_init_27 : decode cX9_init 27 = .ok (.iconst 4, 1) := by decide +kernel
theorem dX9_init_28 : decode cX9_init 28 = .ok (.anewarray 23, 3) := by decide +kernel
theorem dX9_init_31 : decode cX9_init 31 = .ok (.putfield 25, 3) := by decide +kernel
theorem dX9_init_34 : decode cX9_init 34 = .ok (.aload_n 0, 1) := by decide +kernel
theorem dX9_init_35 : decode cX9_init 35 = .ok (.bipush 40, 2) := by decide +kernel
theorem dX9_init_37 : decode cX9_init 37 = .ok (.anewarray 29, 3) := by decide +kernel
theorem dX9_init_40 : decode cX9_init 40 = .ok (.putfield 31, 3) := by decide +kernel
theorem dX9_init_43 : decode cX9_init 43 = .ok (.aload_n 0, 1) := by decide +kernel
theorem dX9_init_44 : decode cX9_init 44 = .ok (.iconst 2, 1) := by decide +kernel
theorem dX9_init_45 : decode cX9_init 45 = .ok (.newarray .int, 2) := by decide +kernel
theorem dX9_init_47 : decode cX9_init 47 = .ok (.dup, 1) := by decide +kernel
theorem dX9_init_48 : decode cX9_init 48 = .ok (.iconst 0, 1) := by decide +kernel
theorem dX9_init_49 : decode cX9_init 49 = .ok (.iconst (-1), 1) := by decide +kernel
theorem dX9_init_50 : decode cX9_init 50 = .ok (.iastore, 1) := by decide +kernel
theorem dX9_init_51 : decode cX9_init 51 = .ok (.dup, 1) := by decide +kernel
theorem dX9_init_52 : decode cX9_init 52 = .ok (.iconst 1, 1) := by decide +kernel
theorem dX9_init_53 : decode cX9_init 53 = .ok (.iconst (-1), 1) := by decide +kernel
theorem dX9_init_54 : decode cX9_init 54 = .ok (.iastore, 1) := by decide +kernel
theorem dX9_init_55 : decode cX9_init 55 = .ok (.putfield 35, 3) := by decide +kernel
theorem dX9_init_58 : decode cX9_init 58 = .ok (.aload_n 0, 1) := by decide +kernel
theorem dX9_init_59 : decode cX9_init 59 = .ok (.bipush 8, 2) := by decide +kernel
theorem dX9_init_61 : decode cX9_init 61 = .ok (.newarray .int, 2) := by decide +kernel
theorem dX9_init_63 : decode cX9_init 63 = .ok (.putfield 39, 3) := by decide +kernel
theorem dX9_init_66 : decode cX9_init 66 = .ok (.aload_n 0, 1) := by decide +kernel
theorem dX9_init_67 : decode cX9_init 67 = .ok (.new 42, 3) := by decide +kernel
theorem dX9_init_70 : decode cX9_init 70 = .ok (.dup, 1) := by decide +kernel
theorem dX9_init_71 : decode cX9_init 71 = .ok (.invokespecial 44, 3) := by decide +kernel
theorem dX9_init_74 : decode cX9_init 74 = .ok (.putfield 45, 3) := by decide +kernel
theorem dX9_init_77 : decode cX9_init 77 = .ok (.aload_n 0, 1) := by decide +kernel
theorem dX9_init_78 : decode cX9_init 78 = .ok (.new 49, 3) := by decide +kernel
theorem dX9_init_81 : decode cX9_init 81 = .ok (.dup, 1) := by decide +kernel
theorem dX9_init_82 : decode cX9_init 82 = .ok (.invokespecial 51, 3) := by decide +kernel
theorem dX9_init_85 : decode cX9_init 85 = .ok (.putfield 52, 3) := by decide +kernel
theorem dX9_init_88 : decode cX9_init 88 = .ok (.aload_n 0, 1) := by decide +kernel
theorem dX9_init_89 : decode cX9_init 89 = .ok (.new 56, 3) := by decide +kernel
theorem dX9_init_92 : decode cX9_init 92 = .ok (.dup, 1) := by decide +kernel
theorem dX9_init_93 : decode cX9_init 93 = .ok (.invokespecial 58, 3) := by decide +kernel
theorem dX9_init_96 : decode cX9_init 96 = .ok (.putfield 59, 3) := by decide +kernel
theorem dX9_init_99 : decode cX9_init 99 = .ok (.aload_n 0, 1) := by decide +kernel
theorem dX9_init_100 : decode cX9_init 100 = .ok (.iconst 0, 1) := by decide +kernel
theorem dX9_init_101 : decode cX9_init 101 = .ok (.putfield 63, 3) := by decide +kernel
theorem dX9_init_104 : decode cX9_init 104 = .ok (.aload_n 0, 1) := by decide +kernel
theorem dX9_init_105 : decode cX9_init 105 = .ok (.iconst 0, 1) := by decide +kernel
theorem dX9_init_106 : decode cX9_init 106 = .ok (.putfield 67, 3) := by decide +kernel
theorem dX9_init_109 : decode cX9_init 109 = .ok (.aload_n 0, 1) := by decide +kernel
theorem dX9_init_110 : decode cX9_init 110 = .ok (.iconst (-1), 1) := by decide +kernel
theorem dX9_init_111 : decode cX9_init 111 = .ok (.putfield 70, 3) := by decide +kernel
theorem dX9_init_114 : decode cX9_init 114 = .ok (.return_, 1) := by decide +kernel
theorem dX9_parent_0 : decode cX9_parent 0 = .ok (.iload_n 1, 1) := by decide +kernel
theorem dX9_parent_1 : decode cX9_parent 1 = .ok (.invokestatic 73, 3) := by decide +kernel
theorem dX9_parent_4 : decode cX9_parent 4 = .ok (.ifCond .eq 15, 3) := by decide +kernel
theorem dX9_parent_7 : decode cX9_parent 7 = .ok (.iload_n 2, 1) := by decide +kernel
theorem dX9_parent_8 : decode cX9_parent 8 = .ok (.iconst (-1), 1) := by decide +kernel
theorem dX9_parent_9 : decode cX9_parent 9 = .ok (.if_icmp .eq 13, 3) := by decide +kernel
theorem dX9_parent_12 : decode cX9_parent 12 = .ok (.iload_n 2, 1) := by decide +kernel
theorem dX9_parent_13 : decode cX9_parent 13 = .ok (.invokestatic 73, 3) := by decide +kernel
theorem dX9_parent_16 : decode cX9_parent 16 = .ok (.ifCond .ne 6, 3) := by decide +kernel
theorem dX9_parent_19 : decode cX9_parent 19 = .ok (.bipush (-2), 2) := by decide +kernel
theorem dX9_parent_21 : decode cX9_parent 21 = .ok (.ireturn, 1) := by decide +kernel
theorem dX9_parent_22 : decode cX9_parent 22 = .ok (.aload_n 0, 1) := by decide +kernel
theorem dX9_parent_23 : decode cX9_parent 23 = .ok (.getfield 12, 3) := by decide +kernel
theorem dX9_parent_26 : decode cX9_parent 26 = .ok (.getfield 77, 3) := by decide +kernel
theorem dX9_parent_29 : decode cX9_parent 29 = .ok (.ifCond .eq 6, 3) := by decide +kernel
theorem dX9_parent_32 : decode cX9_parent 32 = .ok (.bipush (-3), 2) := by decide +kernel
theorem dX9_parent_34 : decode cX9_parent 34 = .ok (.ireturn, 1) := by decide +kernel
theorem dX9_parent_35 : decode cX9_parent 35 = .ok (.aload_n 0, 1) := by decide +kernel
theorem dX9_parent_36 : decode cX9_parent 36 = .ok (.getfield 12, 3) := by decide +kernel
theorem dX9_parent_39 : decode cX9_parent 39 = .ok (.getfield 81, 3) := by decide +kernel
theorem dX9_parent_42 : decode cX9_parent 42 = .ok (.iload_n 1, 1) := by decide +kernel
theorem dX9_parent_43 : decode cX9_parent 43 = .ok (.iload_n 2, 1) := by decide +kernel
theorem dX9_parent_44 : decode cX9_parent 44 = .ok (.iastore, 1) := by decide +kernel
theorem dX9_parent_45 : decode cX9_parent 45 = .ok (.iconst 1, 1) := by decide +kernel
theorem dX9_parent_46 : decode cX9_parent 46 = .ok (.ireturn, 1) := by decide +kernel
theorem dX9_trait_0 : decode cX9_trait 0 = .ok (.iload_n 1, 1) := by decide +kernel
theorem dX9_trait_1 : decode cX9_trait 1 = .ok (.invokestatic 84, 3) := by decide +kernel
theorem dX9_trait_4 : decode cX9_trait 4 = .ok (.ifCond .eq 10, 3) := by decide +kernel
theorem dX9_trait_7 : decode cX9_trait 7 = .ok (.iload_n 2, 1) := by decide +kernel
theorem dX9_trait_8 : decode cX9_trait 8 = .ok (.invokestatic 84, 3) := by decide +kernel
theorem dX9_trait_11 : decode cX9_trait 11 = .ok (.ifCond .ne 6, 3) := by decide +kernel
theorem dX9_trait_14 : decode cX9_trait 14 = .ok (.bipush (-2), 2) := by decide +kernel
theorem dX9_trait_16 : decode cX9_trait 16 = .ok (.ireturn, 1) := by decide +kernel
theorem dX9_trait_17 : decode cX9_trait 17 = .ok (.aload_n 0, 1) := by decide +kernel
theorem dX9_trait_18 : decode cX9_trait 18 = .ok (.getfield 12, 3) := by decide +kernel
theorem dX9_trait_21 : decode cX9_trait 21 = .ok (.getfield 77, 3) := by decide +kernel
theorem dX9_trait_24 : decode cX9_trait 24 = .ok (.ifCond .eq 8, 3) := by decide +kernel
theorem dX9_trait_27 : decode cX9_trait 27 = .ok (.bipush (-3), 2) := by decide +kernel
theorem dX9_trait_29 : decode cX9_trait 29 = .ok (.goto 12, 3) := by decide +kernel
theorem dX9_trait_32 : decode cX9_trait 32 = .ok (.aload_n 0, 1) := by decide +kernel
theorem dX9_trait_33 : decode cX9_trait 33 = .ok (.getfield 12, 3) := by decide +kernel
theorem dX9_trait_36 : decode cX9_trait 36 = .ok (.iload_n 1, 1) := by decide +kernel
theorem dX9_trait_37 : decode cX9_trait 37 = .ok (.iload_n 2, 1) := by decide +kernel
theorem dX9_trait_38 : decode cX9_trait 38 = .ok (.invokevirtual 87, 3) := by decide +kernel
theorem dX9_trait_41 : decode cX9_trait 41 = .ok (.ireturn, 1) := by decide +kernel
theorem dX9_has_0 : decode cX9_has 0 = .ok (.iload_n 1, 1) := by decide +kernel
theorem dX9_has_1 : decode cX9_has 1 = .ok (.invokestatic 73, 3) := by decide +kernel
theorem dX9_has_4 : decode cX9_has 4 = .ok (.ifCond .eq 10, 3) := by decide +kernel
theorem dX9_has_7 : decode cX9_has 7 = .ok (.iload_n 2, 1) := by decide +kernel
theorem dX9_has_8 : decode cX9_has 8 = .ok (.invokestatic 84, 3) := by decide +kernel
theorem dX9_has_11 : decode cX9_has 11 = .ok (.ifCond .ne 6, 3) := by decide +kernel
theorem dX9_has_14 : decode cX9_has 14 = .ok (.bipush (-2), 2) := by decide +kernel
theorem dX9_has_16 : decode cX9_has 16 = .ok (.ireturn, 1) := by decide +kernel
theorem dX9_has_17 : decode cX9_has 17 = .ok (.aload_n 0, 1) := by decide +kernel
theorem dX9_has_18 : decode cX9_has 18 = .ok (.getfield 12, 3) := by decide +kernel
theorem dX9_has_21 : decode cX9_has 21 = .ok (.getfield 77, 3) := by decide +kernel
theorem dX9_has_24 : decode cX9_has 24 = .ok (.ifCond .eq 8, 3) := by decide +kernel
theorem dX9_has_27 : decode cX9_has 27 = .ok (.bipush (-3), 2) := by decide +kernel
theorem dX9_has_29 : decode cX9_has 29 = .ok (.goto 12, 3) := by decide +kernel
theorem dX9_has_32 : decode cX9_has 32 = .ok (.aload_n 0, 1) := by decide +kernel
theorem dX9_has_33 : decode cX9_has 33 = .ok (.getfield 12, 3) := by decide +kernel
theorem dX9_has_36 : decode cX9_has 36 = .ok (.iload_n 1, 1) := by decide +kernel
theorem dX9_has_37 : decode cX9_has 37 = .ok (.iload_n 2, 1) := by decide +kernel
theorem dX9_has_38 : decode cX9_has 38 = .ok (.invokevirtual 87, 3) := by decide +kernel
theorem dX9_has_41 : decode cX9_has 41 = .ok (.ireturn, 1) := by decide +kernel
theorem dX9_flag_0 : decode cX9_flag 0 = .ok (.iload_n 1, 1) := by decide +kernel
theorem dX9_flag_1 : decode cX9_flag 1 = .ok (.invokestatic 73, 3) := by decide +kernel
theorem dX9_flag_4 : decode cX9_flag 4 = .ok (.ifCond .ne 6, 3) := by decide +kernel
theorem dX9_flag_7 : decode cX9_flag 7 = .ok (.bipush (-2), 2) := by decide +kernel
theorem dX9_flag_9 : decode cX9_flag 9 = .ok (.ireturn, 1) := by decide +kernel
theorem dX9_flag_10 : decode cX9_flag 10 = .ok (.aload_n 0, 1) := by decide +kernel
theorem dX9_flag_11 : decode cX9_flag 11 = .ok (.getfield 12, 3) := by decide +kernel
theorem dX9_flag_14 : decode cX9_flag 14 = .ok (.getfield 77, 3) := by decide +kernel
theorem dX9_flag_17 : decode cX9_flag 17 = .ok (.ifCond .eq 6, 3) := by decide +kernel
theorem dX9_flag_20 : decode cX9_flag 20 = .ok (.bipush (-3), 2) := by decide +kernel
theorem dX9_flag_22 : decode cX9_flag 22 = .ok (.ireturn, 1) := by decide +kernel
theorem dX9_flag_23 : decode cX9_flag 23 = .ok (.aload_n 0, 1) := by decide +kernel
theorem dX9_flag_24 : decode cX9_flag 24 = .ok (.getfield 12, 3) := by decide +kernel
theorem dX9_flag_27 : decode cX9_flag 27 = .ok (.iload_n 1, 1) := by decide +kernel
theorem dX9_flag_28 : decode cX9_flag 28 = .ok (.invokevirtual 91, 3) := by decide +kernel
theorem dX9_flag_31 : decode cX9_flag 31 = .ok (.ifCond .eq 5, 3) := by decide +kernel
theorem dX9_flag_34 : decode cX9_flag 34 = .ok (.iconst 0, 1) := by decide +kernel
theorem dX9_flag_35 : decode cX9_flag 35 = .ok (.ireturn, 1) := by decide +kernel
theorem dX9_flag_36 : decode cX9_flag 36 = .ok (.aload_n 0, 1) := by decide +kernel
theorem dX9_flag_37 : decode cX9_flag 37 = .ok (.getfield 12, 3) := by decide +kernel
theorem dX9_flag_40 : decode cX9_flag 40 = .ok (.dup, 1) := by decide +kernel
theorem dX9_flag_41 : decode cX9_flag 41 = .ok (.getfield 94, 3) := by decide +kernel
theorem dX9_flag_44 : decode cX9_flag 44 = .ok (.iconst 1, 1) := by decide +kernel
theorem dX9_flag_45 : decode cX9_flag 45 = .ok (.iload_n 1, 1) := by decide +kernel
theorem dX9_flag_46 : decode cX9_flag 46 = .ok (.ishl, 1) := by decide +kernel
theorem dX9_flag_47 : decode cX9_flag 47 = .ok (.ior, 1) := by decide +kernel
theorem dX9_flag_48 : decode cX9_flag 48 = .ok (.putfield 94, 3) := by decide +kernel
theorem dX9_flag_51 : decode cX9_flag 51 = .ok (.iconst 1, 1) := by decide +kernel
theorem dX9_flag_52 : decode cX9_flag 52 = .ok (.ireturn, 1) := by decide +kernel
theorem dX9_close_0 : decode cX9_close 0 = .ok (.aload_n 0, 1) := by decide +kernel
theorem dX9_close_1 : decode cX9_close 1 = .ok (.getfield 12, 3) := by decide +kernel
theorem dX9_close_4 : decode cX9_close 4 = .ok (.getfield 77, 3) := by decide +kernel
theorem dX9_close_7 : decode cX9_close 7 = .ok (.ifCond .eq 6, 3) := by decide +kernel
theorem dX9_close_10 : decode cX9_close 10 = .ok (.bipush (-3), 2) := by decide +kernel
theorem dX9_close_12 : decode cX9_close 12 = .ok (.ireturn, 1) := by decide +kernel
theorem dX9_close_13 : decode cX9_close 13 = .ok (.aload_n 0, 1) := by decide +kernel
theorem dX9_close_14 : decode cX9_close 14 = .ok (.getfield 12, 3) := by decide +kernel
theorem dX9_close_17 : decode cX9_close 17 = .ok (.invokevirtual 97, 3) := by decide +kernel
theorem dX9_close_20 : decode cX9_close 20 = .ok (.aload_n 0, 1) := by decide +kernel
theorem dX9_close_21 : decode cX9_close 21 = .ok (.getfield 12, 3) := by decide +kernel
theorem dX9_close_24 : decode cX9_close 24 = .ok (.invokevirtual 100, 3) := by decide +kernel
theorem dX9_close_27 : decode cX9_close 27 = .ok (.ifCond .eq 6, 3) := by decide +kernel
theorem dX9_close_30 : decode cX9_close 30 = .ok (.bipush (-5), 2) := by decide +kernel
theorem dX9_close_32 : decode cX9_close 32 = .ok (.ireturn, 1) := by decide +kernel
theorem dX9_close_33 : decode cX9_close 33 = .ok (.aload_n 0, 1) := by decide +kernel
theorem dX9_close_34 : decode cX9_close 34 = .ok (.getfield 12, 3) := by decide +kernel
theorem dX9_close_37 : decode cX9_close 37 = .ok (.iconst 1, 1) := by decide +kernel
theorem dX9_close_38 : decode cX9_close 38 = .ok (.putfield 77, 3) := by decide +kernel
theorem dX9_close_41 : decode cX9_close 41 = .ok (.iconst 1, 1) := by decide +kernel
theorem dX9_close_42 : decode cX9_close 42 = .ok (.ireturn, 1) := by decide +kernel
theorem dX9_below_0 : decode cX9_below 0 = .ok (.aload_n 0, 1) := by decide +kernel
theorem dX9_below_1 : decode cX9_below 1 = .ok (.getfield 12, 3) := by decide +kernel
theorem dX9_below_4 : decode cX9_below 4 = .ok (.getfield 77, 3) := by decide +kernel
theorem dX9_below_7 : decode cX9_below 7 = .ok (.ifCond .eq 33, 3) := by decide +kernel
theorem dX9_below_10 : decode cX9_below 10 = .ok (.iload_n 1, 1) := by decide +kernel
theorem dX9_below_11 : decode cX9_below 11 = .ok (.invokestatic 104, 3) := by decide +kernel
theorem dX9_below_14 : decode cX9_below 14 = .ok (.ifCond .eq 26, 3) := by decide +kernel
theorem dX9_below_17 : decode cX9_below 17 = .ok (.iload_n 2, 1) := by decide +kernel
theorem dX9_below_18 : decode cX9_below 18 = .ok (.invokestatic 104, 3) := by decide +kernel
theorem dX9_below_21 : decode cX9_below 21 = .ok (.ifCond .eq 19, 3) := by decide +kernel
theorem dX9_below_24 : decode cX9_below 24 = .ok (.aload_n 0, 1) := by decide +kernel
theorem dX9_below_25 : decode cX9_below 25 = .ok (.getfield 12, 3) := by decide +kernel
theorem dX9_below_28 : decode cX9_below 28 = .ok (.iload_n 1, 1) := by decide +kernel
theorem dX9_below_29 : decode cX9_below 29 = .ok (.iload_n 2, 1) := by decide +kernel
theorem dX9_below_30 : decode cX9_below 30 = .ok (.invokevirtual 107, 3) := by decide +kernel
theorem dX9_below_33 : decode cX9_below 33 = .ok (.ifCond .eq 7, 3) := by decide +kernel
theorem dX9_below_36 : decode cX9_below 36 = .ok (.iconst 1, 1) := by decide +kernel
theorem dX9_below_37 : decode cX9_below 37 = .ok (.goto 4, 3) := by decide +kernel
theorem dX9_below_40 : decode cX9_below 40 = .ok (.iconst 0, 1) := by decide +kernel
theorem dX9_below_41 : decode cX9_below 41 = .ok (.ireturn, 1) := by decide +kernel
theorem dX9_sample_0 : decode cX9_sample 0 = .ok (.iload_n 1, 1) := by decide +kernel
theorem dX9_sample_1 : decode cX9_sample 1 = .ok (.invokestatic 73, 3) := by decide +kernel
theorem dX9_sample_4 : decode cX9_sample 4 = .ok (.ifCond .ne 6, 3) := by decide +kernel
theorem dX9_sample_7 : decode cX9_sample 7 = .ok (.bipush (-2), 2) := by decide +kernel
theorem dX9_sample_9 : decode cX9_sample 9 = .ok (.ireturn, 1) := by decide +kernel
theorem dX9_sample_10 : decode cX9_sample 10 = .ok (.aload_n 0, 1) := by decide +kernel
theorem dX9_sample_11 : decode cX9_sample 11 = .ok (.getfield 12, 3) := by decide +kernel
theorem dX9_sample_14 : decode cX9_sample 14 = .ok (.getfield 77, 3) := by decide +kernel
theorem dX9_sample_17 : decode cX9_sample 17 = .ok (.ifCond .ne 6, 3) := by decide +kernel
theorem dX9_sample_20 : decode cX9_sample 20 = .ok (.bipush (-3), 2) := by decide +kernel
theorem dX9_sample_22 : decode cX9_sample 22 = .ok (.ireturn, 1) := by decide +kernel
theorem dX9_sample_23 : decode cX9_sample 23 = .ok (.aload_n 0, 1) := by decide +kernel
theorem dX9_sample_24 : decode cX9_sample 24 = .ok (.getfield 12, 3) := by decide +kernel
theorem dX9_sample_27 : decode cX9_sample 27 = .ok (.iload_n 1, 1) := by decide +kernel
theorem dX9_sample_28 : decode cX9_sample 28 = .ok (.invokevirtual 91, 3) := by decide +kernel
theorem dX9_sample_31 : decode cX9_sample 31 = .ok (.ifCond .eq 6, 3) := by decide +kernel
theorem dX9_sample_34 : decode cX9_sample 34 = .ok (.bipush (-6), 2) := by decide +kernel
theorem dX9_sample_36 : decode cX9_sample 36 = .ok (.ireturn, 1) := by decide +kernel
theorem dX9_sample_37 : decode cX9_sample 37 = .ok (.aload_n 0, 1) := by decide +kernel
theorem dX9_sample_38 : decode cX9_sample 38 = .ok (.getfield 19, 3) := by decide +kernel
theorem dX9_sample_41 : decode cX9_sample 41 = .ok (.iload_n 1, 1) := by decide +kernel
theorem dX9_sample_42 : decode cX9_sample 42 = .ok (.iload_n 2, 1) := by decide +kernel
theorem dX9_sample_43 : decode cX9_sample 43 = .ok (.invokevirtual 111, 3) := by decide +kernel
theorem dX9_sample_46 : decode cX9_sample 46 = .ok (.istore_n 3, 1) := by decide +kernel
theorem dX9_sample_47 : decode cX9_sample 47 = .ok (.iload_n 3, 1) := by decide +kernel
theorem dX9_sample_48 : decode cX9_sample 48 = .ok (.iconst (-1), 1) := by decide +kernel
theorem dX9_sample_49 : decode cX9_sample 49 = .ok (.if_icmp .ne 8, 3) := by decide +kernel
theorem dX9_sample_52 : decode cX9_sample 52 = .ok (.bipush (-4), 2) := by decide +kernel
theorem dX9_sample_54 : decode cX9_sample 54 = .ok (.goto 4, 3) := by decide +kernel
theorem dX9_sample_57 : decode cX9_sample 57 = .ok (.iload_n 3, 1) := by decide +kernel
theorem dX9_sample_58 : decode cX9_sample 58 = .ok (.ireturn, 1) := by decide +kernel
theorem dX9_of_0 : decode cX9_of 0 = .ok (.aload_n 0, 1) := by decide +kernel
theorem dX9_of_1 : decode cX9_of 1 = .ok (.getfield 19, 3) := by decide +kernel
theorem dX9_of_4 : decode cX9_of 4 = .ok (.iload_n 1, 1) := by decide +kernel
theorem dX9_of_5 : decode cX9_of 5 = .ok (.invokevirtual 114, 3) := by decide +kernel
theorem dX9_of_8 : decode cX9_of 8 = .ok (.ifCond .ne 5, 3) := by decide +kernel
theorem dX9_of_11 : decode cX9_of 11 = .ok (.iconst (-1), 1) := by decide +kernel
theorem dX9_of_12 : decode cX9_of 12 = .ok (.ireturn, 1) := by decide +kernel
theorem dX9_of_13 : decode cX9_of 13 = .ok (.iload_n 2, 1) := by decide +kernel
theorem dX9_of_14 : decode cX9_of 14 = .ok (.lookupswitch 46 #[(0, 26), (1, 36)], 26) := by decide +kernel
theorem dX9_of_40 : decode cX9_of 40 = .ok (.aload_n 0, 1) := by decide +kernel
theorem dX9_of_41 : decode cX9_of 41 = .ok (.getfield 19, 3) := by decide +kernel
theorem dX9_of_44 : decode cX9_of 44 = .ok (.getfield 117, 3) := by decide +kernel
theorem dX9_of_47 : decode cX9_of 47 = .ok (.iload_n 1, 1) := by decide +kernel
theorem dX9_of_48 : decode cX9_of 48 = .ok (.iaload, 1) := by decide +kernel
theorem dX9_of_49 : decode cX9_of 49 = .ok (.ireturn, 1) := by decide +kernel
theorem dX9_of_50 : decode cX9_of 50 = .ok (.aload_n 0, 1) := by decide +kernel
theorem dX9_of_51 : decode cX9_of 51 = .ok (.getfield 19, 3) := by decide +kernel
theorem dX9_of_54 : decode cX9_of 54 = .ok (.getfield 120, 3) := by decide +kernel
theorem dX9_of_57 : decode cX9_of 57 = .ok (.iload_n 1, 1) := by decide +kernel
theorem dX9_of_58 : decode cX9_of 58 = .ok (.iaload, 1) := by decide +kernel
theorem dX9_of_59 : decode cX9_of 59 = .ok (.ireturn, 1) := by decide +kernel
theorem dX9_of_60 : decode cX9_of 60 = .ok (.iconst (-1), 1) := by decide +kernel
theorem dX9_of_61 : decode cX9_of 61 = .ok (.ireturn, 1) := by decide +kernel
theorem dX9_samples_0 : decode cX9_samples 0 = .ok (.aload_n 0, 1) := by decide +kernel
theorem dX9_samples_1 : decode cX9_samples 1 = .ok (.getfield 19, 3) := by decide +kernel
theorem dX9_samples_4 : decode cX9_samples 4 = .ok (.getfield 123, 3) := by decide +kernel
theorem dX9_samples_7 : decode cX9_samples 7 = .ok (.ireturn, 1) := by decide +kernel
theorem dX9_function_0 : decode cX9_function 0 = .ok (.iload_n 1, 1) := by decide +kernel
theorem dX9_function_1 : decode cX9_function 1 = .ok (.iconst 1, 1) := by decide +kernel
theorem dX9_function_2 : decode cX9_function 2 = .ok (.if_icmp .lt 8, 3) := by decide +kernel
theorem dX9_function_5 : decode cX9_function 5 = .ok (.iload_n 1, 1) := by decide +kernel
theorem dX9_function_6 : decode cX9_function 6 = .ok (.iconst 2, 1) := by decide +kernel
theorem dX9_function_7 : decode cX9_function 7 = .ok (.if_icmp .le 6, 3) := by decide +kernel
theorem dX9_function_10 : decode cX9_function 10 = .ok (.bipush (-2), 2) := by decide +kernel
theorem dX9_function_12 : decode cX9_function 12 = .ok (.ireturn, 1) := by decide +kernel
theorem dX9_function_13 : decode cX9_function 13 = .ok (.aload_n 0, 1) := by decide +kernel
theorem dX9_function_14 : decode cX9_function 14 = .ok (.getfield 12, 3) := by decide +kernel
theorem dX9_function_17 : decode cX9_function 17 = .ok (.getfield 77, 3) := by decide +kernel
theorem dX9_function_20 : decode cX9_function 20 = .ok (.ifCond .ne 6, 3) := by decide +kernel
theorem dX9_function_23 : decode cX9_function 23 = .ok (.bipush (-3), 2) := by decide +kernel
theorem dX9_function_25 : decode cX9_function 25 = .ok (.ireturn, 1) := by decide +kernel
theorem dX9_function_26 : decode cX9_function 26 = .ok (.aload_n 0, 1) := by decide +kernel
theorem dX9_function_27 : decode cX9_function 27 = .ok (.getfield 63, 3) := by decide +kernel
theorem dX9_function_30 : decode cX9_function 30 = .ok (.iconst 4, 1) := by decide +kernel
theorem dX9_function_31 : decode cX9_function 31 = .ok (.if_icmp .lt 6, 3) := by decide +kernel
theorem dX9_function_34 : decode cX9_function 34 = .ok (.bipush (-4), 2) := by decide +kernel
theorem dX9_function_36 : decode cX9_function 36 = .ok (.ireturn, 1) := by decide +kernel
theorem dX9_function_37 : decode cX9_function 37 = .ok (.aload_n 0, 1) := by decide +kernel
theorem dX9_function_38 : decode cX9_function 38 = .ok (.getfield 25, 3) := by decide +kernel
theorem dX9_function_41 : decode cX9_function 41 = .ok (.aload_n 0, 1) := by decide +kernel
theorem dX9_function_42 : decode cX9_function 42 = .ok (.getfield 63, 3) := by decide +kernel
theorem dX9_function_45 : decode cX9_function 45 = .ok (.new 23, 3) := by decide +kernel
theorem dX9_function_48 : decode cX9_function 48 = .ok (.dup, 1) := by decide +kernel
theorem dX9_function_49 : decode cX9_function 49 = .ok (.aload_n 0, 1) := by decide +kernel
theorem dX9_function_50 : decode cX9_function 50 = .ok (.getfield 12, 3) := by decide +kernel
theorem dX9_function_53 : decode cX9_function 53 = .ok (.aload_n 0, 1) := by decide +kernel
theorem dX9_function_54 : decode cX9_function 54 = .ok (.getfield 63, 3) := by decide +kernel
theorem dX9_function_57 : decode cX9_function 57 = .ok (.iload_n 1, 1) := by decide +kernel
theorem dX9_function_58 : decode cX9_function 58 = .ok (.invokespecial 126, 3) := by decide +kernel
theorem dX9_function_61 : decode cX9_function 61 = .ok (.aastore, 1) := by decide +kernel
theorem dX9_function_62 : decode cX9_function 62 = .ok (.aload_n 0, 1) := by decide +kernel
theorem dX9_function_63 : decode cX9_function 63 = .ok (.dup, 1) := by decide +kernel
theorem dX9_function_64 : decode cX9_function 64 = .ok (.getfield 63, 3) := by decide +kernel
theorem dX9_function_67 : decode cX9_function 67 = .ok (.iconst 1, 1) := by decide +kernel
theorem dX9_function_68 : decode cX9_function 68 = .ok (.iadd, 1) := by decide +kernel
theorem dX9_function_69 : decode cX9_function 69 = .ok (.putfield 63, 3) := by decide +kernel
theorem dX9_function_72 : decode cX9_function 72 = .ok (.aload_n 0, 1) := by decide +kernel
theorem dX9_function_73 : decode cX9_function 73 = .ok (.getfield 63, 3) := by decide +kernel
theorem dX9_function_76 : decode cX9_function 76 = .ok (.iconst 1, 1) := by decide +kernel
theorem dX9_function_77 : decode cX9_function 77 = .ok (.isub, 1) := by decide +kernel
theorem dX9_function_78 : decode cX9_function 78 = .ok (.ireturn, 1) := by decide +kernel
theorem dX9_handler_0 : decode cX9_handler 0 = .ok (.aload_n 0, 1) := by decide +kernel
theorem dX9_handler_1 : decode cX9_handler 1 = .ok (.iload_n 1, 1) := by decide +kernel
theorem dX9_handler_2 : decode cX9_handler 2 = .ok (.invokevirtual 129, 3) := by decide +kernel
theorem dX9_handler_5 : decode cX9_handler 5 = .ok (.astore 5, 2) := by decide +kernel
theorem dX9_handler_7 : decode cX9_handler 7 = .ok (.aload 5, 2) := by decide +kernel
theorem dX9_handler_9 : decode cX9_handler 9 = .ok (.ifnull 13, 3) := by decide +kernel
theorem dX9_handler_12 : decode cX9_handler 12 = .ok (.iload_n 2, 1) := by decide +kernel
theorem dX9_handler_13 : decode cX9_handler 13 = .ok (.ifCond .lt 9, 3) := by decide +kernel
theorem dX9_handler_16 : decode cX9_handler 16 = .ok (.iload_n 2, 1) := by decide +kernel
theorem dX9_handler_17 : decode cX9_handler 17 = .ok (.bipush 7, 2) := by decide +kernel
theorem dX9_handler_19 : decode cX9_handler 19 = .ok (.if_icmp .le 6, 3) := by decide +kernel
theorem dX9_handler_22 : decode cX9_handler 22 = .ok (.bipush (-2), 2) := by decide +kernel
theorem dX9_handler_24 : decode cX9_handler 24 = .ok (.ireturn, 1) := by decide +kernel
theorem dX9_handler_25 : decode cX9_handler 25 = .ok (.aload_n 0, 1) := by decide +kernel
theorem dX9_handler_26 : decode cX9_handler 26 = .ok (.getfield 67, 3) := by decide +kernel
theorem dX9_handler_29 : decode cX9_handler 29 = .ok (.bipush 40, 2) := by decide +kernel
theorem dX9_handler_31 : decode cX9_handler 31 = .ok (.if_icmp .lt 6, 3) := by decide +kernel
theorem dX9_handler_34 : decode cX9_handler 34 = .ok (.bipush (-4), 2) := by decide +kernel
theorem dX9_handler_36 : decode cX9_handler 36 = .ok (.ireturn, 1) := by decide +kernel
theorem dX9_handler_37 : decode cX9_handler 37 = .ok (.aload_n 0, 1) := by decide +kernel
theorem dX9_handler_38 : decode cX9_handler 38 = .ok (.getfield 31, 3) := by decide +kernel
theorem dX9_handler_41 : decode cX9_handler 41 = .ok (.aload_n 0, 1) := by decide +kernel
theorem dX9_handler_42 : decode cX9_handler 42 = .ok (.getfield 67, 3) := by decide +kernel
theorem dX9_handler_45 : decode cX9_handler 45 = .ok (.new 29, 3) := by decide +kernel
theorem dX9_handler_48 : decode cX9_handler 48 = .ok (.dup, 1) := by decide +kernel
theorem dX9_handler_49 : decode cX9_handler 49 = .ok (.aload 5, 2) := by decide +kernel
theorem dX9_handler_51 : decode cX9_handler 51 = .ok (.aload_n 0, 1) := by decide +kernel
theorem dX9_handler_52 : decode cX9_handler 52 = .ok (.getfield 67, 3) := by decide +kernel
theorem dX9_handler_55 : decode cX9_handler 55 = .ok (.iload_n 2, 1) := by decide +kernel
theorem dX9_handler_56 : decode cX9_handler 56 = .ok (.iload_n 3, 1) := by decide +kernel
theorem dX9_handler_57 : decode cX9_handler 57 = .ok (.iload 4, 2) := by decide +kernel
theorem dX9_handler_59 : decode cX9_handler 59 = .ok (.invokespecial 133, 3) := by decide +kernel
theorem dX9_handler_62 : decode cX9_handler 62 = .ok (.aastore, 1) := by decide +kernel
theorem dX9_handler_63 : decode cX9_handler 63 = .ok (.aload_n 0, 1) := by decide +kernel
theorem dX9_handler_64 : decode cX9_handler 64 = .ok (.dup, 1) := by decide +kernel
theorem dX9_handler_65 : decode cX9_handler 65 = .ok (.getfield 67, 3) := by decide +kernel
theorem dX9_handler_68 : decode cX9_handler 68 = .ok (.iconst 1, 1) := by decide +kernel
