theorem dX2_firstRefusingPlace_13 : decode cX2_firstRefusingPlace 13 = .ok (.aload_n 0, 1) := by decide +kernel
theorem dX2_firstRefusingPlace_14 : decode cX2_firstRefusingPlace 14 = .ok (.iload_n 2, 1) := by decide +kernel
theorem dX2_firstRefusingPlace_15 : decode cX2_firstRefusingPlace 15 = .ok (.aload_n 1, 1) := by decide +kernel
theorem dX2_firstRefusingPlace_16 : decode cX2_firstRefusingPlace 16 = .ok (.getfield 67, 3) := by decide +kernel
theorem dX2_firstRefusingPlace_19 : decode cX2_firstRefusingPlace 19 = .ok (.iload_n 2, 1) := by decide +kernel
theorem dX2_firstRefusingPlace_20 : decode cX2_firstRefusingPlace 20 = .ok (.iaload, 1) := by decide +kernel
theorem dX2_firstRefusingPlace_21 : decode cX2_firstRefusingPlace 21 = .ok (.invokevirtual 72, 3) := by decide +kernel
theorem dX2_firstRefusingPlace_24 : decode cX2_firstRefusingPlace 24 = .ok (.ifCond .eq 17, 3) := by decide +kernel
theorem dX2_firstRefusingPlace_27 : decode cX2_firstRefusingPlace 27 = .ok (.aload_n 0, 1) := by decide +kernel
theorem dX2_firstRefusingPlace_28 : decode cX2_firstRefusingPlace 28 = .ok (.iload_n 2, 1) := by decide +kernel
theorem dX2_firstRefusingPlace_29 : decode cX2_firstRefusingPlace 29 = .ok (.aload_n 1, 1) := by decide +kernel
theorem dX2_firstRefusingPlace_30 : decode cX2_firstRefusingPlace 30 = .ok (.getfield 75, 3) := by decide +kernel
theorem dX2_firstRefusingPlace_33 : decode cX2_firstRefusingPlace 33 = .ok (.iload_n 2, 1) := by decide +kernel
theorem dX2_firstRefusingPlace_34 : decode cX2_firstRefusingPlace 34 = .ok (.iaload, 1) := by decide +kernel
theorem dX2_firstRefusingPlace_35 : decode cX2_firstRefusingPlace 35 = .ok (.invokevirtual 78, 3) := by decide +kernel
theorem dX2_firstRefusingPlace_38 : decode cX2_firstRefusingPlace 38 = .ok (.ifCond .ne 5, 3) := by decide +kernel
theorem dX2_firstRefusingPlace_41 : decode cX2_firstRefusingPlace 41 = .ok (.iload_n 2, 1) := by decide +kernel
theorem dX2_firstRefusingPlace_42 : decode cX2_firstRefusingPlace 42 = .ok (.ireturn, 1) := by decide +kernel
theorem dX2_firstRefusingPlace_43 : decode cX2_firstRefusingPlace 43 = .ok (.iinc 2 1, 3) := by decide +kernel
theorem dX2_firstRefusingPlace_46 : decode cX2_firstRefusingPlace 46 = .ok (.goto (-44), 3) := by decide +kernel
theorem dX2_firstRefusingPlace_49 : decode cX2_firstRefusingPlace 49 = .ok (.iconst (-1), 1) := by decide +kernel
theorem dX2_firstRefusingPlace_50 : decode cX2_firstRefusingPlace 50 = .ok (.ireturn, 1) := by decide +kernel
theorem dX2_isSameAt_0 : decode cX2_isSameAt 0 = .ok (.aload_n 0, 1) := by decide +kernel
theorem dX2_isSameAt_1 : decode cX2_isSameAt 1 = .ok (.getfield 37, 3) := by decide +kernel
theorem dX2_isSameAt_4 : decode cX2_isSameAt 4 = .ok (.iload_n 1, 1) := by decide +kernel
theorem dX2_isSameAt_5 : decode cX2_isSameAt 5 = .ok (.iaload, 1) := by decide +kernel
theorem dX2_isSameAt_6 : decode cX2_isSameAt 6 = .ok (.aload_n 2, 1) := by decide +kernel
theorem dX2_isSameAt_7 : decode cX2_isSameAt 7 = .ok (.getfield 37, 3) := by decide +kernel
theorem dX2_isSameAt_10 : decode cX2_isSameAt 10 = .ok (.iload_n 1, 1) := by decide +kernel
theorem dX2_isSameAt_11 : decode cX2_isSameAt 11 = .ok (.iaload, 1) := by decide +kernel
theorem dX2_isSameAt_12 : decode cX2_isSameAt 12 = .ok (.if_icmp .ne 37, 3) := by decide +kernel
theorem dX2_isSameAt_15 : decode cX2_isSameAt 15 = .ok (.aload_n 0, 1) := by decide +kernel
theorem dX2_isSameAt_16 : decode cX2_isSameAt 16 = .ok (.getfield 41, 3) := by decide +kernel
theorem dX2_isSameAt_19 : decode cX2_isSameAt 19 = .ok (.iload_n 1, 1) := by decide +kernel
theorem dX2_isSameAt_20 : decode cX2_isSameAt 20 = .ok (.iaload, 1) := by decide +kernel
theorem dX2_isSameAt_21 : decode cX2_isSameAt 21 = .ok (.aload_n 2, 1) := by decide +kernel
theorem dX2_isSameAt_22 : decode cX2_isSameAt 22 = .ok (.getfield 41, 3) := by decide +kernel
theorem dX2_isSameAt_25 : decode cX2_isSameAt 25 = .ok (.iload_n 1, 1) := by decide +kernel
theorem dX2_isSameAt_26 : decode cX2_isSameAt 26 = .ok (.iaload, 1) := by decide +kernel
theorem dX2_isSameAt_27 : decode cX2_isSameAt 27 = .ok (.if_icmp .ne 22, 3) := by decide +kernel
theorem dX2_isSameAt_30 : decode cX2_isSameAt 30 = .ok (.aload_n 0, 1) := by decide +kernel
theorem dX2_isSameAt_31 : decode cX2_isSameAt 31 = .ok (.getfield 44, 3) := by decide +kernel
theorem dX2_isSameAt_34 : decode cX2_isSameAt 34 = .ok (.iload_n 1, 1) := by decide +kernel
theorem dX2_isSameAt_35 : decode cX2_isSameAt 35 = .ok (.iaload, 1) := by decide +kernel
theorem dX2_isSameAt_36 : decode cX2_isSameAt 36 = .ok (.aload_n 2, 1) := by decide +kernel
theorem dX2_isSameAt_37 : decode cX2_isSameAt 37 = .ok (.getfield 44, 3) := by decide +kernel
theorem dX2_isSameAt_40 : decode cX2_isSameAt 40 = .ok (.iload_n 1, 1) := by decide +kernel
theorem dX2_isSameAt_41 : decode cX2_isSameAt 41 = .ok (.iaload, 1) := by decide +kernel
theorem dX2_isSameAt_42 : decode cX2_isSameAt 42 = .ok (.if_icmp .ne 7, 3) := by decide +kernel
theorem dX2_isSameAt_45 : decode cX2_isSameAt 45 = .ok (.iconst 1, 1) := by decide +kernel
theorem dX2_isSameAt_46 : decode cX2_isSameAt 46 = .ok (.goto 4, 3) := by decide +kernel
theorem dX2_isSameAt_49 : decode cX2_isSameAt 49 = .ok (.iconst 0, 1) := by decide +kernel
theorem dX2_isSameAt_50 : decode cX2_isSameAt 50 = .ok (.ireturn, 1) := by decide +kernel
set_option maxRecDepth 20000 in
theorem ggX2_isNarrowerAt_X8_isBelow : GoodIn wsX2_isNarrowerAt wsX8_isBelow := goodIn_r _ [10, 11, 36, 37, 38, 39, 40] (by decide +kernel) (by decide +kernel)
set_option maxRecDepth 20000 in
theorem gX2_isNarrowerAt_X8_isBelow : GoodIn wsX2_isNarrowerAt (wsV RX2 61 RX8 yX8_isBelow wsX8_isBelow) := goodIn_app (goodIn_of _ (by decide +kernel)) ggX2_isNarrowerAt_X8_isBelow
set_option maxRecDepth 20000 in
theorem ggX2_isNarrowerAt_X2_isSameAt : GoodIn wsX2_isNarrowerAt wsX2_isSameAt := goodIn_r _ [16, 1, 4, 5, 17, 18, 19, 20, 21, 22, 23, 24, 25] (by decide +kernel) (by decide +kernel)
set_option maxRecDepth 20000 in
theorem gX2_isNarrowerAt_X2_isSameAt : GoodIn wsX2_isNarrowerAt (wsV RX2 81 RX2 yX2_isSameAt wsX2_isSameAt) := goodIn_app (goodIn_of _ (by decide +kernel)) ggX2_isNarrowerAt_X2_isSameAt
theorem dX2_isNarrowerAt_0 : decode cX2_isNarrowerAt 0 = .ok (.aload_n 0, 1) := by decide +kernel
theorem dX2_isNarrowerAt_1 : decode cX2_isNarrowerAt 1 = .ok (.getfield 37, 3) := by decide +kernel
theorem dX2_isNarrowerAt_4 : decode cX2_isNarrowerAt 4 = .ok (.iload_n 1, 1) := by decide +kernel
theorem dX2_isNarrowerAt_5 : decode cX2_isNarrowerAt 5 = .ok (.iaload, 1) := by decide +kernel
theorem dX2_isNarrowerAt_6 : decode cX2_isNarrowerAt 6 = .ok (.aload_n 2, 1) := by decide +kernel
theorem dX2_isNarrowerAt_7 : decode cX2_isNarrowerAt 7 = .ok (.getfield 37, 3) := by decide +kernel
theorem dX2_isNarrowerAt_10 : decode cX2_isNarrowerAt 10 = .ok (.iload_n 1, 1) := by decide +kernel
theorem dX2_isNarrowerAt_11 : decode cX2_isNarrowerAt 11 = .ok (.iaload, 1) := by decide +kernel
theorem dX2_isNarrowerAt_12 : decode cX2_isNarrowerAt 12 = .ok (.if_icmp .eq 54, 3) := by decide +kernel
theorem dX2_isNarrowerAt_15 : decode cX2_isNarrowerAt 15 = .ok (.aload_n 0, 1) := by decide +kernel
theorem dX2_isNarrowerAt_16 : decode cX2_isNarrowerAt 16 = .ok (.getfield 37, 3) := by decide +kernel
theorem dX2_isNarrowerAt_19 : decode cX2_isNarrowerAt 19 = .ok (.iload_n 1, 1) := by decide +kernel
theorem dX2_isNarrowerAt_20 : decode cX2_isNarrowerAt 20 = .ok (.iaload, 1) := by decide +kernel
theorem dX2_isNarrowerAt_21 : decode cX2_isNarrowerAt 21 = .ok (.iconst (-1), 1) := by decide +kernel
theorem dX2_isNarrowerAt_22 : decode cX2_isNarrowerAt 22 = .ok (.if_icmp .eq 42, 3) := by decide +kernel
theorem dX2_isNarrowerAt_25 : decode cX2_isNarrowerAt 25 = .ok (.aload_n 2, 1) := by decide +kernel
theorem dX2_isNarrowerAt_26 : decode cX2_isNarrowerAt 26 = .ok (.getfield 37, 3) := by decide +kernel
theorem dX2_isNarrowerAt_29 : decode cX2_isNarrowerAt 29 = .ok (.iload_n 1, 1) := by decide +kernel
theorem dX2_isNarrowerAt_30 : decode cX2_isNarrowerAt 30 = .ok (.iaload, 1) := by decide +kernel
theorem dX2_isNarrowerAt_31 : decode cX2_isNarrowerAt 31 = .ok (.iconst (-1), 1) := by decide +kernel
theorem dX2_isNarrowerAt_32 : decode cX2_isNarrowerAt 32 = .ok (.if_icmp .eq 28, 3) := by decide +kernel
theorem dX2_isNarrowerAt_35 : decode cX2_isNarrowerAt 35 = .ok (.aload_n 0, 1) := by decide +kernel
theorem dX2_isNarrowerAt_36 : decode cX2_isNarrowerAt 36 = .ok (.getfield 15, 3) := by decide +kernel
theorem dX2_isNarrowerAt_39 : decode cX2_isNarrowerAt 39 = .ok (.getfield 57, 3) := by decide +kernel
theorem dX2_isNarrowerAt_42 : decode cX2_isNarrowerAt 42 = .ok (.aload_n 0, 1) := by decide +kernel
theorem dX2_isNarrowerAt_43 : decode cX2_isNarrowerAt 43 = .ok (.getfield 37, 3) := by decide +kernel
theorem dX2_isNarrowerAt_46 : decode cX2_isNarrowerAt 46 = .ok (.iload_n 1, 1) := by decide +kernel
theorem dX2_isNarrowerAt_47 : decode cX2_isNarrowerAt 47 = .ok (.iaload, 1) := by decide +kernel
theorem dX2_isNarrowerAt_48 : decode cX2_isNarrowerAt 48 = .ok (.aload_n 2, 1) := by decide +kernel
theorem dX2_isNarrowerAt_49 : decode cX2_isNarrowerAt 49 = .ok (.getfield 37, 3) := by decide +kernel
theorem dX2_isNarrowerAt_52 : decode cX2_isNarrowerAt 52 = .ok (.iload_n 1, 1) := by decide +kernel
theorem dX2_isNarrowerAt_53 : decode cX2_isNarrowerAt 53 = .ok (.iaload, 1) := by decide +kernel
theorem dX2_isNarrowerAt_54 : decode cX2_isNarrowerAt 54 = .ok (.invokevirtual 61, 3) := by decide +kernel
theorem dX2_isNarrowerAt_57 : decode cX2_isNarrowerAt 57 = .ok (.ifCond .eq 7, 3) := by decide +kernel
theorem dX2_isNarrowerAt_60 : decode cX2_isNarrowerAt 60 = .ok (.iconst 1, 1) := by decide +kernel
theorem dX2_isNarrowerAt_61 : decode cX2_isNarrowerAt 61 = .ok (.goto 4, 3) := by decide +kernel
theorem dX2_isNarrowerAt_64 : decode cX2_isNarrowerAt 64 = .ok (.iconst 0, 1) := by decide +kernel
theorem dX2_isNarrowerAt_65 : decode cX2_isNarrowerAt 65 = .ok (.ireturn, 1) := by decide +kernel
theorem dX2_isNarrowerAt_66 : decode cX2_isNarrowerAt 66 = .ok (.aload_n 2, 1) := by decide +kernel
theorem dX2_isNarrowerAt_67 : decode cX2_isNarrowerAt 67 = .ok (.getfield 41, 3) := by decide +kernel
theorem dX2_isNarrowerAt_70 : decode cX2_isNarrowerAt 70 = .ok (.iload_n 1, 1) := by decide +kernel
theorem dX2_isNarrowerAt_71 : decode cX2_isNarrowerAt 71 = .ok (.iaload, 1) := by decide +kernel
theorem dX2_isNarrowerAt_72 : decode cX2_isNarrowerAt 72 = .ok (.aload_n 0, 1) := by decide +kernel
theorem dX2_isNarrowerAt_73 : decode cX2_isNarrowerAt 73 = .ok (.getfield 41, 3) := by decide +kernel
theorem dX2_isNarrowerAt_76 : decode cX2_isNarrowerAt 76 = .ok (.iload_n 1, 1) := by decide +kernel
theorem dX2_isNarrowerAt_77 : decode cX2_isNarrowerAt 77 = .ok (.iaload, 1) := by decide +kernel
theorem dX2_isNarrowerAt_78 : decode cX2_isNarrowerAt 78 = .ok (.if_icmp .gt 31, 3) := by decide +kernel
theorem dX2_isNarrowerAt_81 : decode cX2_isNarrowerAt 81 = .ok (.aload_n 0, 1) := by decide +kernel
theorem dX2_isNarrowerAt_82 : decode cX2_isNarrowerAt 82 = .ok (.getfield 44, 3) := by decide +kernel
theorem dX2_isNarrowerAt_85 : decode cX2_isNarrowerAt 85 = .ok (.iload_n 1, 1) := by decide +kernel
theorem dX2_isNarrowerAt_86 : decode cX2_isNarrowerAt 86 = .ok (.iaload, 1) := by decide +kernel
theorem dX2_isNarrowerAt_87 : decode cX2_isNarrowerAt 87 = .ok (.aload_n 2, 1) := by decide +kernel
theorem dX2_isNarrowerAt_88 : decode cX2_isNarrowerAt 88 = .ok (.getfield 44, 3) := by decide +kernel
theorem dX2_isNarrowerAt_91 : decode cX2_isNarrowerAt 91 = .ok (.iload_n 1, 1) := by decide +kernel
theorem dX2_isNarrowerAt_92 : decode cX2_isNarrowerAt 92 = .ok (.iaload, 1) := by decide +kernel
theorem dX2_isNarrowerAt_93 : decode cX2_isNarrowerAt 93 = .ok (.if_icmp .gt 16, 3) := by decide +kernel
theorem dX2_isNarrowerAt_96 : decode cX2_isNarrowerAt 96 = .ok (.aload_n 0, 1) := by decide +kernel
theorem dX2_isNarrowerAt_97 : decode cX2_isNarrowerAt 97 = .ok (.iload_n 1, 1) := by decide +kernel
theorem dX2_isNarrowerAt_98 : decode cX2_isNarrowerAt 98 = .ok (.aload_n 2, 1) := by decide +kernel
theorem dX2_isNarrowerAt_99 : decode cX2_isNarrowerAt 99 = .ok (.invokevirtual 81, 3) := by decide +kernel
theorem dX2_isNarrowerAt_102 : decode cX2_isNarrowerAt 102 = .ok (.ifCond .ne 7, 3) := by decide +kernel
theorem dX2_isNarrowerAt_105 : decode cX2_isNarrowerAt 105 = .ok (.iconst 1, 1) := by decide +kernel
theorem dX2_isNarrowerAt_106 : decode cX2_isNarrowerAt 106 = .ok (.goto 4, 3) := by decide +kernel
theorem dX2_isNarrowerAt_109 : decode cX2_isNarrowerAt 109 = .ok (.iconst 0, 1) := by decide +kernel
theorem dX2_isNarrowerAt_110 : decode cX2_isNarrowerAt 110 = .ok (.ireturn, 1) := by decide +kernel
set_option maxRecDepth 20000 in
theorem ggX2_isSameAs_X2_isSameAt : GoodIn wsX2_isSameAs wsX2_isSameAt := goodIn_r _ [7, 8, 9, 10, 11, 12, 13, 14, 15, 16, 17, 18, 19] (by decide +kernel) (by decide +kernel)
set_option maxRecDepth 20000 in
theorem gX2_isSameAs_X2_isSameAt : GoodIn wsX2_isSameAs (wsV RX2 81 RX2 yX2_isSameAt wsX2_isSameAt) := goodIn_app (goodIn_of _ (by decide +kernel)) ggX2_isSameAs_X2_isSameAt
theorem dX2_isSameAs_0 : decode cX2_isSameAs 0 = .ok (.iconst 0, 1) := by decide +kernel
theorem dX2_isSameAs_1 : decode cX2_isSameAs 1 = .ok (.istore_n 2, 1) := by decide +kernel
theorem dX2_isSameAs_2 : decode cX2_isSameAs 2 = .ok (.iload_n 2, 1) := by decide +kernel
theorem dX2_isSameAs_3 : decode cX2_isSameAs 3 = .ok (.aload_n 0, 1) := by decide +kernel
theorem dX2_isSameAs_4 : decode cX2_isSameAs 4 = .ok (.getfield 15, 3) := by decide +kernel
theorem dX2_isSameAs_7 : decode cX2_isSameAs 7 = .ok (.getfield 32, 3) := by decide +kernel
theorem dX2_isSameAs_10 : decode cX2_isSameAs 10 = .ok (.if_icmp .ge 20, 3) := by decide +kernel
theorem dX2_isSameAs_13 : decode cX2_isSameAs 13 = .ok (.aload_n 0, 1) := by decide +kernel
theorem dX2_isSameAs_14 : decode cX2_isSameAs 14 = .ok (.iload_n 2, 1) := by decide +kernel
theorem dX2_isSameAs_15 : decode cX2_isSameAs 15 = .ok (.aload_n 1, 1) := by decide +kernel
theorem dX2_isSameAs_16 : decode cX2_isSameAs 16 = .ok (.invokevirtual 81, 3) := by decide +kernel
theorem dX2_isSameAs_19 : decode cX2_isSameAs 19 = .ok (.ifCond .ne 5, 3) := by decide +kernel
theorem dX2_isSameAs_22 : decode cX2_isSameAs 22 = .ok (.iconst 0, 1) := by decide +kernel
theorem dX2_isSameAs_23 : decode cX2_isSameAs 23 = .ok (.ireturn, 1) := by decide +kernel
theorem dX2_isSameAs_24 : decode cX2_isSameAs 24 = .ok (.iinc 2 1, 3) := by decide +kernel
theorem dX2_isSameAs_27 : decode cX2_isSameAs 27 = .ok (.goto (-25), 3) := by decide +kernel
theorem dX2_isSameAs_30 : decode cX2_isSameAs 30 = .ok (.iconst 1, 1) := by decide +kernel
theorem dX2_isSameAs_31 : decode cX2_isSameAs 31 = .ok (.ireturn, 1) := by decide +kernel
set_option maxRecDepth 20000 in
theorem ggX2_isMoreSpecific_X2_isNarrowerAt : GoodIn wsX2_isMoreSpecific wsX2_isNarrowerAt := goodIn_r _ [7, 8, 1, 9, 10, 11, 12, 13, 14, 15, 16, 17, 18, 19, 20, 6, 21, 22, 23, 24, 25, 26, 27, 28, 29, 30, 31, 32, 33, 34, 35, 36, 37, 38, 39, 40, 41, 42, 43, 44, 45] (by decide +kernel) (by decide +kernel)
set_option maxRecDepth 20000 in
theorem gX2_isMoreSpecific_X2_isNarrowerAt : GoodIn wsX2_isMoreSpecific (wsV RX2 85 RX2 yX2_isNarrowerAt wsX2_isNarrowerAt) := goodIn_app (goodIn_of _ (by decide +kernel)) ggX2_isMoreSpecific_X2_isNarrowerAt
set_option maxRecDepth 20000 in
theorem ggX2_isMoreSpecific_X2_isSameAt : GoodIn wsX2_isMoreSpecific wsX2_isSameAt := goodIn_r _ [21, 8, 10, 11, 22, 23, 24, 25, 26, 27, 28, 29, 30] (by decide +kernel) (by decide +kernel)
set_option maxRecDepth 20000 in
theorem gX2_isMoreSpecific_X2_isSameAt : GoodIn wsX2_isMoreSpecific (wsV RX2 81 RX2 yX2_isSameAt wsX2_isSameAt) := goodIn_app (goodIn_of _ (by decide +kernel)) ggX2_isMoreSpecific_X2_isSameAt
theorem dX2_isMoreSpecific_0 : decode cX2_isMoreSpecific 0 = .ok (.iconst 0, 1) := by decide +kernel
theorem dX2_isMoreSpecific_1 : decode cX2_isMoreSpecific 1 = .ok (.istore_n 2, 1) := by decide +kernel
theorem dX2_isMoreSpecific_2 : decode cX2_isMoreSpecific 2 = .ok (.iconst 0, 1) := by decide +kernel
theorem dX2_isMoreSpecific_3 : decode cX2_isMoreSpecific 3 = .ok (.istore_n 3, 1) := by decide +kernel
theorem dX2_isMoreSpecific_4 : decode cX2_isMoreSpecific 4 = .ok (.iload_n 3, 1) := by decide +kernel
theorem dX2_isMoreSpecific_5 : decode cX2_isMoreSpecific 5 = .ok (.aload_n 0, 1) := by decide +kernel
theorem dX2_isMoreSpecific_6 : decode cX2_isMoreSpecific 6 = .ok (.getfield 15, 3) := by decide +kernel
theorem dX2_isMoreSpecific_9 : decode cX2_isMoreSpecific 9 = .ok (.getfield 32, 3) := by decide +kernel
theorem dX2_isMoreSpecific_12 : decode cX2_isMoreSpecific 12 = .ok (.if_icmp .ge 34, 3) := by decide +kernel
theorem dX2_isMoreSpecific_15 : decode cX2_isMoreSpecific 15 = .ok (.aload_n 0, 1) := by decide +kernel
theorem dX2_isMoreSpecific_16 : decode cX2_isMoreSpecific 16 = .ok (.iload_n 3, 1) := by decide +kernel
theorem dX2_isMoreSpecific_17 : decode cX2_isMoreSpecific 17 = .ok (.aload_n 1, 1) := by decide +kernel
theorem dX2_isMoreSpecific_18 : decode cX2_isMoreSpecific 18 = .ok (.invokevirtual 85, 3) := by decide +kernel
theorem dX2_isMoreSpecific_21 : decode cX2_isMoreSpecific 21 = .ok (.ifCond .eq 8, 3) := by decide +kernel
theorem dX2_isMoreSpecific_24 : decode cX2_isMoreSpecific 24 = .ok (.iconst 1, 1) := by decide +kernel
theorem dX2_isMoreSpecific_25 : decode cX2_isMoreSpecific 25 = .ok (.istore_n 2, 1) := by decide +kernel
theorem dX2_isMoreSpecific_26 : decode cX2_isMoreSpecific 26 = .ok (.goto 14, 3) := by decide +kernel
theorem dX2_isMoreSpecific_29 : decode cX2_isMoreSpecific 29 = .ok (.aload_n 0, 1) := by decide +kernel
theorem dX2_isMoreSpecific_30 : decode cX2_isMoreSpecific 30 = .ok (.iload_n 3, 1) := by decide +kernel
theorem dX2_isMoreSpecific_31 : decode cX2_isMoreSpecific 31 = .ok (.aload_n 1, 1) := by decide +kernel
theorem dX2_isMoreSpecific_32 : decode cX2_isMoreSpecific 32 = .ok (.invokevirtual 81, 3) := by decide +kernel
theorem dX2_isMoreSpecific_35 : decode cX2_isMoreSpecific 35 = .ok (.ifCond .ne 5, 3) := by decide +kernel
theorem dX2_isMoreSpecific_38 : decode cX2_isMoreSpecific 38 = .ok (.iconst 0, 1) := by decide +kernel
theorem dX2_isMoreSpecific_39 : decode cX2_isMoreSpecific 39 = .ok (.ireturn, 1) := by decide +kernel
theorem dX2_isMoreSpecific_40 : decode cX2_isMoreSpecific 40 = .ok (.iinc 3 1, 3) := by decide +kernel
theorem dX2_isMoreSpecific_43 : decode cX2_isMoreSpecific 43 = .ok (.goto (-39), 3) := by decide +kernel
theorem dX2_isMoreSpecific_46 : decode cX2_isMoreSpecific 46 = .ok (.iload_n 2, 1) := by decide +kernel
theorem dX2_isMoreSpecific_47 : decode cX2_isMoreSpecific 47 = .ok (.ireturn, 1) := by decide +kernel
theorem dX3_init_0 : decode cX3_init 0 = .ok (.aload_n 0, 1) := by decide +kernel
theorem dX3_init_1 : decode cX3_init 1 = .ok (.invokespecial 3, 3) := by decide +kernel
theorem dX3_init_4 : decode cX3_init 4 = .ok (.aload_n 0, 1) := by decide +kernel
theorem dX3_init_5 : decode cX3_init 5 = .ok (.sipush 1000, 3) := by decide +kernel
theorem dX3_init_8 : decode cX3_init 8 = .ok (.newarray .int, 2) := by decide +kernel
theorem dX3_init_10 : decode cX3_init 10 = .ok (.putfield 9, 3) := by decide +kernel
theorem dX3_init_13 : decode cX3_init 13 = .ok (.aload_n 0, 1) := by decide +kernel
theorem dX3_init_14 : decode cX3_init 14 = .ok (.iconst 0, 1) := by decide +kernel
theorem dX3_init_15 : decode cX3_init 15 = .ok (.putfield 15, 3) := by decide +kernel
theorem dX3_init_18 : decode cX3_init 18 = .ok (.aload_n 0, 1) := by decide +kernel
theorem dX3_init_19 : decode cX3_init 19 = .ok (.iconst 0, 1) := by decide +kernel
theorem dX3_init_20 : decode cX3_init 20 = .ok (.putfield 19, 3) := by decide +kernel
theorem dX3_init_23 : decode cX3_init 23 = .ok (.aload_n 0, 1) := by decide +kernel
theorem dX3_init_24 : decode cX3_init 24 = .ok (.iconst 0, 1) := by decide +kernel
theorem dX3_init_25 : decode cX3_init 25 = .ok (.putfield 22, 3) := by decide +kernel
theorem dX3_init_28 : decode cX3_init 28 = .ok (.aload_n 0, 1) := by decide +kernel
theorem dX3_init_29 : decode cX3_init 29 = .ok (.iconst 0, 1) := by decide +kernel
theorem dX3_init_30 : decode cX3_init 30 = .ok (.putfield 25, 3) := by decide +kernel
theorem dX3_init_33 : decode cX3_init 33 = .ok (.aload_n 0, 1) := by decide +kernel
theorem dX3_init_34 : decode cX3_init 34 = .ok (.lconst 0, 1) := by decide +kernel
theorem dX3_init_35 : decode cX3_init 35 = .ok (.putfield 28, 3) := by decide +kernel
theorem dX3_init_38 : decode cX3_init 38 = .ok (.return_, 1) := by decide +kernel
theorem dX3_begin_0 : decode cX3_begin 0 = .ok (.aload_n 0, 1) := by decide +kernel
theorem dX3_begin_1 : decode cX3_begin 1 = .ok (.iconst 0, 1) := by decide +kernel
theorem dX3_begin_2 : decode cX3_begin 2 = .ok (.putfield 15, 3) := by decide +kernel
theorem dX3_begin_5 : decode cX3_begin 5 = .ok (.aload_n 0, 1) := by decide +kernel
theorem dX3_begin_6 : decode cX3_begin 6 = .ok (.iconst 0, 1) := by decide +kernel
theorem dX3_begin_7 : decode cX3_begin 7 = .ok (.putfield 19, 3) := by decide +kernel
theorem dX3_begin_10 : decode cX3_begin 10 = .ok (.aload_n 0, 1) := by decide +kernel
theorem dX3_begin_11 : decode cX3_begin 11 = .ok (.iconst 0, 1) := by decide +kernel
theorem dX3_begin_12 : decode cX3_begin 12 = .ok (.putfield 22, 3) := by decide +kernel
theorem dX3_begin_15 : decode cX3_begin 15 = .ok (.aload_n 0, 1) := by decide +kernel
theorem dX3_begin_16 : decode cX3_begin 16 = .ok (.iconst 0, 1) := by decide +kernel
theorem dX3_begin_17 : decode cX3_begin 17 = .ok (.putfield 25, 3) := by decide +kernel
theorem dX3_begin_20 : decode cX3_begin 20 = .ok (.aload_n 0, 1) := by decide +kernel
theorem dX3_begin_21 : decode cX3_begin 21 = .ok (.lconst 0, 1) := by decide +kernel
theorem dX3_begin_22 : decode cX3_begin 22 = .ok (.putfield 28, 3) := by decide +kernel
theorem dX3_begin_25 : decode cX3_begin 25 = .ok (.return_, 1) := by decide +kernel
theorem dX3_addStep_0 : decode cX3_addStep 0 = .ok (.aload_n 0, 1) := by decide +kernel
theorem dX3_addStep_1 : decode cX3_addStep 1 = .ok (.getfield 15, 3) := by decide +kernel
theorem dX3_addStep_4 : decode cX3_addStep 4 = .ok (.sipush 1000, 3) := by decide +kernel
theorem dX3_addStep_7 : decode cX3_addStep 7 = .ok (.if_icmp .ge 13, 3) := by decide +kernel
theorem dX3_addStep_10 : decode cX3_addStep 10 = .ok (.aload_n 0, 1) := by decide +kernel
theorem dX3_addStep_11 : decode cX3_addStep 11 = .ok (.getfield 9, 3) := by decide +kernel
theorem dX3_addStep_14 : decode cX3_addStep 14 = .ok (.aload_n 0, 1) := by decide +kernel
theorem dX3_addStep_15 : decode cX3_addStep 15 = .ok (.getfield 15, 3) := by decide +kernel
theorem dX3_addStep_18 : decode cX3_addStep 18 = .ok (.iload_n 1, 1) := by decide +kernel
theorem dX3_addStep_19 : decode cX3_addStep 19 = .ok (.iastore, 1) := by decide +kernel
theorem dX3_addStep_20 : decode cX3_addStep 20 = .ok (.aload_n 0, 1) := by decide +kernel
theorem dX3_addStep_21 : decode cX3_addStep 21 = .ok (.dup, 1) := by decide +kernel
theorem dX3_addStep_22 : decode cX3_addStep 22 = .ok (.getfield 15, 3) := by decide +kernel
theorem dX3_addStep_25 : decode cX3_addStep 25 = .ok (.iconst 1, 1) := by decide +kernel
theorem dX3_addStep_26 : decode cX3_addStep 26 = .ok (.iadd, 1) := by decide +kernel
theorem dX3_addStep_27 : decode cX3_addStep 27 = .ok (.putfield 15, 3) := by decide +kernel
theorem dX3_addStep_30 : decode cX3_addStep 30 = .ok (.return_, 1) := by decide +kernel
theorem dX3_endWithValue_0 : decode cX3_endWithValue 0 = .ok (.aload_n 0, 1) := by decide +kernel
theorem dX3_endWithValue_1 : decode cX3_endWithValue 1 = .ok (.iconst 0, 1) := by decide +kernel
theorem dX3_endWithValue_2 : decode cX3_endWithValue 2 = .ok (.putfield 22, 3) := by decide +kernel
theorem dX3_endWithValue_5 : decode cX3_endWithValue 5 = .ok (.aload_n 0, 1) := by decide +kernel
theorem dX3_endWithValue_6 : decode cX3_endWithValue 6 = .ok (.dup, 1) := by decide +kernel
theorem dX3_endWithValue_7 : decode cX3_endWithValue 7 = .ok (.getfield 28, 3) := by decide +kernel
theorem dX3_endWithValue_10 : decode cX3_endWithValue 10 = .ok (.lload_n 1, 1) := by decide +kernel
theorem dX3_endWithValue_11 : decode cX3_endWithValue 11 = .ok (.ladd, 1) := by decide +kernel
theorem dX3_endWithValue_12 : decode cX3_endWithValue 12 = .ok (.putfield 28, 3) := by decide +kernel
theorem dX3_endWithValue_15 : decode cX3_endWithValue 15 = .ok (.return_, 1) := by decide +kernel
theorem dX3_endWithFailure_0 : decode cX3_endWithFailure 0 = .ok (.aload_n 0, 1) := by decide +kernel
theorem dX3_endWithFailure_1 : decode cX3_endWithFailure 1 = .ok (.iconst 3, 1) := by decide +kernel
theorem dX3_endWithFailure_2 : decode cX3_endWithFailure 2 = .ok (.putfield 22, 3) := by decide +kernel
theorem dX3_endWithFailure_5 : decode cX3_endWithFailure 5 = .ok (.aload_n 0, 1) := by decide +kernel
theorem dX3_endWithFailure_6 : decode cX3_endWithFailure 6 = .ok (.iload_n 1, 1) := by decide +kernel
theorem dX3_endWithFailure_7 : decode cX3_endWithFailure 7 = .ok (.putfield 25, 3) := by decide +kernel
theorem dX3_endWithFailure_10 : decode cX3_endWithFailure 10 = .ok (.return_, 1) := by decide +kernel
theorem dX4_init_0 : decode cX4_init 0 = .ok (.aload_n 0, 1) := by decide +kernel
theorem dX4_init_1 : decode cX4_init 1 = .ok (.invokespecial 3, 3) := by decide +kernel
theorem dX4_init_4 : decode cX4_init 4 = .ok (.aload_n 0, 1) := by decide +kernel
theorem dX4_init_5 : decode cX4_init 5 = .ok (.bipush 16, 2) := by decide +kernel
theorem dX4_init_7 : decode cX4_init 7 = .ok (.newarray .int, 2) := by decide +kernel
theorem dX4_init_9 : decode cX4_init 9 = .ok (.putfield 9, 3) := by decide +kernel
theorem dX4_init_12 : decode cX4_init 12 = .ok (.aload_n 0, 1) := by decide +kernel
theorem dX4_init_13 : decode cX4_init 13 = .ok (.bipush 16, 2) := by decide +kernel
theorem dX4_init_15 : decode cX4_init 15 = .ok (.newarray .long, 2) := by decide +kernel
theorem dX4_init_17 : decode cX4_init 17 = .ok (.putfield 15, 3) := by decide +kernel
theorem dX4_init_20 : decode cX4_init 20 = .ok (.aload_n 0, 1) := by decide +kernel
theorem dX4_init_21 : decode cX4_init 21 = .ok (.bipush 16, 2) := by decide +kernel
theorem dX4_init_23 : decode cX4_init 23 = .ok (.newarray .long, 2) := by decide +kernel
theorem dX4_init_25 : decode cX4_init 25 = .ok (.putfield 19, 3) := by decide +kernel
theorem dX4_init_28 : decode cX4_init 28 = .ok (.aload_n 0, 1) := by decide +kernel
theorem dX4_init_29 : decode cX4_init 29 = .ok (.bipush 16, 2) := by decide +kernel
theorem dX4_init_31 : decode cX4_init 31 = .ok (.newarray .int, 2) := by decide +kernel
theorem dX4_init_33 : decode cX4_init 33 = .ok (.putfield 22, 3) := by decide +kernel
theorem dX4_init_36 : decode cX4_init 36 = .ok (.aload_n 0, 1) := by decide +kernel
theorem dX4_init_37 : decode cX4_init 37 = .ok (.iconst 0, 1) := by decide +kernel
theorem dX4_init_38 : decode cX4_init 38 = .ok (.putfield 25, 3) := by decide +kernel
theorem dX4_init_41 : decode cX4_init 41 = .ok (.aload_n 0, 1) := by decide +kernel
theorem dX4_init_42 : decode cX4_init 42 = .ok (.iconst 0, 1) := by decide +kernel
theorem dX4_init_43 : decode cX4_init 43 = .ok (.putfield 29, 3) := by decide +kernel
theorem dX4_init_46 : decode cX4_init 46 = .ok (.aload_n 0, 1) := by decide +kernel
theorem dX4_init_47 : decode cX4_init 47 = .ok (.iconst 0, 1) := by decide +kernel
theorem dX4_init_48 : decode cX4_init 48 = .ok (.putfield 32, 3) := by decide +kernel
theorem dX4_init_51 : decode cX4_init 51 = .ok (.return_, 1) := by decide +kernel
theorem dX4_forget_0 : decode cX4_forget 0 = .ok (.aload_n 0, 1) := by decide +kernel
theorem dX4_forget_1 : decode cX4_forget 1 = .ok (.iconst 0, 1) := by decide +kernel
theorem dX4_forget_2 : decode cX4_forget 2 = .ok (.putfield 29, 3) := by decide +kernel
theorem dX4_forget_5 : decode cX4_forget 5 = .ok (.return_, 1) := by decide +kernel
set_option maxRecDepth 20000 in
theorem ggX4_look_X4_find : GoodIn wsX4_look wsX4_find := goodIn_r _ [11, 12, 2, 3, 4, 17, 18, 19, 20, 21, 22, 23] (by decide +kernel) (by decide +kernel)
set_option maxRecDepth 20000 in
theorem gX4_look_X4_find : GoodIn wsX4_look (wsV RX4 35 RX4 yX4_find wsX4_find) := goodIn_app (goodIn_of _ (by decide +kernel)) ggX4_look_X4_find
set_option maxRecDepth 20000 in
theorem ggX4_look_X4_makeRoom : GoodIn wsX4_look wsX4_makeRoom := goodIn_r _ [16, 12, 6, 17, 18, 19, 20, 21, 22, 23] (by decide +kernel) (by decide +kernel)
set_option maxRecDepth 20000 in
theorem gX4_look_X4_makeRoom : GoodIn wsX4_look (wsV RX4 39 RX4 yX4_makeRoom wsX4_makeRoom) := goodIn_app (goodIn_of _ (by decide +kernel)) ggX4_look_X4_makeRoom
theorem dX4_look_0 : decode cX4_look 0 = .ok (.aload_n 0, 1) := by decide +kernel
theorem dX4_look_1 : decode cX4_look 1 = .ok (.iload_n 1, 1) := by decide +kernel
theorem dX4_look_2 : decode cX4_look 2 = .ok (.lload_n 2, 1) := by decide +kernel
theorem dX4_look_3 : decode cX4_look 3 = .ok (.lload 4, 2) := by decide +kernel
theorem dX4_look_5 : decode cX4_look 5 = .ok (.invokevirtual 35, 3) := by decide +kernel
theorem dX4_look_8 : decode cX4_look 8 = .ok (.istore 6, 2) := by decide +kernel
theorem dX4_look_10 : decode cX4_look 10 = .ok (.iload 6, 2) := by decide +kernel
theorem dX4_look_12 : decode cX4_look 12 = .ok (.iconst (-1), 1) := by decide +kernel
theorem dX4_look_13 : decode cX4_look 13 = .ok (.if_icmp .eq 16, 3) := by decide +kernel
theorem dX4_look_16 : decode cX4_look 16 = .ok (.aload_n 0, 1) := by decide +kernel
theorem dX4_look_17 : decode cX4_look 17 = .ok (.dup, 1) := by decide +kernel
theorem dX4_look_18 : decode cX4_look 18 = .ok (.getfield 32, 3) := by decide +kernel
theorem dX4_look_21 : decode cX4_look 21 = .ok (.iconst 1, 1) := by decide +kernel
theorem dX4_look_22 : decode cX4_look 22 = .ok (.iadd, 1) := by decide +kernel
theorem dX4_look_23 : decode cX4_look 23 = .ok (.putfield 32, 3) := by decide +kernel
theorem dX4_look_26 : decode cX4_look 26 = .ok (.goto 34, 3) := by decide +kernel
theorem dX4_look_29 : decode cX4_look 29 = .ok (.aload_n 0, 1) := by decide +kernel
theorem dX4_look_30 : decode cX4_look 30 = .ok (.invokevirtual 39, 3) := by decide +kernel
theorem dX4_look_33 : decode cX4_look 33 = .ok (.istore 6, 2) := by decide +kernel
theorem dX4_look_35 : decode cX4_look 35 = .ok (.aload_n 0, 1) := by decide +kernel
theorem dX4_look_36 : decode cX4_look 36 = .ok (.getfield 9, 3) := by decide +kernel
theorem dX4_look_39 : decode cX4_look 39 = .ok (.iload 6, 2) := by decide +kernel
theorem dX4_look_41 : decode cX4_look 41 = .ok (.iload_n 1, 1) := by decide +kernel
theorem dX4_look_42 : decode cX4_look 42 = .ok (.iastore, 1) := by decide +kernel
theorem dX4_look_43 : decode cX4_look 43 = .ok (.aload_n 0, 1) := by decide +kernel
theorem dX4_look_44 : decode cX4_look 44 = .ok (.getfield 15, 3) := by decide +kernel
theorem dX4_look_47 : decode cX4_look 47 = .ok (.iload 6, 2) := by decide +kernel
theorem dX4_look_49 : decode cX4_look 49 = .ok (.lload_n 2, 1) := by decide +kernel
theorem dX4_look_50 : decode cX4_look 50 = .ok (.lastore, 1) := by decide +kernel
theorem dX4_look_51 : decode cX4_look 51 = .ok (.aload_n 0, 1) := by decide +kernel
theorem dX4_look_52 : decode cX4_look 52 = .ok (.getfield 19, 3) := by decide +kernel
theorem dX4_look_55 : decode cX4_look 55 = .ok (.iload 6, 2) := by decide +kernel
theorem dX4_look_57 : decode cX4_look 57 = .ok (.lload 4, 2) := by decide +kernel
theorem dX4_look_59 : decode cX4_look 59 = .ok (.lastore, 1) := by decide +kernel
theorem dX4_look_60 : decode cX4_look 60 = .ok (.aload_n 0, 1) := by decide +kernel
theorem dX4_look_61 : decode cX4_look 61 = .ok (.dup, 1) := by decide +kernel
theorem dX4_look_62 : decode cX4_look 62 = .ok (.getfield 25, 3) := by decide +kernel
theorem dX4_look_65 : decode cX4_look 65 = .ok (.iconst 1, 1) := by decide +kernel
theorem dX4_look_66 : decode cX4_look 66 = .ok (.iadd, 1) := by decide +kernel
theorem dX4_look_67 : decode cX4_look 67 = .ok (.putfield 25, 3) := by decide +kernel
theorem dX4_look_70 : decode cX4_look 70 = .ok (.aload_n 0, 1) := by decide +kernel
theorem dX4_look_71 : decode cX4_look 71 = .ok (.getfield 22, 3) := by decide +kernel
theorem dX4_look_74 : decode cX4_look 74 = .ok (.iload 6, 2) := by decide +kernel
theorem dX4_look_76 : decode cX4_look 76 = .ok (.aload_n 0, 1) := by decide +kernel
theorem dX4_look_77 : decode cX4_look 77 = .ok (.getfield 25, 3) := by decide +kernel
theorem dX4_look_80 : decode cX4_look 80 = .ok (.iastore, 1) := by decide +kernel
theorem dX4_look_81 : decode cX4_look 81 = .ok (.return_, 1) := by decide +kernel
theorem dX4_find_0 : decode cX4_find 0 = .ok (.iconst 0, 1) := by decide +kernel
theorem dX4_find_1 : decode cX4_find 1 = .ok (.istore 6, 2) := by decide +kernel
theorem dX4_find_3 : decode cX4_find 3 = .ok (.iload 6, 2) := by decide +kernel
theorem dX4_find_5 : decode cX4_find 5 = .ok (.aload_n 0, 1) := by decide +kernel
theorem dX4_find_6 : decode cX4_find 6 = .ok (.getfield 29, 3) := by decide +kernel
theorem dX4_find_9 : decode cX4_find 9 = .ok (.if_icmp .ge 48, 3) := by decide +kernel
theorem dX4_find_12 : decode cX4_find 12 = .ok (.aload_n 0, 1) := by decide +kernel
theorem dX4_find_13 : decode cX4_find 13 = .ok (.getfield 9, 3) := by decide +kernel
theorem dX4_find_16 : decode cX4_find 16 = .ok (.iload 6, 2) := by decide +kernel
theorem dX4_find_18 : decode cX4_find 18 = .ok (.iaload, 1) := by decide +kernel
theorem dX4_find_19 : decode cX4_find 19 = .ok (.iload_n 1, 1) := by decide +kernel
theorem dX4_find_20 : decode cX4_find 20 = .ok (.if_icmp .ne 31, 3) := by decide +kernel
theorem dX4_find_23 : decode cX4_find 23 = .ok (.aload_n 0, 1) := by decide +kernel
theorem dX4_find_24 : decode cX4_find 24 = .ok (.getfield 15, 3) := by decide +kernel
theorem dX4_find_27 : decode cX4_find 27 = .ok (.iload 6, 2) := by decide +kernel
theorem dX4_find_29 : decode cX4_find 29 = .ok (.laload, 1) := by decide +kernel
theorem dX4_find_30 : decode cX4_find 30 = .ok (.lload_n 2, 1) := by decide +kernel
theorem dX4_find_31 : decode cX4_find 31 = .ok (.lcmp, 1) := by decide +kernel
theorem dX4_find_32 : decode cX4_find 32 = .ok (.ifCond .ne 19, 3) := by decide +kernel
theorem dX4_find_35 : decode cX4_find 35 = .ok (.aload_n 0, 1) := by decide +kernel
theorem dX4_find_36 : decode cX4_find 36 = .ok (.getfield 19, 3) := by decide +kernel
theorem dX4_find_39 : decode cX4_find 39 = .ok (.iload 6, 2) := by decide +kernel
theorem dX4_find_41 : decode cX4_find 41 = .ok (.laload, 1) := by decide +kernel
theorem dX4_find_42 : decode cX4_find 42 = .ok (.lload 4, 2) := by decide +kernel
theorem dX4_find_44 : decode cX4_find 44 = .ok (.lcmp, 1) := by decide +kernel
theorem dX4_find_45 : decode cX4_find 45 = .ok (.ifCond .ne 6, 3) := by decide +kernel
theorem dX4_find_48 : decode cX4_find 48 = .ok (.iload 6, 2) := by decide +kernel
theorem dX4_find_50 : decode cX4_find 50 = .ok (.ireturn, 1) := by decide +kernel
theorem dX4_find_51 : decode cX4_find 51 = .ok (.iinc 6 1, 3) := by decide +kernel
theorem dX4_find_54 : decode cX4_find 54 = .ok (.goto (-51), 3) := by decide +kernel
theorem dX4_find_57 : decode cX4_find 57 = .ok (.iconst (-1), 1) := by decide +kernel
theorem dX4_find_58 : decode cX4_find 58 = .ok (.ireturn, 1) := by decide +kernel
theorem dX4_makeRoom_0 : decode cX4_makeRoom 0 = .ok (.aload_n 0, 1) := by decide +kernel
theorem dX4_makeRoom_1 : decode cX4_makeRoom 1 = .ok (.getfield 29, 3) := by decide +kernel
theorem dX4_makeRoom_4 : decode cX4_makeRoom 4 = .ok (.bipush 16, 2) := by decide +kernel
theorem dX4_makeRoom_6 : decode cX4_makeRoom 6 = .ok (.if_icmp .ge 20, 3) := by decide +kernel
theorem dX4_makeRoom_9 : decode cX4_makeRoom 9 = .ok (.aload_n 0, 1) := by decide +kernel
theorem dX4_makeRoom_10 : decode cX4_makeRoom 10 = .ok (.dup, 1) := by decide +kernel
theorem dX4_makeRoom_11 : decode cX4_makeRoom 11 = .ok (.getfield 29, 3) := by decide +kernel
theorem dX4_makeRoom_14 : decode cX4_makeRoom 14 = .ok (.iconst 1, 1) := by decide +kernel
theorem dX4_makeRoom_15 : decode cX4_makeRoom 15 = .ok (.iadd, 1) := by decide +kernel
theorem dX4_makeRoom_16 : decode cX4_makeRoom 16 = .ok (.putfield 29, 3) := by decide +kernel
theorem dX4_makeRoom_19 : decode cX4_makeRoom 19 = .ok (.aload_n 0, 1) := by decide +kernel
theorem dX4_makeRoom_20 : decode cX4_makeRoom 20 = .ok (.getfield 29, 3) := by decide +kernel
theorem dX4_makeRoom_23 : decode cX4_makeRoom 23 = .ok (.iconst 1, 1) := by decide +kernel
theorem dX4_makeRoom_24 : decode cX4_makeRoom 24 = .ok (.isub, 1) := by decide +kernel
theorem dX4_makeRoom_25 : decode cX4_makeRoom 25 = .ok (.ireturn, 1) := by decide +kernel
theorem dX4_makeRoom_26 : decode cX4_makeRoom 26 = .ok (.iconst 0, 1) := by decide +kernel
theorem dX4_makeRoom_27 : decode cX4_makeRoom 27 = .ok (.istore_n 1, 1) := by decide +kernel
theorem dX4_makeRoom_28 : decode cX4_makeRoom 28 = .ok (.iconst 1, 1) := by decide +kernel
theorem dX4_makeRoom_29 : decode cX4_makeRoom 29 = .ok (.istore_n 2, 1) := by decide +kernel
theorem dX4_makeRoom_30 : decode cX4_makeRoom 30 = .ok (.iload_n 2, 1) := by decide +kernel
theorem dX4_makeRoom_31 : decode cX4_makeRoom 31 = .ok (.bipush 16, 2) := by decide +kernel
theorem dX4_makeRoom_33 : decode cX4_makeRoom 33 = .ok (.if_icmp .ge 26, 3) := by decide +kernel
theorem dX4_makeRoom_36 : decode cX4_makeRoom 36 = .ok (.aload_n 0, 1) := by decide +kernel
theorem dX4_makeRoom_37 : decode cX4_makeRoom 37 = .ok (.getfield 22, 3) := by decide +kernel
theorem dX4_makeRoom_40 : decode cX4_makeRoom 40 = .ok (.iload_n 2, 1) := by decide +kernel
theorem dX4_makeRoom_41 : decode cX4_makeRoom 41 = .ok (.iaload, 1) := by decide +kernel
theorem dX4_makeRoom_42 : decode cX4_makeRoom 42 = .ok (.aload_n 0, 1) := by decide +kernel
theorem dX4_makeRoom_43 : decode cX4_makeRoom 43 = .ok (.getfield 22, 3) := by decide +kernel
theorem dX4_makeRoom_46 : decode cX4_makeRoom 46 = .ok (.iload_n 1, 1) := by decide +kernel
theorem dX4_makeRoom_47 : decode cX4_makeRoom 47 = .ok (.iaload, 1) := by decide +kernel
theorem dX4_makeRoom_48 : decode cX4_makeRoom 48 = .ok (.if_icmp .ge 5, 3) := by decide +kernel
theorem dX4_makeRoom_51 : decode cX4_makeRoom 51 = .ok (.iload_n 2, 1) := by decide +kernel
theorem dX4_makeRoom_52 : decode cX4_makeRoom 52 = .ok (.istore_n 1, 1) := by decide +kernel
theorem dX4_makeRoom_53 : decode cX4_makeRoom 53 = .ok (.iinc 2 1, 3) := by decide +kernel
theorem dX4_makeRoom_56 : decode cX4_makeRoom 56 = .ok (.goto (-26), 3) := by decide +kernel
theorem dX4_makeRoom_59 : decode cX4_makeRoom 59 = .ok (.iload_n 1, 1) := by decide +kernel
theorem dX4_makeRoom_60 : decode cX4_makeRoom 60 = .ok (.ireturn, 1) := by decide +kernel
set_option maxRecDepth 20000 in
theorem ggX5_init_X0_init : GoodIn wsX5_init wsX0_init := goodIn_r _ [14, 15, 2, 3, 16, 17, 18, 19, 20, 21, 22, 23, 24, 25, 26, 27, 28, 29, 30] (by decide +kernel) (by decide +kernel)
set_option maxRecDepth 20000 in
theorem gX5_init_X0_init_n11 : GoodIn wsX5_init (wsX0_init) := ggX5_init_X0_init
theorem dX5_init_0 : decode cX5_init 0 = .ok (.aload_n 0, 1) := by decide +kernel
theorem dX5_init_1 : decode cX5_init 1 = .ok (.invokespecial 3, 3) := by decide +kernel
theorem dX5_init_4 : decode cX5_init 4 = .ok (.aload_n 0, 1) := by decide +kernel
theorem dX5_init_5 : decode cX5_init 5 = .ok (.new 9, 3) := by decide +kernel
theorem dX5_init_8 : decode cX5_init 8 = .ok (.dup, 1) := by decide +kernel
theorem dX5_init_9 : decode cX5_init 9 = .ok (.invokespecial 11, 3) := by decide +kernel
theorem dX5_init_12 : decode cX5_init 12 = .ok (.putfield 12, 3) := by decide +kernel
theorem dX5_init_15 : decode cX5_init 15 = .ok (.aload_n 0, 1) := by decide +kernel
theorem dX5_init_16 : decode cX5_init 16 = .ok (.new 9, 3) := by decide +kernel
theorem dX5_init_19 : decode cX5_init 19 = .ok (.dup, 1) := by decide +kernel
theorem dX5_init_20 : decode cX5_init 20 = .ok (.invokespecial 11, 3) := by decide +kernel
theorem dX5_init_23 : decode cX5_init 23 = .ok (.putfield 18, 3) := by decide +kernel
theorem dX5_init_26 : decode cX5_init 26 = .ok (.aload_n 0, 1) := by decide +kernel
theorem dX5_init_27 : decode cX5_init 27 = .ok (.iconst 0, 1) := by decide +kernel
theorem dX5_init_28 : decode cX5_init 28 = .ok (.putfield 21, 3) := by decide +kernel
theorem dX5_init_31 : decode cX5_init 31 = .ok (.aload_n 0, 1) := by decide +kernel
theorem dX5_init_32 : decode cX5_init 32 = .ok (.iconst 0, 1) := by decide +kernel
theorem dX5_init_33 : decode cX5_init 33 = .ok (.putfield 25, 3) := by decide +kernel
theorem dX5_init_36 : decode cX5_init 36 = .ok (.aload_n 0, 1) := by decide +kernel
theorem dX5_init_37 : decode cX5_init 37 = .ok (.iconst 0, 1) := by decide +kernel
theorem dX5_init_38 : decode cX5_init 38 = .ok (.putfield 28, 3) := by decide +kernel
theorem dX5_init_41 : decode cX5_init 41 = .ok (.aload_n 0, 1) := by decide +kernel
theorem dX5_init_42 : decode cX5_init 42 = .ok (.iconst 0, 1) := by decide +kernel
theorem dX5_init_43 : decode cX5_init 43 = .ok (.putfield 31, 3) := by decide +kernel
theorem dX5_init_46 : decode cX5_init 46 = .ok (.return_, 1) := by decide +kernel
set_option maxRecDepth 20000 in
theorem ggX5_fillCells_X0_fill : GoodIn wsX5_fillCells wsX0_fill := goodIn_r _ [7, 8, 9, 10, 11, 12, 13, 14, 15, 16, 17, 18, 19, 6, 20, 21, 22, 23, 24, 25, 26, 27, 28, 29, 30, 31, 32, 33, 34, 35, 36, 37, 38, 39, 40, 41, 42, 43, 44, 45, 46, 47, 48, 49, 50, 51, 52, 53, 54, 55, 56, 57, 58, 59, 60, 61, 62, 63, 64, 65, 66, 67, 68, 69, 70, 71, 72, 73, 74, 75, 76, 77, 78, 79, 80, 81, 82, 83, 90, 91, 92, 93, 94, 95, 96, 97, 98, 99, 100, 101, 102, 103, 104, 105, 106, 107, 108, 109, 110, 111, 112, 113, 114, 115, 116, 117, 118, 119, 120] (by decide +kernel) (by decide +kernel)
set_option maxRecDepth 20000 in
theorem gX5_fillCells_X0_fill : GoodIn wsX5_fillCells (wsV RX5 34 RX0 yX0_fill wsX0_fill) := goodIn_app (goodIn_of _ (by decide +kernel)) ggX5_fillCells_X0_fill
theorem dX5_fillCells_0 : decode cX5_fillCells 0 = .ok (.aload_n 0, 1) := by decide +kernel
theorem dX5_fillCells_1 : decode cX5_fillCells 1 = .ok (.getfield 12, 3) := by decide +kernel
theorem dX5_fillCells_4 : decode cX5_fillCells 4 = .ok (.aload_n 1, 1) := by decide +kernel
theorem dX5_fillCells_5 : decode cX5_fillCells 5 = .ok (.iconst 0, 1) := by decide +kernel
theorem dX5_fillCells_6 : decode cX5_fillCells 6 = .ok (.invokevirtual 34, 3) := by decide +kernel
theorem dX5_fillCells_9 : decode cX5_fillCells 9 = .ok (.aload_n 0, 1) := by decide +kernel
theorem dX5_fillCells_10 : decode cX5_fillCells 10 = .ok (.getfield 18, 3) := by decide +kernel
theorem dX5_fillCells_13 : decode cX5_fillCells 13 = .ok (.aload_n 1, 1) := by decide +kernel
theorem dX5_fillCells_14 : decode cX5_fillCells 14 = .ok (.iconst 1, 1) := by decide +kernel
theorem dX5_fillCells_15 : decode cX5_fillCells 15 = .ok (.invokevirtual 34, 3) := by decide +kernel
theorem dX5_fillCells_18 : decode cX5_fillCells 18 = .ok (.return_, 1) := by decide +kernel
set_option maxRecDepth 20000 in
theorem ggX5_findHole_X5_fillCells : GoodIn wsX5_findHole wsX5_fillCells := goodIn_r _ [9, 1, 3, 10, 11, 12, 13, 14, 15, 16, 17, 18, 19, 20, 21, 22, 23, 24, 25, 26, 27, 28, 29, 30, 31, 32, 33, 34, 35, 36, 37, 38, 39, 40, 41, 42, 43, 44, 45, 46, 47, 48, 49, 50, 51, 52, 53, 54, 55, 56, 57, 58, 59, 60, 61, 62, 63, 64, 65, 66, 67, 68, 69, 70, 71, 72, 73, 74, 75, 76, 77, 78, 79, 80, 81, 82, 83, 84, 85, 86, 87, 88, 89, 90, 102, 103, 104, 105, 106, 107, 108, 109, 110, 111, 112, 113, 114, 115, 116, 117, 118, 119, 120, 121, 122, 123, 124, 125, 126, 127, 128, 129, 130, 131, 132, 133, 134, 135, 136, 137, 138] (by decide +kernel) (by decide +kernel)
set_option maxRecDepth 20000 in
theorem gX5_findHole_X5_fillCells : GoodIn wsX5_findHole (wsV RX5 38 RX5 yX5_fillCells wsX5_fillCells) := goodIn_app (goodIn_of _ (by decide +kernel)) ggX5_findHole_X5_fillCells
set_option maxRecDepth 20000 in
theorem ggX5_findHole_X1_chosenOf : GoodIn wsX5_findHole wsX1_chosenOf := goodIn_r _ [94, 52, 95, 115, 116, 117, 118, 119, 120, 121, 122, 123, 124] (by decide +kernel) (by decide +kernel)
set_option maxRecDepth 20000 in
theorem gX5_findHole_X1_chosenOf : GoodIn wsX5_findHole (wsV RX5 49 RX1 yX1_chosenOf wsX1_chosenOf) := goodIn_app (goodIn_of _ (by decide +kernel)) ggX5_findHole_X1_chosenOf
set_option maxRecDepth 20000 in
theorem ggX5_findHole_X5_foundAt : GoodIn wsX5_findHole wsX5_foundAt := goodIn_r _ [99, 100, 101, 102, 103, 104, 105, 106, 107] (by decide +kernel) (by decide +kernel)
set_option maxRecDepth 20000 in
theorem gX5_findHole_X5_foundAt : GoodIn wsX5_findHole (wsV RX5 55 RX5 yX5_foundAt wsX5_foundAt) := goodIn_app (goodIn_of _ (by decide +kernel)) ggX5_findHole_X5_foundAt
theorem dX5_findHole_0 : decode cX5_findHole 0 = .ok (.aload_n 0, 1) := by decide +kernel
theorem dX5_findHole_1 : decode cX5_findHole 1 = .ok (.aload_n 1, 1) := by decide +kernel
theorem dX5_findHole_2 : decode cX5_findHole 2 = .ok (.invokevirtual 38, 3) := by decide +kernel
theorem dX5_findHole_5 : decode cX5_findHole 5 = .ok (.iconst 0, 1) := by decide +kernel
theorem dX5_findHole_6 : decode cX5_findHole 6 = .ok (.istore_n 2, 1) := by decide +kernel
theorem dX5_findHole_7 : decode cX5_findHole 7 = .ok (.iload_n 2, 1) := by decide +kernel
theorem dX5_findHole_8 : decode cX5_findHole 8 = .ok (.aload_n 0, 1) := by decide +kernel
theorem dX5_findHole_9 : decode cX5_findHole 9 = .ok (.getfield 12, 3) := by decide +kernel
theorem dX5_findHole_12 : decode cX5_findHole 12 = .ok (.getfield 42, 3) := by decide +kernel
theorem dX5_findHole_15 : decode cX5_findHole 15 = .ok (.if_icmp .ge 62, 3) := by decide +kernel
theorem dX5_findHole_18 : decode cX5_findHole 18 = .ok (.iconst 0, 1) := by decide +kernel
theorem dX5_findHole_19 : decode cX5_findHole 19 = .ok (.istore_n 3, 1) := by decide +kernel
theorem dX5_findHole_20 : decode cX5_findHole 20 = .ok (.iload_n 3, 1) := by decide +kernel
theorem dX5_findHole_21 : decode cX5_findHole 21 = .ok (.aload_n 0, 1) := by decide +kernel
theorem dX5_findHole_22 : decode cX5_findHole 22 = .ok (.getfield 18, 3) := by decide +kernel
theorem dX5_findHole_25 : decode cX5_findHole 25 = .ok (.getfield 42, 3) := by decide +kernel
theorem dX5_findHole_28 : decode cX5_findHole 28 = .ok (.if_icmp .ge 43, 3) := by decide +kernel
theorem dX5_findHole_31 : decode cX5_findHole 31 = .ok (.aload_n 1, 1) := by decide +kernel
theorem dX5_findHole_32 : decode cX5_findHole 32 = .ok (.aload_n 0, 1) := by decide +kernel
theorem dX5_findHole_33 : decode cX5_findHole 33 = .ok (.getfield 12, 3) := by decide +kernel
theorem dX5_findHole_36 : decode cX5_findHole 36 = .ok (.getfield 45, 3) := by decide +kernel
theorem dX5_findHole_39 : decode cX5_findHole 39 = .ok (.iload_n 2, 1) := by decide +kernel
theorem dX5_findHole_40 : decode cX5_findHole 40 = .ok (.iaload, 1) := by decide +kernel
theorem dX5_findHole_41 : decode cX5_findHole 41 = .ok (.aload_n 0, 1) := by decide +kernel
theorem dX5_findHole_42 : decode cX5_findHole 42 = .ok (.getfield 18, 3) := by decide +kernel
theorem dX5_findHole_45 : decode cX5_findHole 45 = .ok (.getfield 45, 3) := by decide +kernel
theorem dX5_findHole_48 : decode cX5_findHole 48 = .ok (.iload_n 3, 1) := by decide +kernel
theorem dX5_findHole_49 : decode cX5_findHole 49 = .ok (.iaload, 1) := by decide +kernel
theorem dX5_findHole_50 : decode cX5_findHole 50 = .ok (.iand, 1) := by decide +kernel
theorem dX5_findHole_51 : decode cX5_findHole 51 = .ok (.invokevirtual 49, 3) := by decide +kernel
theorem dX5_findHole_54 : decode cX5_findHole 54 = .ok (.iconst (-1), 1) := by decide +kernel
theorem dX5_findHole_55 : decode cX5_findHole 55 = .ok (.if_icmp .ne 10, 3) := by decide +kernel
theorem dX5_findHole_58 : decode cX5_findHole 58 = .ok (.aload_n 0, 1) := by decide +kernel
theorem dX5_findHole_59 : decode cX5_findHole 59 = .ok (.iload_n 2, 1) := by decide +kernel
theorem dX5_findHole_60 : decode cX5_findHole 60 = .ok (.iload_n 3, 1) := by decide +kernel
theorem dX5_findHole_61 : decode cX5_findHole 61 = .ok (.invokevirtual 55, 3) := by decide +kernel
theorem dX5_findHole_64 : decode cX5_findHole 64 = .ok (.ireturn, 1) := by decide +kernel
theorem dX5_findHole_65 : decode cX5_findHole 65 = .ok (.iinc 3 1, 3) := by decide +kernel
theorem dX5_findHole_68 : decode cX5_findHole 68 = .ok (.goto (-48), 3) := by decide +kernel
theorem dX5_findHole_71 : decode cX5_findHole 71 = .ok (.iinc 2 1, 3) := by decide +kernel
theorem dX5_findHole_74 : decode cX5_findHole 74 = .ok (.goto (-67), 3) := by decide +kernel
theorem dX5_findHole_77 : decode cX5_findHole 77 = .ok (.iconst 0, 1) := by decide +kernel
theorem dX5_findHole_78 : decode cX5_findHole 78 = .ok (.ireturn, 1) := by decide +kernel
set_option maxRecDepth 20000 in
theorem ggX5_findDoubt_X5_fillCells : GoodIn wsX5_findDoubt wsX5_fillCells := goodIn_r _ [8, 9, 10, 11, 12, 13, 14, 15, 16, 17, 18, 19, 20, 21, 22, 23, 24, 25, 26, 27, 28, 29, 30, 31, 32, 33, 34, 35, 36, 37, 38, 39, 40, 41, 42, 43, 44, 45, 46, 47, 48, 49, 50, 51, 52, 53, 54, 55, 56, 57, 58, 59, 60, 61, 62, 63, 64, 65, 66, 67, 68, 69, 70, 71, 72, 73, 74, 75, 76, 77, 78, 79, 80, 81, 82, 83, 84, 85, 86, 87, 88, 89, 90, 91, 124, 125, 126, 127, 128, 129, 130, 131, 132, 133, 134, 135, 136, 114, 115, 116, 117, 118, 119, 120, 121, 122, 123, 137, 138, 139, 140, 141, 142, 143, 144, 145, 146, 147, 148, 149, 150] (by decide +kernel) (by decide +kernel)
set_option maxRecDepth 20000 in
theorem gX5_findDoubt_X5_fillCells : GoodIn wsX5_findDoubt (wsV RX5 38 RX5 yX5_fillCells wsX5_fillCells) := goodIn_app (goodIn_of _ (by decide +kernel)) ggX5_findDoubt_X5_fillCells
set_option maxRecDepth 20000 in
theorem ggX5_findDoubt_X5_haveDoubt : GoodIn wsX5_findDoubt wsX5_haveDoubt := goodIn_r _ [95, 96, 9, 97, 10, 98, 99, 100, 101, 22, 102, 53, 103, 104, 105, 106, 107, 108, 109, 110, 7, 111, 112, 113, 114, 115, 116, 117, 118, 119, 120, 121, 122, 123, 124, 125, 126, 127, 128, 129, 130, 131, 132, 133, 134, 135, 136] (by decide +kernel) (by decide +kernel)
set_option maxRecDepth 20000 in
theorem gX5_findDoubt_X5_haveDoubt : GoodIn wsX5_findDoubt (wsV RX5 62 RX5 yX5_haveDoubt wsX5_haveDoubt) := goodIn_app (goodIn_of _ (by decide +kernel)) ggX5_findDoubt_X5_haveDoubt
theorem dX5_findDoubt_0 : decode cX5_findDoubt 0 = .ok (.aload_n 0, 1) := by decide +kernel
theorem dX5_findDoubt_1 : decode cX5_findDoubt 1 = .ok (.aload_n 1, 1) := by decide +kernel
theorem dX5_findDoubt_2 : decode cX5_findDoubt 2 = .ok (.invokevirtual 38, 3) := by decide +kernel
theorem dX5_findDoubt_5 : decode cX5_findDoubt 5 = .ok (.iconst 0, 1) := by decide +kernel
theorem dX5_findDoubt_6 : decode cX5_findDoubt 6 = .ok (.istore_n 3, 1) := by decide +kernel
theorem dX5_findDoubt_7 : decode cX5_findDoubt 7 = .ok (.iconst 0, 1) := by decide +kernel
theorem dX5_findDoubt_8 : decode cX5_findDoubt 8 = .ok (.istore 4, 2) := by decide +kernel
theorem dX5_findDoubt_10 : decode cX5_findDoubt 10 = .ok (.iload 4, 2) := by decide +kernel
theorem dX5_findDoubt_12 : decode cX5_findDoubt 12 = .ok (.aload_n 1, 1) := by decide +kernel
theorem dX5_findDoubt_13 : decode cX5_findDoubt 13 = .ok (.getfield 59, 3) := by decide +kernel
theorem dX5_findDoubt_16 : decode cX5_findDoubt 16 = .ok (.if_icmp .ge 64, 3) := by decide +kernel
theorem dX5_findDoubt_19 : decode cX5_findDoubt 19 = .ok (.iload 4, 2) := by decide +kernel
theorem dX5_findDoubt_21 : decode cX5_findDoubt 21 = .ok (.iconst 1, 1) := by decide +kernel
theorem dX5_findDoubt_22 : decode cX5_findDoubt 22 = .ok (.iadd, 1) := by decide +kernel
theorem dX5_findDoubt_23 : decode cX5_findDoubt 23 = .ok (.istore 5, 2) := by decide +kernel
theorem dX5_findDoubt_25 : decode cX5_findDoubt 25 = .ok (.iload 5, 2) := by decide +kernel
theorem dX5_findDoubt_27 : decode cX5_findDoubt 27 = .ok (.aload_n 1, 1) := by decide +kernel
theorem dX5_findDoubt_28 : decode cX5_findDoubt 28 = .ok (.getfield 59, 3) := by decide +kernel
theorem dX5_findDoubt_31 : decode cX5_findDoubt 31 = .ok (.if_icmp .ge 43, 3) := by decide +kernel
theorem dX5_findDoubt_34 : decode cX5_findDoubt 34 = .ok (.aload_n 0, 1) := by decide +kernel
theorem dX5_findDoubt_35 : decode cX5_findDoubt 35 = .ok (.aload_n 1, 1) := by decide +kernel
theorem dX5_findDoubt_36 : decode cX5_findDoubt 36 = .ok (.iload 4, 2) := by decide +kernel
theorem dX5_findDoubt_38 : decode cX5_findDoubt 38 = .ok (.iload 5, 2) := by decide +kernel
theorem dX5_findDoubt_40 : decode cX5_findDoubt 40 = .ok (.invokevirtual 62, 3) := by decide +kernel
theorem dX5_findDoubt_43 : decode cX5_findDoubt 43 = .ok (.ifCond .eq 25, 3) := by decide +kernel
theorem dX5_findDoubt_46 : decode cX5_findDoubt 46 = .ok (.iload_n 3, 1) := by decide +kernel
theorem dX5_findDoubt_47 : decode cX5_findDoubt 47 = .ok (.iload_n 2, 1) := by decide +kernel
theorem dX5_findDoubt_48 : decode cX5_findDoubt 48 = .ok (.if_icmp .ne 17, 3) := by decide +kernel
theorem dX5_findDoubt_51 : decode cX5_findDoubt 51 = .ok (.aload_n 0, 1) := by decide +kernel
theorem dX5_findDoubt_52 : decode cX5_findDoubt 52 = .ok (.iload 4, 2) := by decide +kernel
theorem dX5_findDoubt_54 : decode cX5_findDoubt 54 = .ok (.putfield 28, 3) := by decide +kernel
theorem dX5_findDoubt_57 : decode cX5_findDoubt 57 = .ok (.aload_n 0, 1) := by decide +kernel
theorem dX5_findDoubt_58 : decode cX5_findDoubt 58 = .ok (.iload 5, 2) := by decide +kernel
theorem dX5_findDoubt_60 : decode cX5_findDoubt 60 = .ok (.putfield 31, 3) := by decide +kernel
theorem dX5_findDoubt_63 : decode cX5_findDoubt 63 = .ok (.iconst 1, 1) := by decide +kernel
theorem dX5_findDoubt_64 : decode cX5_findDoubt 64 = .ok (.ireturn, 1) := by decide +kernel
theorem dX5_findDoubt_65 : decode cX5_findDoubt 65 = .ok (.iinc 3 1, 3) := by decide +kernel
theorem dX5_findDoubt_68 : decode cX5_findDoubt 68 = .ok (.iinc 5 1, 3) := by decide +kernel
theorem dX5_findDoubt_71 : decode cX5_findDoubt 71 = .ok (.goto (-46), 3) := by decide +kernel
theorem dX5_findDoubt_74 : decode cX5_findDoubt 74 = .ok (.iinc 4 1, 3) := by decide +kernel
theorem dX5_findDoubt_77 : decode cX5_findDoubt 77 = .ok (.goto (-67), 3) := by decide +kernel
theorem dX5_findDoubt_80 : decode cX5_findDoubt 80 = .ok (.iconst 0, 1) := by decide +kernel
theorem dX5_findDoubt_81 : decode cX5_findDoubt 81 = .ok (.ireturn, 1) := by decide +kernel
set_option maxRecDepth 20000 in
theorem ggX5_haveDoubt_X1_beatenBy : GoodIn wsX5_haveDoubt wsX1_beatenBy := goodIn_r _ [10, 11, 12, 24, 25, 26, 27, 28, 29, 30, 31, 32, 33] (by decide +kernel) (by decide +kernel)
set_option maxRecDepth 20000 in
theorem gX5_haveDoubt_X1_beatenBy : GoodIn wsX5_haveDoubt (wsV RX5 69 RX1 yX1_beatenBy wsX1_beatenBy) := goodIn_app (goodIn_of _ (by decide +kernel)) ggX5_haveDoubt_X1_beatenBy
set_option maxRecDepth 20000 in
theorem ggX5_haveDoubt_X1_beatersOf : GoodIn wsX5_haveDoubt wsX1_beatersOf := goodIn_r _ [16, 11, 12, 24, 25, 26, 27, 28, 29, 30, 31, 32, 33] (by decide +kernel) (by decide +kernel)
set_option maxRecDepth 20000 in
theorem gX5_haveDoubt_X1_beatersOf : GoodIn wsX5_haveDoubt (wsV RX5 72 RX1 yX1_beatersOf wsX1_beatersOf) := goodIn_app (goodIn_of _ (by decide +kernel)) ggX5_haveDoubt_X1_beatersOf
set_option maxRecDepth 20000 in
theorem ggX5_haveDoubt_X5_foundAt : GoodIn wsX5_haveDoubt wsX5_foundAt := goodIn_r _ [21, 22, 23, 34, 35, 36, 37, 38, 39] (by decide +kernel) (by decide +kernel)
set_option maxRecDepth 20000 in
theorem gX5_haveDoubt_X5_foundAt : GoodIn wsX5_haveDoubt (wsV RX5 55 RX5 yX5_foundAt wsX5_foundAt) := goodIn_app (goodIn_of _ (by decide +kernel)) ggX5_haveDoubt_X5_foundAt
theorem dX5_haveDoubt_0 : decode cX5_haveDoubt 0 = .ok (.iconst 1, 1) := by decide +kernel
theorem dX5_haveDoubt_1 : decode cX5_haveDoubt 1 = .ok (.iload_n 2, 1) := by decide +kernel
theorem dX5_haveDoubt_2 : decode cX5_haveDoubt 2 = .ok (.ishl, 1) := by decide +kernel
theorem dX5_haveDoubt_3 : decode cX5_haveDoubt 3 = .ok (.iconst 1, 1) := by decide +kernel
theorem dX5_haveDoubt_4 : decode cX5_haveDoubt 4 = .ok (.iload_n 3, 1) := by decide +kernel
theorem dX5_haveDoubt_5 : decode cX5_haveDoubt 5 = .ok (.ishl, 1) := by decide +kernel
theorem dX5_haveDoubt_6 : decode cX5_haveDoubt 6 = .ok (.ior, 1) := by decide +kernel
theorem dX5_haveDoubt_7 : decode cX5_haveDoubt 7 = .ok (.istore 4, 2) := by decide +kernel
theorem dX5_haveDoubt_9 : decode cX5_haveDoubt 9 = .ok (.aload_n 1, 1) := by decide +kernel
theorem dX5_haveDoubt_10 : decode cX5_haveDoubt 10 = .ok (.getfield 66, 3) := by decide +kernel
theorem dX5_haveDoubt_13 : decode cX5_haveDoubt 13 = .ok (.iload 4, 2) := by decide +kernel
theorem dX5_haveDoubt_15 : decode cX5_haveDoubt 15 = .ok (.iand, 1) := by decide +kernel
theorem dX5_haveDoubt_16 : decode cX5_haveDoubt 16 = .ok (.iload 4, 2) := by decide +kernel
theorem dX5_haveDoubt_18 : decode cX5_haveDoubt 18 = .ok (.if_icmp .ne 27, 3) := by decide +kernel
theorem dX5_haveDoubt_21 : decode cX5_haveDoubt 21 = .ok (.aload_n 1, 1) := by decide +kernel
theorem dX5_haveDoubt_22 : decode cX5_haveDoubt 22 = .ok (.iload_n 2, 1) := by decide +kernel
theorem dX5_haveDoubt_23 : decode cX5_haveDoubt 23 = .ok (.invokevirtual 69, 3) := by decide +kernel
theorem dX5_haveDoubt_26 : decode cX5_haveDoubt 26 = .ok (.iconst 1, 1) := by decide +kernel
theorem dX5_haveDoubt_27 : decode cX5_haveDoubt 27 = .ok (.iload_n 3, 1) := by decide +kernel
theorem dX5_haveDoubt_28 : decode cX5_haveDoubt 28 = .ok (.ishl, 1) := by decide +kernel
theorem dX5_haveDoubt_29 : decode cX5_haveDoubt 29 = .ok (.iand, 1) := by decide +kernel
theorem dX5_haveDoubt_30 : decode cX5_haveDoubt 30 = .ok (.ifCond .ne 15, 3) := by decide +kernel
theorem dX5_haveDoubt_33 : decode cX5_haveDoubt 33 = .ok (.aload_n 1, 1) := by decide +kernel
theorem dX5_haveDoubt_34 : decode cX5_haveDoubt 34 = .ok (.iload_n 3, 1) := by decide +kernel
theorem dX5_haveDoubt_35 : decode cX5_haveDoubt 35 = .ok (.invokevirtual 69, 3) := by decide +kernel
theorem dX5_haveDoubt_38 : decode cX5_haveDoubt 38 = .ok (.iconst 1, 1) := by decide +kernel
theorem dX5_haveDoubt_39 : decode cX5_haveDoubt 39 = .ok (.iload_n 2, 1) := by decide +kernel
theorem dX5_haveDoubt_40 : decode cX5_haveDoubt 40 = .ok (.ishl, 1) := by decide +kernel
theorem dX5_haveDoubt_41 : decode cX5_haveDoubt 41 = .ok (.iand, 1) := by decide +kernel
theorem dX5_haveDoubt_42 : decode cX5_haveDoubt 42 = .ok (.ifCond .eq 5, 3) := by decide +kernel
theorem dX5_haveDoubt_45 : decode cX5_haveDoubt 45 = .ok (.iconst 0, 1) := by decide +kernel
theorem dX5_haveDoubt_46 : decode cX5_haveDoubt 46 = .ok (.ireturn, 1) := by decide +kernel
theorem dX5_haveDoubt_47 : decode cX5_haveDoubt 47 = .ok (.aload_n 1, 1) := by decide +kernel
theorem dX5_haveDoubt_48 : decode cX5_haveDoubt 48 = .ok (.iload_n 2, 1) := by decide +kernel
theorem dX5_haveDoubt_49 : decode cX5_haveDoubt 49 = .ok (.invokevirtual 72, 3) := by decide +kernel
theorem dX5_haveDoubt_52 : decode cX5_haveDoubt 52 = .ok (.aload_n 1, 1) := by decide +kernel
theorem dX5_haveDoubt_53 : decode cX5_haveDoubt 53 = .ok (.iload_n 3, 1) := by decide +kernel
theorem dX5_haveDoubt_54 : decode cX5_haveDoubt 54 = .ok (.invokevirtual 72, 3) := by decide +kernel
theorem dX5_haveDoubt_57 : decode cX5_haveDoubt 57 = .ok (.iand, 1) := by decide +kernel
theorem dX5_haveDoubt_58 : decode cX5_haveDoubt 58 = .ok (.istore 5, 2) := by decide +kernel
theorem dX5_haveDoubt_60 : decode cX5_haveDoubt 60 = .ok (.iconst 0, 1) := by decide +kernel
theorem dX5_haveDoubt_61 : decode cX5_haveDoubt 61 = .ok (.istore 6, 2) := by decide +kernel
theorem dX5_haveDoubt_63 : decode cX5_haveDoubt 63 = .ok (.iload 6, 2) := by decide +kernel
theorem dX5_haveDoubt_65 : decode cX5_haveDoubt 65 = .ok (.aload_n 0, 1) := by decide +kernel
theorem dX5_haveDoubt_66 : decode cX5_haveDoubt 66 = .ok (.getfield 12, 3) := by decide +kernel
theorem dX5_haveDoubt_69 : decode cX5_haveDoubt 69 = .ok (.getfield 42, 3) := by decide +kernel
theorem dX5_haveDoubt_72 : decode cX5_haveDoubt 72 = .ok (.if_icmp .ge 80, 3) := by decide +kernel
theorem dX5_haveDoubt_75 : decode cX5_haveDoubt 75 = .ok (.iconst 0, 1) := by decide +kernel
theorem dX5_haveDoubt_76 : decode cX5_haveDoubt 76 = .ok (.istore 7, 2) := by decide +kernel
theorem dX5_haveDoubt_78 : decode cX5_haveDoubt 78 = .ok (.iload 7, 2) := by decide +kernel
theorem dX5_haveDoubt_80 : decode cX5_haveDoubt 80 = .ok (.aload_n 0, 1) := by decide +kernel
theorem dX5_haveDoubt_81 : decode cX5_haveDoubt 81 = .ok (.getfield 18, 3) := by decide +kernel
theorem dX5_haveDoubt_84 : decode cX5_haveDoubt 84 = .ok (.getfield 42, 3) := by decide +kernel
theorem dX5_haveDoubt_87 : decode cX5_haveDoubt 87 = .ok (.if_icmp .ge 59, 3) := by decide +kernel
theorem dX5_haveDoubt_90 : decode cX5_haveDoubt 90 = .ok (.aload_n 0, 1) := by decide +kernel
theorem dX5_haveDoubt_91 : decode cX5_haveDoubt 91 = .ok (.getfield 12, 3) := by decide +kernel
theorem dX5_haveDoubt_94 : decode cX5_haveDoubt 94 = .ok (.getfield 45, 3) := by decide +kernel
theorem dX5_haveDoubt_97 : decode cX5_haveDoubt 97 = .ok (.iload 6, 2) := by decide +kernel
theorem dX5_haveDoubt_99 : decode cX5_haveDoubt 99 = .ok (.iaload, 1) := by decide +kernel
theorem dX5_haveDoubt_100 : decode cX5_haveDoubt 100 = .ok (.aload_n 0, 1) := by decide +kernel
theorem dX5_haveDoubt_101 : decode cX5_haveDoubt 101 = .ok (.getfield 18, 3) := by decide +kernel
theorem dX5_haveDoubt_104 : decode cX5_haveDoubt 104 = .ok (.getfield 45, 3) := by decide +kernel
theorem dX5_haveDoubt_107 : decode cX5_haveDoubt 107 = .ok (.iload 7, 2) := by decide +kernel
theorem dX5_haveDoubt_109 : decode cX5_haveDoubt 109 = .ok (.iaload, 1) := by decide +kernel
theorem dX5_haveDoubt_110 : decode cX5_haveDoubt 110 = .ok (.iand, 1) := by decide +kernel
theorem dX5_haveDoubt_111 : decode cX5_haveDoubt 111 = .ok (.istore 8, 2) := by decide +kernel
theorem dX5_haveDoubt_113 : decode cX5_haveDoubt 113 = .ok (.iload 8, 2) := by decide +kernel
theorem dX5_haveDoubt_115 : decode cX5_haveDoubt 115 = .ok (.iload 4, 2) := by decide +kernel
theorem dX5_haveDoubt_117 : decode cX5_haveDoubt 117 = .ok (.iand, 1) := by decide +kernel
theorem dX5_haveDoubt_118 : decode cX5_haveDoubt 118 = .ok (.iload 4, 2) := by decide +kernel
theorem dX5_haveDoubt_120 : decode cX5_haveDoubt 120 = .ok (.if_icmp .ne 20, 3) := by decide +kernel
theorem dX5_haveDoubt_123 : decode cX5_haveDoubt 123 = .ok (.iload 8, 2) := by decide +kernel
theorem dX5_haveDoubt_125 : decode cX5_haveDoubt 125 = .ok (.iload 5, 2) := by decide +kernel
theorem dX5_haveDoubt_127 : decode cX5_haveDoubt 127 = .ok (.iand, 1) := by decide +kernel
theorem dX5_haveDoubt_128 : decode cX5_haveDoubt 128 = .ok (.ifCond .ne 12, 3) := by decide +kernel
theorem dX5_haveDoubt_131 : decode cX5_haveDoubt 131 = .ok (.aload_n 0, 1) := by decide +kernel
theorem dX5_haveDoubt_132 : decode cX5_haveDoubt 132 = .ok (.iload 6, 2) := by decide +kernel
theorem dX5_haveDoubt_134 : decode cX5_haveDoubt 134 = .ok (.iload 7, 2) := by decide +kernel
theorem dX5_haveDoubt_136 : decode cX5_haveDoubt 136 = .ok (.invokevirtual 55, 3) := by decide +kernel
theorem dX5_haveDoubt_139 : decode cX5_haveDoubt 139 = .ok (.ireturn, 1) := by decide +kernel
theorem dX5_haveDoubt_140 : decode cX5_haveDoubt 140 = .ok (.iinc 7 1, 3) := by decide +kernel
theorem dX5_haveDoubt_143 : decode cX5_haveDoubt 143 = .ok (.goto (-65), 3) := by decide +kernel
theorem dX5_haveDoubt_146 : decode cX5_haveDoubt 146 = .ok (.iinc 6 1, 3) := by decide +kernel
theorem dX5_haveDoubt_149 : decode cX5_haveDoubt 149 = .ok (.goto (-86), 3) := by decide +kernel
theorem dX5_haveDoubt_152 : decode cX5_haveDoubt 152 = .ok (.iconst 0, 1) := by decide +kernel
theorem dX5_haveDoubt_153 : decode cX5_haveDoubt 153 = .ok (.ireturn, 1) := by decide +kernel
theorem dX5_foundAt_0 : decode cX5_foundAt 0 = .ok (.aload_n 0, 1) := by decide +kernel
theorem dX5_foundAt_1 : decode cX5_foundAt 1 = .ok (.iload_n 1, 1) := by decide +kernel
theorem dX5_foundAt_2 : decode cX5_foundAt 2 = .ok (.putfield 21, 3) := by decide +kernel
theorem dX5_foundAt_5 : decode cX5_foundAt 5 = .ok (.aload_n 0, 1) := by decide +kernel
theorem dX5_foundAt_6 : decode cX5_foundAt 6 = .ok (.iload_n 2, 1) := by decide +kernel
theorem dX5_foundAt_7 : decode cX5_foundAt 7 = .ok (.putfield 25, 3) := by decide +kernel
theorem dX5_foundAt_10 : decode cX5_foundAt 10 = .ok (.iconst 1, 1) := by decide +kernel
theorem dX5_foundAt_11 : decode cX5_foundAt 11 = .ok (.ireturn, 1) := by decide +kernel
theorem dX5_partOfTuple_0 : decode cX5_partOfTuple 0 = .ok (.iload_n 1, 1) := by decide +kernel
theorem dX5_partOfTuple_1 : decode cX5_partOfTuple 1 = .ok (.tableswitch 66 0 2 #[27, 40, 53], 27) := by decide +kernel
theorem dX5_partOfTuple_28 : decode cX5_partOfTuple 28 = .ok (.aload_n 0, 1) := by decide +kernel
theorem dX5_partOfTuple_29 : decode cX5_partOfTuple 29 = .ok (.getfield 12, 3) := by decide +kernel
theorem dX5_partOfTuple_32 : decode cX5_partOfTuple 32 = .ok (.getfield 75, 3) := by decide +kernel
theorem dX5_partOfTuple_35 : decode cX5_partOfTuple 35 = .ok (.aload_n 0, 1) := by decide +kernel
theorem dX5_partOfTuple_36 : decode cX5_partOfTuple 36 = .ok (.getfield 21, 3) := by decide +kernel
theorem dX5_partOfTuple_39 : decode cX5_partOfTuple 39 = .ok (.iaload, 1) := by decide +kernel
theorem dX5_partOfTuple_40 : decode cX5_partOfTuple 40 = .ok (.ireturn, 1) := by decide +kernel
theorem dX5_partOfTuple_41 : decode cX5_partOfTuple 41 = .ok (.aload_n 0, 1) := by decide +kernel
theorem dX5_partOfTuple_42 : decode cX5_partOfTuple 42 = .ok (.getfield 18, 3) := by decide +kernel
theorem dX5_partOfTuple_45 : decode cX5_partOfTuple 45 = .ok (.getfield 75, 3) := by decide +kernel
theorem dX5_partOfTuple_48 : decode cX5_partOfTuple 48 = .ok (.aload_n 0, 1) := by decide +kernel
theorem dX5_partOfTuple_49 : decode cX5_partOfTuple 49 = .ok (.getfield 25, 3) := by decide +kernel
theorem dX5_partOfTuple_52 : decode cX5_partOfTuple 52 = .ok (.iaload, 1) := by decide +kernel
theorem dX5_partOfTuple_53 : decode cX5_partOfTuple 53 = .ok (.ireturn, 1) := by decide +kernel
theorem dX5_partOfTuple_54 : decode cX5_partOfTuple 54 = .ok (.aload_n 0, 1) := by decide +kernel
theorem dX5_partOfTuple_55 : decode cX5_partOfTuple 55 = .ok (.getfield 12, 3) := by decide +kernel
theorem dX5_partOfTuple_58 : decode cX5_partOfTuple 58 = .ok (.getfield 78, 3) := by decide +kernel
theorem dX5_partOfTuple_61 : decode cX5_partOfTuple 61 = .ok (.aload_n 0, 1) := by decide +kernel
theorem dX5_partOfTuple_62 : decode cX5_partOfTuple 62 = .ok (.getfield 21, 3) := by decide +kernel
theorem dX5_partOfTuple_65 : decode cX5_partOfTuple 65 = .ok (.iaload, 1) := by decide +kernel
theorem dX5_partOfTuple_66 : decode cX5_partOfTuple 66 = .ok (.ireturn, 1) := by decide +kernel
theorem dX5_partOfTuple_67 : decode cX5_partOfTuple 67 = .ok (.aload_n 0, 1) := by decide +kernel
theorem dX5_partOfTuple_68 : decode cX5_partOfTuple 68 = .ok (.getfield 18, 3) := by decide +kernel
theorem dX5_partOfTuple_71 : decode cX5_partOfTuple 71 = .ok (.getfield 78, 3) := by decide +kernel
theorem dX5_partOfTuple_74 : decode cX5_partOfTuple 74 = .ok (.aload_n 0, 1) := by decide +kernel
theorem dX5_partOfTuple_75 : decode cX5_partOfTuple 75 = .ok (.getfield 25, 3) := by decide +kernel
theorem dX5_partOfTuple_78 : decode cX5_partOfTuple 78 = .ok (.iaload, 1) := by decide +kernel
theorem dX5_partOfTuple_79 : decode cX5_partOfTuple 79 = .ok (.ireturn, 1) := by decide +kernel
theorem dX6_init_0 : decode cX6_init 0 = .ok (.aload_n 0, 1) := by decide +kernel
theorem dX6_init_1 : decode cX6_init 1 = .ok (.invokespecial 3, 3) := by decide +kernel
theorem dX6_init_4 : decode cX6_init 4 = .ok (.aload_n 0, 1) := by decide +kernel
theorem dX6_init_5 : decode cX6_init 5 = .ok (.iconst 2, 1) := by decide +kernel
theorem dX6_init_6 : decode cX6_init 6 = .ok (.newarray .int, 2) := by decide +kernel
theorem dX6_init_8 : decode cX6_init 8 = .ok (.putfield 9, 3) := by decide +kernel
theorem dX6_init_11 : decode cX6_init 11 = .ok (.aload_n 0, 1) := by decide +kernel
theorem dX6_init_12 : decode cX6_init 12 = .ok (.iconst 2, 1) := by decide +kernel
theorem dX6_init_13 : decode cX6_init 13 = .ok (.newarray .int, 2) := by decide +kernel
theorem dX6_init_15 : decode cX6_init 15 = .ok (.putfield 15, 3) := by decide +kernel
theorem dX6_init_18 : decode cX6_init 18 = .ok (.aload_n 0, 1) := by decide +kernel
theorem dX6_init_19 : decode cX6_init 19 = .ok (.iconst 1, 1) := by decide +kernel
theorem dX6_init_20 : decode cX6_init 20 = .ok (.putfield 18, 3) := by decide +kernel
theorem dX6_init_23 : decode cX6_init 23 = .ok (.return_, 1) := by decide +kernel
theorem dX6_weightTogether_0 : decode cX6_weightTogether 0 = .ok (.lconst 0, 1) := by decide +kernel
theorem dX6_weightTogether_1 : decode cX6_weightTogether 1 = .ok (.lstore_n 1, 1) := by decide +kernel
theorem dX6_weightTogether_2 : decode cX6_weightTogether 2 = .ok (.iconst 0, 1) := by decide +kernel
theorem dX6_weightTogether_3 : decode cX6_weightTogether 3 = .ok (.istore_n 3, 1) := by decide +kernel
theorem dX6_weightTogether_4 : decode cX6_weightTogether 4 = .ok (.iload_n 3, 1) := by decide +kernel
theorem dX6_weightTogether_5 : decode cX6_weightTogether 5 = .ok (.aload_n 0, 1) := by decide +kernel
theorem dX6_weightTogether_6 : decode cX6_weightTogether 6 = .ok (.getfield 18, 3) := by decide +kernel
theorem dX6_weightTogether_9 : decode cX6_weightTogether 9 = .ok (.if_icmp .ge 19, 3) := by decide +kernel
theorem dX6_weightTogether_12 : decode cX6_weightTogether 12 = .ok (.lload_n 1, 1) := by decide +kernel
theorem dX6_weightTogether_13 : decode cX6_weightTogether 13 = .ok (.aload_n 0, 1) := by decide +kernel
theorem dX6_weightTogether_14 : decode cX6_weightTogether 14 = .ok (.getfield 15, 3) := by decide +kernel
theorem dX6_weightTogether_17 : decode cX6_weightTogether 17 = .ok (.iload_n 3, 1) := by decide +kernel
theorem dX6_weightTogether_18 : decode cX6_weightTogether 18 = .ok (.iaload, 1) := by decide +kernel
theorem dX6_weightTogether_19 : decode cX6_weightTogether 19 = .ok (.i2l, 1) := by decide +kernel
theorem dX6_weightTogether_20 : decode cX6_weightTogether 20 = .ok (.ladd, 1) := by decide +kernel
theorem dX6_weightTogether_21 : decode cX6_weightTogether 21 = .ok (.lstore_n 1, 1) := by decide +kernel
theorem dX6_weightTogether_22 : decode cX6_weightTogether 22 = .ok (.iinc 3 1, 3) := by decide +kernel
theorem dX6_weightTogether_25 : decode cX6_weightTogether 25 = .ok (.goto (-21), 3) := by decide +kernel
theorem dX6_weightTogether_28 : decode cX6_weightTogether 28 = .ok (.lload_n 1, 1) := by decide +kernel
theorem dX6_weightTogether_29 : decode cX6_weightTogether 29 = .ok (.lreturn, 1) := by decide +kernel
theorem dX6_turnRound_0 : decode cX6_turnRound 0 = .ok (.aload_n 0, 1) := by decide +kernel
theorem dX6_turnRound_1 : decode cX6_turnRound 1 = .ok (.getfield 18, 3) := by decide +kernel
theorem dX6_turnRound_4 : decode cX6_turnRound 4 = .ok (.iconst 2, 1) := by decide +kernel
theorem dX6_turnRound_5 : decode cX6_turnRound 5 = .ok (.if_icmp .ge 4, 3) := by decide +kernel
theorem dX6_turnRound_8 : decode cX6_turnRound 8 = .ok (.return_, 1) := by decide +kernel
theorem dX6_turnRound_9 : decode cX6_turnRound 9 = .ok (.aload_n 0, 1) := by decide +kernel
theorem dX6_turnRound_10 : decode cX6_turnRound 10 = .ok (.getfield 9, 3) := by decide +kernel
theorem dX6_turnRound_13 : decode cX6_turnRound 13 = .ok (.iconst 0, 1) := by decide +kernel
theorem dX6_turnRound_14 : decode cX6_turnRound 14 = .ok (.iaload, 1) := by decide +kernel
theorem dX6_turnRound_15 : decode cX6_turnRound 15 = .ok (.istore_n 1, 1) := by decide +kernel
theorem dX6_turnRound_16 : decode cX6_turnRound 16 = .ok (.aload_n 0, 1) := by decide +kernel
theorem dX6_turnRound_17 : decode cX6_turnRound 17 = .ok (.getfield 9, 3) := by decide +kernel
theorem dX6_turnRound_20 : decode cX6_turnRound 20 = .ok (.iconst 0, 1) := by decide +kernel
theorem dX6_turnRound_21 : decode cX6_turnRound 21 = .ok (.aload_n 0, 1) := by decide +kernel
theorem dX6_turnRound_22 : decode cX6_turnRound 22 = .ok (.getfield 9, 3) := by decide +kernel
theorem dX6_turnRound_25 : decode cX6_turnRound 25 = .ok (.iconst 1, 1) := by decide +kernel
theorem dX6_turnRound_26 : decode cX6_turnRound 26 = .ok (.iaload, 1) := by decide +kernel
theorem dX6_turnRound_27 : decode cX6_turnRound 27 = .ok (.iastore, 1) := by decide +kernel
theorem dX6_turnRound_28 : decode cX6_turnRound 28 = .ok (.aload_n 0, 1) := by decide +kernel
theorem dX6_turnRound_29 : decode cX6_turnRound 29 = .ok (.getfield 9, 3) := by decide +kernel
theorem dX6_turnRound_32 : decode cX6_turnRound 32 = .ok (.iconst 1, 1) := by decide +kernel
theorem dX6_turnRound_33 : decode cX6_turnRound 33 = .ok (.iload_n 1, 1) := by decide +kernel
theorem dX6_turnRound_34 : decode cX6_turnRound 34 = .ok (.iastore, 1) := by decide +kernel
theorem dX6_turnRound_35 : decode cX6_turnRound 35 = .ok (.aload_n 0, 1) := by decide +kernel
theorem dX6_turnRound_36 : decode cX6_turnRound 36 = .ok (.getfield 15, 3) := by decide +kernel
theorem dX6_turnRound_39 : decode cX6_turnRound 39 = .ok (.iconst 0, 1) := by decide +kernel
theorem dX6_turnRound_40 : decode cX6_turnRound 40 = .ok (.iaload, 1) := by decide +kernel
theorem dX6_turnRound_41 : decode cX6_turnRound 41 = .ok (.istore_n 2, 1) := by decide +kernel
theorem dX6_turnRound_42 : decode cX6_turnRound 42 = .ok (.aload_n 0, 1) := by decide +kernel
theorem dX6_turnRound_43 : decode cX6_turnRound 43 = .ok (.getfield 15, 3) := by decide +kernel
theorem dX6_turnRound_46 : decode cX6_turnRound 46 = .ok (.iconst 0, 1) := by decide +kernel
theorem dX6_turnRound_47 : decode cX6_turnRound 47 = .ok (.aload_n 0, 1) := by decide +kernel
theorem dX6_turnRound_48 : decode cX6_turnRound 48 = .ok (.getfield 15, 3) := by decide +kernel
theorem dX6_turnRound_51 : decode cX6_turnRound 51 = .ok (.iconst 1, 1) := by decide +kernel
theorem dX6_turnRound_52 : decode cX6_turnRound 52 = .ok (.iaload, 1) := by decide +kernel
theorem dX6_turnRound_53 : decode cX6_turnRound 53 = .ok (.iastore, 1) := by decide +kernel
theorem dX6_turnRound_54 : decode cX6_turnRound 54 = .ok (.aload_n 0, 1) := by decide +kernel
theorem dX6_turnRound_55 : decode cX6_turnRound 55 = .ok (.getfield 15, 3) := by decide +kernel
theorem dX6_turnRound_58 : decode cX6_turnRound 58 = .ok (.iconst 1, 1) := by decide +kernel
theorem dX6_turnRound_59 : decode cX6_turnRound 59 = .ok (.iload_n 2, 1) := by decide +kernel
theorem dX6_turnRound_60 : decode cX6_turnRound 60 = .ok (.iastore, 1) := by decide +kernel
theorem dX6_turnRound_61 : decode cX6_turnRound 61 = .ok (.return_, 1) := by decide +kernel
theorem dX7_init_0 : decode cX7_init 0 = .ok (.aload_n 0, 1) := by decide +kernel
theorem dX7_init_1 : decode cX7_init 1 = .ok (.invokespecial 3, 3) := by decide +kernel
theorem dX7_init_4 : decode cX7_init 4 = .ok (.aload_n 0, 1) := by decide +kernel
theorem dX7_init_5 : decode cX7_init 5 = .ok (.sipush 300, 3) := by decide +kernel
theorem dX7_init_8 : decode cX7_init 8 = .ok (.newarray .int, 2) := by decide +kernel
theorem dX7_init_10 : decode cX7_init 10 = .ok (.putfield 9, 3) := by decide +kernel
theorem dX7_init_13 : decode cX7_init 13 = .ok (.aload_n 0, 1) := by decide +kernel
theorem dX7_init_14 : decode cX7_init 14 = .ok (.sipush 300, 3) := by decide +kernel
theorem dX7_init_17 : decode cX7_init 17 = .ok (.newarray .int, 2) := by decide +kernel
theorem dX7_init_19 : decode cX7_init 19 = .ok (.putfield 15, 3) := by decide +kernel
theorem dX7_init_22 : decode cX7_init 22 = .ok (.aload_n 0, 1) := by decide +kernel
theorem dX7_init_23 : decode cX7_init 23 = .ok (.iconst 0, 1) := by decide +kernel
theorem dX7_init_24 : decode cX7_init 24 = .ok (.putfield 18, 3) := by decide +kernel
theorem dX7_init_27 : decode cX7_init 27 = .ok (.return_, 1) := by decide +kernel
theorem dX7_holds_0 : decode cX7_holds 0 = .ok (.iload_n 1, 1) := by decide +kernel
theorem dX7_holds_1 : decode cX7_holds 1 = .ok (.ifCond .lt 15, 3) := by decide +kernel
theorem dX7_holds_4 : decode cX7_holds 4 = .ok (.iload_n 1, 1) := by decide +kernel
theorem dX7_holds_5 : decode cX7_holds 5 = .ok (.aload_n 0, 1) := by decide +kernel
theorem dX7_holds_6 : decode cX7_holds 6 = .ok (.getfield 18, 3) := by decide +kernel
theorem dX7_holds_9 : decode cX7_holds 9 = .ok (.if_icmp .ge 7, 3) := by decide +kernel
theorem dX7_holds_12 : decode cX7_holds 12 = .ok (.iconst 1, 1) := by decide +kernel
theorem dX7_holds_13 : decode cX7_holds 13 = .ok (.goto 4, 3) := by decide +kernel
theorem dX7_holds_16 : decode cX7_holds 16 = .ok (.iconst 0, 1) := by decide +kernel
theorem dX7_holds_17 : decode cX7_holds 17 = .ok (.ireturn, 1) := by decide +kernel
theorem dX7_bring_0 : decode cX7_bring 0 = .ok (.aload_n 0, 1) := by decide +kernel
theorem dX7_bring_1 : decode cX7_bring 1 = .ok (.getfield 18, 3) := by decide +kernel
theorem dX7_bring_4 : decode cX7_bring 4 = .ok (.sipush 300, 3) := by decide +kernel
theorem dX7_bring_7 : decode cX7_bring 7 = .ok (.if_icmp .lt 5, 3) := by decide +kernel
theorem dX7_bring_10 : decode cX7_bring 10 = .ok (.iconst (-1), 1) := by decide +kernel
theorem dX7_bring_11 : decode cX7_bring 11 = .ok (.ireturn, 1) := by decide +kernel
theorem dX7_bring_12 : decode cX7_bring 12 = .ok (.aload_n 0, 1) := by decide +kernel
theorem dX7_bring_13 : decode cX7_bring 13 = .ok (.getfield 9, 3) := by decide +kernel
theorem dX7_bring_16 : decode cX7_bring 16 = .ok (.aload_n 0, 1) := by decide +kernel
theorem dX7_bring_17 : decode cX7_bring 17 = .ok (.getfield 18, 3) := by decide +kernel
theorem dX7_bring_20 : decode cX7_bring 20 = .ok (.iload_n 1, 1) := by decide +kernel
theorem dX7_bring_21 : decode cX7_bring 21 = .ok (.iastore, 1) := by decide +kernel
theorem dX7_bring_22 : decode cX7_bring 22 = .ok (.aload_n 0, 1) := by decide +kernel
theorem dX7_bring_23 : decode cX7_bring 23 = .ok (.getfield 15, 3) := by decide +kernel
theorem dX7_bring_26 : decode cX7_bring 26 = .ok (.aload_n 0, 1) := by decide +kernel
theorem dX7_bring_27 : decode cX7_bring 27 = .ok (.getfield 18, 3) := by decide +kernel
theorem dX7_bring_30 : decode cX7_bring 30 = .ok (.iload_n 2, 1) := by decide +kernel
theorem dX7_bring_31 : decode cX7_bring 31 = .ok (.iastore, 1) := by decide +kernel
theorem dX7_bring_32 : decode cX7_bring 32 = .ok (.aload_n 0, 1) := by decide +kernel
theorem dX7_bring_33 : decode cX7_bring 33 = .ok (.dup, 1) := by decide +kernel
theorem dX7_bring_34 : decode cX7_bring 34 = .ok (.getfield 18, 3) := by decide +kernel
theorem dX7_bring_37 : decode cX7_bring 37 = .ok (.iconst 1, 1) := by decide +kernel
theorem dX7_bring_38 : decode cX7_bring 38 = .ok (.iadd, 1) := by decide +kernel
theorem dX7_bring_39 : decode cX7_bring 39 = .ok (.putfield 18, 3) := by decide +kernel
theorem dX7_bring_42 : decode cX7_bring 42 = .ok (.aload_n 0, 1) := by decide +kernel
theorem dX7_bring_43 : decode cX7_bring 43 = .ok (.getfield 18, 3) := by decide +kernel
theorem dX7_bring_46 : decode cX7_bring 46 = .ok (.iconst 1, 1) := by decide +kernel
theorem dX7_bring_47 : decode cX7_bring 47 = .ok (.isub, 1) := by decide +kernel
theorem dX7_bring_48 : decode cX7_bring 48 = .ok (.ireturn, 1) := by decide +kernel
set_option maxRecDepth 20000 in
theorem ggX8_init_J7_fill_53178 : GoodIn wsX8_init wsJ7_fill_53178 := goodIn_r _ [13] (by decide +kernel) (by decide +kernel)
set_option maxRecDepth 20000 in
theorem gX8_init_J7_fill_53178 : GoodIn wsX8_init (va_wsS RX8 29 yJ7_fill_53178 wsJ7_fill_53178) := goodIn_app (goodIn_of _ (by decide +kernel)) ggX8_init_J7_fill_53178
theorem dX8_init_0 : decode cX8_init 0 = .ok (.aload_n 0, 1) := by decide +kernel
theorem dX8_init_1 : decode cX8_init 1 = .ok (.invokespecial 3, 3) := by decide +kernel
theorem dX8_init_4 : decode cX8_init 4 = .ok (.aload_n 0, 1) := by decide +kernel
theorem dX8_init_5 : decode cX8_init 5 = .ok (.bipush 12, 2) := by decide +kernel
theorem dX8_init_7 : decode cX8_init 7 = .ok (.newarray .int, 2) := by decide +kernel
theorem dX8_init_9 : decode cX8_init 9 = .ok (.putfield 9, 3) := by decide +kernel
theorem dX8_init_12 : decode cX8_init 12 = .ok (.aload_n 0, 1) := by decide +kernel
theorem dX8_init_13 : decode cX8_init 13 = .ok (.bipush 16, 2) := by decide +kernel
theorem dX8_init_15 : decode cX8_init 15 = .ok (.newarray .int, 2) := by decide +kernel
theorem dX8_init_17 : decode cX8_init 17 = .ok (.putfield 15, 3) := by decide +kernel
theorem dX8_init_20 : decode cX8_init 20 = .ok (.aload_n 0, 1) := by decide +kernel
theorem dX8_init_21 : decode cX8_init 21 = .ok (.bipush 16, 2) := by decide +kernel
theorem dX8_init_23 : decode cX8_init 23 = .ok (.newarray .int, 2) := by decide +kernel
theorem dX8_init_25 : decode cX8_init 25 = .ok (.putfield 18, 3) := by decide +kernel
theorem dX8_init_28 : decode cX8_init 28 = .ok (.aload_n 0, 1) := by decide +kernel
theorem dX8_init_29 : decode cX8_init 29 = .ok (.iconst 0, 1) := by decide +kernel
theorem dX8_init_30 : decode cX8_init 30 = .ok (.putfield 21, 3) := by decide +kernel
theorem dX8_init_33 : decode cX8_init 33 = .ok (.aload_n 0, 1) := by decide +kernel
theorem dX8_init_34 : decode cX8_init 34 = .ok (.iconst 0, 1) := by decide +kernel
theorem dX8_init_35 : decode cX8_init 35 = .ok (.putfield 25, 3) := by decide +kernel
theorem dX8_init_38 : decode cX8_init 38 = .ok (.aload_n 0, 1) := by decide +kernel
theorem dX8_init_39 : decode cX8_init 39 = .ok (.getfield 9, 3) := by decide +kernel
theorem dX8_init_42 : decode cX8_init 42 = .ok (.iconst (-1), 1) := by decide +kernel
theorem dX8_init_43 : decode cX8_init 43 = .ok (.invokestatic 29, 3) := by decide +kernel
theorem dX8_init_46 : decode cX8_init 46 = .ok (.return_, 1) := by decide +kernel
theorem dX8_addTrait_0 : decode cX8_addTrait 0 = .ok (.iconst 1, 1) := by decide +kernel
theorem dX8_addTrait_1 : decode cX8_addTrait 1 = .ok (.iload_n 2, 1) := by decide +kernel
theorem dX8_addTrait_2 : decode cX8_addTrait 2 = .ok (.ishl, 1) := by decide +kernel
theorem dX8_addTrait_3 : decode cX8_addTrait 3 = .ok (.istore_n 3, 1) := by decide +kernel
theorem dX8_addTrait_4 : decode cX8_addTrait 4 = .ok (.aload_n 0, 1) := by decide +kernel
theorem dX8_addTrait_5 : decode cX8_addTrait 5 = .ok (.getfield 15, 3) := by decide +kernel
theorem dX8_addTrait_8 : decode cX8_addTrait 8 = .ok (.iload_n 1, 1) := by decide +kernel
theorem dX8_addTrait_9 : decode cX8_addTrait 9 = .ok (.iaload, 1) := by decide +kernel
theorem dX8_addTrait_10 : decode cX8_addTrait 10 = .ok (.iload_n 3, 1) := by decide +kernel
theorem dX8_addTrait_11 : decode cX8_addTrait 11 = .ok (.iand, 1) := by decide +kernel
theorem dX8_addTrait_12 : decode cX8_addTrait 12 = .ok (.ifCond .eq 5, 3) := by decide +kernel
theorem dX8_addTrait_15 : decode cX8_addTrait 15 = .ok (.iconst 0, 1) := by decide +kernel
theorem dX8_addTrait_16 : decode cX8_addTrait 16 = .ok (.ireturn, 1) := by decide +kernel
theorem dX8_addTrait_17 : decode cX8_addTrait 17 = .ok (.aload_n 0, 1) := by decide +kernel
theorem dX8_addTrait_18 : decode cX8_addTrait 18 = .ok (.getfield 15, 3) := by decide +kernel
theorem dX8_addTrait_21 : decode cX8_addTrait 21 = .ok (.iload_n 1, 1) := by decide +kernel
theorem dX8_addTrait_22 : decode cX8_addTrait 22 = .ok (.dup2, 1) := by decide +kernel
theorem dX8_addTrait_23 : decode cX8_addTrait 23 = .ok (.iaload, 1) := by decide +kernel
theorem dX8_addTrait_24 : decode cX8_addTrait 24 = .ok (.iload_n 3, 1) := by decide +kernel
theorem dX8_addTrait_25 : decode cX8_addTrait 25 = .ok (.ior, 1) := by decide +kernel
theorem dX8_addTrait_26 : decode cX8_addTrait 26 = .ok (.iastore, 1) := by decide +kernel
theorem dX8_addTrait_27 : decode cX8_addTrait 27 = .ok (.iconst 1, 1) := by decide +kernel
theorem dX8_addTrait_28 : decode cX8_addTrait 28 = .ok (.ireturn, 1) := by decide +kernel
theorem dX8_isAbstract_0 : decode cX8_isAbstract 0 = .ok (.aload_n 0, 1) := by decide +kernel
theorem dX8_isAbstract_1 : decode cX8_isAbstract 1 = .ok (.getfield 21, 3) := by decide +kernel
theorem dX8_isAbstract_4 : decode cX8_isAbstract 4 = .ok (.iconst 1, 1) := by decide +kernel
theorem dX8_isAbstract_5 : decode cX8_isAbstract 5 = .ok (.iload_n 1, 1) := by decide +kernel
theorem dX8_isAbstract_6 : decode cX8_isAbstract 6 = .ok (.ishl, 1) := by decide +kernel
theorem dX8_isAbstract_7 : decode cX8_isAbstract 7 = .ok (.iand, 1) := by decide +kernel
theorem dX8_isAbstract_8 : decode cX8_isAbstract 8 = .ok (.ifCond .eq 7, 3) := by decide +kernel
theorem dX8_isAbstract_11 : decode cX8_isAbstract 11 = .ok (.iconst 1, 1) := by decide +kernel
theorem dX8_isAbstract_12 : decode cX8_isAbstract 12 = .ok (.goto 4, 3) := by decide +kernel
theorem dX8_isAbstract_15 : decode cX8_isAbstract 15 = .ok (.iconst 0, 1) := by decide +kernel
theorem dX8_isAbstract_16 : decode cX8_isAbstract 16 = .ok (.ireturn, 1) := by decide +kernel
theorem dX8_findReach_0 : decode cX8_findReach 0 = .ok (.iconst 0, 1) := by decide +kernel
theorem dX8_findReach_1 : decode cX8_findReach 1 = .ok (.istore_n 1, 1) := by decide +kernel
theorem dX8_findReach_2 : decode cX8_findReach 2 = .ok (.iload_n 1, 1) := by decide +kernel
theorem dX8_findReach_3 : decode cX8_findReach 3 = .ok (.bipush 16, 2) := by decide +kernel
theorem dX8_findReach_5 : decode cX8_findReach 5 = .ok (.if_icmp .ge 54, 3) := by decide +kernel
theorem dX8_findReach_8 : decode cX8_findReach 8 = .ok (.aload_n 0, 1) := by decide +kernel
theorem dX8_findReach_9 : decode cX8_findReach 9 = .ok (.getfield 18, 3) := by decide +kernel
theorem dX8_findReach_12 : decode cX8_findReach 12 = .ok (.iload_n 1, 1) := by decide +kernel
theorem dX8_findReach_13 : decode cX8_findReach 13 = .ok (.aload_n 0, 1) := by decide +kernel
theorem dX8_findReach_14 : decode cX8_findReach 14 = .ok (.getfield 15, 3) := by decide +kernel
theorem dX8_findReach_17 : decode cX8_findReach 17 = .ok (.iload_n 1, 1) := by decide +kernel
theorem dX8_findReach_18 : decode cX8_findReach 18 = .ok (.iaload, 1) := by decide +kernel
theorem dX8_findReach_19 : decode cX8_findReach 19 = .ok (.iastore, 1) := by decide +kernel
theorem dX8_findReach_20 : decode cX8_findReach 20 = .ok (.iload_n 1, 1) := by decide +kernel
theorem dX8_findReach_21 : decode cX8_findReach 21 = .ok (.bipush 12, 2) := by decide +kernel
theorem dX8_findReach_23 : decode cX8_findReach 23 = .ok (.if_icmp .ge 30, 3) := by decide +kernel
theorem dX8_findReach_26 : decode cX8_findReach 26 = .ok (.aload_n 0, 1) := by decide +kernel
theorem dX8_findReach_27 : decode cX8_findReach 27 = .ok (.getfield 9, 3) := by decide +kernel
theorem dX8_findReach_30 : decode cX8_findReach 30 = .ok (.iload_n 1, 1) := by decide +kernel
theorem dX8_findReach_31 : decode cX8_findReach 31 = .ok (.iaload, 1) := by decide +kernel
theorem dX8_findReach_32 : decode cX8_findReach 32 = .ok (.iconst (-1), 1) := by decide +kernel
theorem dX8_findReach_33 : decode cX8_findReach 33 = .ok (.if_icmp .eq 20, 3) := by decide +kernel
theorem dX8_findReach_36 : decode cX8_findReach 36 = .ok (.aload_n 0, 1) := by decide +kernel
theorem dX8_findReach_37 : decode cX8_findReach 37 = .ok (.getfield 18, 3) := by decide +kernel
theorem dX8_findReach_40 : decode cX8_findReach 40 = .ok (.iload_n 1, 1) := by decide +kernel
theorem dX8_findReach_41 : decode cX8_findReach 41 = .ok (.dup2, 1) := by decide +kernel
theorem dX8_findReach_42 : decode cX8_findReach 42 = .ok (.iaload, 1) := by decide +kernel
theorem dX8_findReach_43 : decode cX8_findReach 43 = .ok (.iconst 1, 1) := by decide +kernel
theorem dX8_findReach_44 : decode cX8_findReach 44 = .ok (.aload_n 0, 1) := by decide +kernel
theorem dX8_findReach_45 : decode cX8_findReach 45 = .ok (.getfield 9, 3) := by decide +kernel
theorem dX8_findReach_48 : decode cX8_findReach 48 = .ok (.iload_n 1, 1) := by decide +kernel
theorem dX8_findReach_49 : decode cX8_findReach 49 = .ok (.iaload, 1) := by decide +kernel
theorem dX8_findReach_50 : decode cX8_findReach 50 = .ok (.ishl, 1) := by decide +kernel
theorem dX8_findReach_51 : decode cX8_findReach 51 = .ok (.ior, 1) := by decide +kernel
theorem dX8_findReach_52 : decode cX8_findReach 52 = .ok (.iastore, 1) := by decide +kernel
theorem dX8_findReach_53 : decode cX8_findReach 53 = .ok (.iinc 1 1, 3) := by decide +kernel
theorem dX8_findReach_56 : decode cX8_findReach 56 = .ok (.goto (-54), 3) := by decide +kernel
theorem dX8_findReach_59 : decode cX8_findReach 59 = .ok (.iconst 0, 1) := by decide +kernel
theorem dX8_findReach_60 : decode cX8_findReach 60 = .ok (.istore_n 1, 1) := by decide +kernel
theorem dX8_findReach_61 : decode cX8_findReach 61 = .ok (.iload_n 1, 1) := by decide +kernel
theorem dX8_findReach_62 : decode cX8_findReach 62 = .ok (.bipush 16, 2) := by decide +kernel
theorem dX8_findReach_64 : decode cX8_findReach 64 = .ok (.if_icmp .ge 51, 3) := by decide +kernel
theorem dX8_findReach_67 : decode cX8_findReach 67 = .ok (.iconst 0, 1) := by decide +kernel
theorem dX8_findReach_68 : decode cX8_findReach 68 = .ok (.istore_n 2, 1) := by decide +kernel
theorem dX8_findReach_69 : decode cX8_findReach 69 = .ok (.iload_n 2, 1) := by decide +kernel
theorem dX8_findReach_70 : decode cX8_findReach 70 = .ok (.bipush 16, 2) := by decide +kernel
theorem dX8_findReach_72 : decode cX8_findReach 72 = .ok (.if_icmp .ge 37, 3) := by decide +kernel
theorem dX8_findReach_75 : decode cX8_findReach 75 = .ok (.aload_n 0, 1) := by decide +kernel
theorem dX8_findReach_76 : decode cX8_findReach 76 = .ok (.getfield 18, 3) := by decide +kernel
theorem dX8_findReach_79 : decode cX8_findReach 79 = .ok (.iload_n 2, 1) := by decide +kernel
theorem dX8_findReach_80 : decode cX8_findReach 80 = .ok (.iaload, 1) := by decide +kernel
theorem dX8_findReach_81 : decode cX8_findReach 81 = .ok (.iconst 1, 1) := by decide +kernel
theorem dX8_findReach_82 : decode cX8_findReach 82 = .ok (.iload_n 1, 1) := by decide +kernel
theorem dX8_findReach_83 : decode cX8_findReach 83 = .ok (.ishl, 1) := by decide +kernel
theorem dX8_findReach_84 : decode cX8_findReach 84 = .ok (.iand, 1) := by decide +kernel
theorem dX8_findReach_85 : decode cX8_findReach 85 = .ok (.ifCond .eq 18, 3) := by decide +kernel
theorem dX8_findReach_88 : decode cX8_findReach 88 = .ok (.aload_n 0, 1) := by decide +kernel
theorem dX8_findReach_89 : decode cX8_findReach 89 = .ok (.getfield 18, 3) := by decide +kernel
theorem dX8_findReach_92 : decode cX8_findReach 92 = .ok (.iload_n 2, 1) := by decide +kernel
theorem dX8_findReach_93 : decode cX8_findReach 93 = .ok (.dup2, 1) := by decide +kernel
theorem dX8_findReach_94 : decode cX8_findReach 94 = .ok (.iaload, 1) := by decide +kernel
theorem dX8_findReach_95 : decode cX8_findReach 95 = .ok (.aload_n 0, 1) := by decide +kernel
theorem dX8_findReach_96 : decode cX8_findReach 96 = .ok (.getfield 18, 3) := by decide +kernel
theorem dX8_findReach_99 : decode cX8_findReach 99 = .ok (.iload_n 1, 1) := by decide +kernel
theorem dX8_findReach_100 : decode cX8_findReach 100 = .ok (.iaload, 1) := by decide +kernel
theorem dX8_findReach_101 : decode cX8_findReach 101 = .ok (.ior, 1) := by decide +kernel
theorem dX8_findReach_102 : decode cX8_findReach 102 = .ok (.iastore, 1) := by decide +kernel
theorem dX8_findReach_103 : decode cX8_findReach 103 = .ok (.iinc 2 1, 3) := by decide +kernel
theorem dX8_findReach_106 : decode cX8_findReach 106 = .ok (.goto (-37), 3) := by decide +kernel
theorem dX8_findReach_109 : decode cX8_findReach 109 = .ok (.iinc 1 1, 3) := by decide +kernel
theorem dX8_findReach_112 : decode cX8_findReach 112 = .ok (.goto (-51), 3) := by decide +kernel
theorem dX8_findReach_115 : decode cX8_findReach 115 = .ok (.return_, 1) := by decide +kernel
theorem dX8_goesRound_0 : decode cX8_goesRound 0 = .ok (.iconst 0, 1) := by decide +kernel
theorem dX8_goesRound_1 : decode cX8_goesRound 1 = .ok (.istore_n 1, 1) := by decide +kernel
theorem dX8_goesRound_2 : decode cX8_goesRound 2 = .ok (.iload_n 1, 1) := by decide +kernel
theorem dX8_goesRound_3 : decode cX8_goesRound 3 = .ok (.bipush 16, 2) := by decide +kernel
theorem dX8_goesRound_5 : decode cX8_goesRound 5 = .ok (.if_icmp .ge 24, 3) := by decide +kernel
theorem dX8_goesRound_8 : decode cX8_goesRound 8 = .ok (.aload_n 0, 1) := by decide +kernel
theorem dX8_goesRound_9 : decode cX8_goesRound 9 = .ok (.getfield 18, 3) := by decide +kernel
theorem dX8_goesRound_12 : decode cX8_goesRound 12 = .ok (.iload_n 1, 1) := by decide +kernel
theorem dX8_goesRound_13 : decode cX8_goesRound 13 = .ok (.iaload, 1) := by decide +kernel
theorem dX8_goesRound_14 : decode cX8_goesRound 14 = .ok (.iconst 1, 1) := by decide +kernel
theorem dX8_goesRound_15 : decode cX8_goesRound 15 = .ok (.iload_n 1, 1) := by decide +kernel
theorem dX8_goesRound_16 : decode cX8_goesRound 16 = .ok (.ishl, 1) := by decide +kernel
theorem dX8_goesRound_17 : decode cX8_goesRound 17 = .ok (.iand, 1) := by decide +kernel
theorem dX8_goesRound_18 : decode cX8_goesRound 18 = .ok (.ifCond .eq 5, 3) := by decide +kernel
theorem dX8_goesRound_21 : decode cX8_goesRound 21 = .ok (.iconst 1, 1) := by decide +kernel
theorem dX8_goesRound_22 : decode cX8_goesRound 22 = .ok (.ireturn, 1) := by decide +kernel
theorem dX8_goesRound_23 : decode cX8_goesRound 23 = .ok (.iinc 1 1, 3) := by decide +kernel
theorem dX8_goesRound_26 : decode cX8_goesRound 26 = .ok (.goto (-24), 3) := by decide +kernel
theorem dX8_goesRound_29 : decode cX8_goesRound 29 = .ok (.iconst 0, 1) := by decide +kernel
theorem dX8_goesRound_30 : decode cX8_goesRound 30 = .ok (.ireturn, 1) := by decide +kernel
theorem dX8_isBelow_0 : decode cX8_isBelow 0 = .ok (.iload_n 1, 1) := by decide +kernel
theorem dX8_isBelow_1 : decode cX8_isBelow 1 = .ok (.iload_n 2, 1) := by decide +kernel
theorem dX8_isBelow_2 : decode cX8_isBelow 2 = .ok (.if_icmp .eq 16, 3) := by decide +kernel
theorem dX8_isBelow_5 : decode cX8_isBelow 5 = .ok (.aload_n 0, 1) := by decide +kernel
theorem dX8_isBelow_6 : decode cX8_isBelow 6 = .ok (.getfield 18, 3) := by decide +kernel
theorem dX8_isBelow_9 : decode cX8_isBelow 9 = .ok (.iload_n 1, 1) := by decide +kernel
theorem dX8_isBelow_10 : decode cX8_isBelow 10 = .ok (.iaload, 1) := by decide +kernel
theorem dX8_isBelow_11 : decode cX8_isBelow 11 = .ok (.iconst 1, 1) := by decide +kernel
theorem dX8_isBelow_12 : decode cX8_isBelow 12 = .ok (.iload_n 2, 1) := by decide +kernel
theorem dX8_isBelow_13 : decode cX8_isBelow 13 = .ok (.ishl, 1) := by decide +kernel
theorem dX8_isBelow_14 : decode cX8_isBelow 14 = .ok (.iand, 1) := by decide +kernel
theorem dX8_isBelow_15 : decode cX8_isBelow 15 = .ok (.ifCond .eq 7, 3) := by decide +kernel
theorem dX8_isBelow_18 : decode cX8_isBelow 18 = .ok (.iconst 1, 1) := by decide +kernel
theorem dX8_isBelow_19 : decode cX8_isBelow 19 = .ok (.goto 4, 3) := by decide +kernel
theorem dX8_isBelow_22 : decode cX8_isBelow 22 = .ok (.iconst 0, 1) := by decide +kernel
theorem dX8_isBelow_23 : decode cX8_isBelow 23 = .ok (.ireturn, 1) := by decide +kernel
theorem dJ9_floorMod_7cf53_0 : decode cJ9_floorMod_7cf53 0 = .ok (.iload_n 0, 1) := by decide +kernel
theorem dJ9_floorMod_7cf53_1 : decode cJ9_floorMod_7cf53 1 = .ok (.iload_n 1, 1) := by decide +kernel
theorem dJ9_floorMod_7cf53_2 : decode cJ9_floorMod_7cf53 2 = .ok (.irem, 1) := by decide +kernel
theorem dJ9_floorMod_7cf53_3 : decode cJ9_floorMod_7cf53 3 = .ok (.istore_n 2, 1) := by decide +kernel
theorem dJ9_floorMod_7cf53_4 : decode cJ9_floorMod_7cf53 4 = .ok (.iload_n 0, 1) := by decide +kernel
theorem dJ9_floorMod_7cf53_5 : decode cJ9_floorMod_7cf53 5 = .ok (.iload_n 1, 1) := by decide +kernel
theorem dJ9_floorMod_7cf53_6 : decode cJ9_floorMod_7cf53 6 = .ok (.ixor, 1) := by decide +kernel
theorem dJ9_floorMod_7cf53_7 : decode cJ9_floorMod_7cf53 7 = .ok (.ifCond .ge 11, 3) := by decide +kernel
theorem dJ9_floorMod_7cf53_10 : decode cJ9_floorMod_7cf53 10 = .ok (.iload_n 2, 1) := by decide +kernel
theorem dJ9_floorMod_7cf53_11 : decode cJ9_floorMod_7cf53 11 = .ok (.ifCond .eq 7, 3) := by decide +kernel
theorem dJ9_floorMod_7cf53_14 : decode cJ9_floorMod_7cf53 14 = .ok (.iload_n 2, 1) := by decide +kernel
theorem dJ9_floorMod_7cf53_15 : decode cJ9_floorMod_7cf53 15 = .ok (.iload_n 1, 1) := by decide +kernel
theorem dJ9_floorMod_7cf53_16 : decode cJ9_floorMod_7cf53 16 = .ok (.iadd, 1) := by decide +kernel
theorem dJ9_floorMod_7cf53_17 : decode cJ9_floorMod_7cf53 17 = .ok (.ireturn, 1) := by decide +kernel
theorem dJ9_floorMod_7cf53_18 : decode cJ9_floorMod_7cf53 18 = .ok (.iload_n 2, 1) := by decide +kernel
theorem dJ9_floorMod_7cf53_19 : decode cJ9_floorMod_7cf53 19 = .ok (.ireturn, 1) := by decide +kernel
theorem dJ9_min_f86c9_0 : decode cJ9_min_f86c9 0 = .ok (.lload_n 0, 1) := by decide +kernel
theorem dJ9_min_f86c9_1 : decode cJ9_min_f86c9 1 = .ok (.lload_n 2, 1) := by decide +kernel
theorem dJ9_min_f86c9_2 : decode cJ9_min_f86c9 2 = .ok (.lcmp, 1) := by decide +kernel
theorem dJ9_min_f86c9_3 : decode cJ9_min_f86c9 3 = .ok (.ifCond .gt 7, 3) := by decide +kernel
theorem dJ9_min_f86c9_6 : decode cJ9_min_f86c9 6 = .ok (.lload_n 0, 1) := by decide +kernel
theorem dJ9_min_f86c9_7 : decode cJ9_min_f86c9 7 = .ok (.goto 4, 3) := by decide +kernel
theorem dJ9_min_f86c9_10 : decode cJ9_min_f86c9 10 = .ok (.lload_n 2, 1) := by decide +kernel
theorem dJ9_min_f86c9_11 : decode cJ9_min_f86c9 11 = .ok (.lreturn, 1) := by decide +kernel
theorem dJ7_fill_53178_0 : decode cJ7_fill_53178 0 = .ok (.iconst 0, 1) := by decide +kernel
theorem dJ7_fill_53178_1 : decode cJ7_fill_53178 1 = .ok (.istore_n 2, 1) := by decide +kernel
theorem dJ7_fill_53178_2 : decode cJ7_fill_53178 2 = .ok (.aload_n 0, 1) := by decide +kernel
theorem dJ7_fill_53178_3 : decode cJ7_fill_53178 3 = .ok (.arraylength, 1) := by decide +kernel
theorem dJ7_fill_53178_4 : decode cJ7_fill_53178 4 = .ok (.istore_n 3, 1) := by decide +kernel
theorem dJ7_fill_53178_5 : decode cJ7_fill_53178 5 = .ok (.iload_n 2, 1) := by decide +kernel
theorem dJ7_fill_53178_6 : decode cJ7_fill_53178 6 = .ok (.iload_n 3, 1) := by decide +kernel
theorem dJ7_fill_53178_7 : decode cJ7_fill_53178 7 = .ok (.if_icmp .ge 13, 3) := by decide +kernel
theorem dJ7_fill_53178_10 : decode cJ7_fill_53178 10 = .ok (.aload_n 0, 1) := by decide +kernel
theorem dJ7_fill_53178_11 : decode cJ7_fill_53178 11 = .ok (.iload_n 2, 1) := by decide +kernel
theorem dJ7_fill_53178_12 : decode cJ7_fill_53178 12 = .ok (.iload_n 1, 1) := by decide +kernel
theorem dJ7_fill_53178_13 : decode cJ7_fill_53178 13 = .ok (.iastore, 1) := by decide +kernel
theorem dJ7_fill_53178_14 : decode cJ7_fill_53178 14 = .ok (.iinc 2 1, 3) := by decide +kernel
theorem dJ7_fill_53178_17 : decode cJ7_fill_53178 17 = .ok (.goto (-12), 3) := by decide +kernel
theorem dJ7_fill_53178_20 : decode cJ7_fill_53178 20 = .ok (.return_, 1) := by decide +kernel
