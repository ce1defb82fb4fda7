theorem dX1_init_0 : decode cX1_init 0 = .ok (.aload_n 0, 1) := by decide +kernel
theorem dX1_init_1 : decode cX1_init 1 = .ok (.invokespecial 3, 3) := by decide +kernel
theorem dX1_init_4 : decode cX1_init 4 = .ok (.aload_n 0, 1) := by decide +kernel
theorem dX1_init_5 : decode cX1_init 5 = .ok (.new 9, 3) := by decide +kernel
theorem dX1_init_8 : decode cX1_init 8 = .ok (.dup, 1) := by decide +kernel
theorem dX1_init_9 : decode cX1_init 9 = .ok (.invokespecial 11, 3) := by decide +kernel
theorem dX1_init_12 : decode cX1_init 12 = .ok (.putfield 12, 3) := by decide +kernel
theorem dX1_init_15 : decode cX1_init 15 = .ok (.aload_n 0, 1) := by decide +kernel
theorem dX1_init_16 : decode cX1_init 16 = .ok (.bipush 8, 2) := by decide +kernel
theorem dX1_init_18 : decode cX1_init 18 = .ok (.newarray .long, 2) := by decide +kernel
theorem dX1_init_20 : decode cX1_init 20 = .ok (.putfield 18, 3) := by decide +kernel
theorem dX1_init_23 : decode cX1_init 23 = .ok (.aload_n 0, 1) := by decide +kernel
theorem dX1_init_24 : decode cX1_init 24 = .ok (.bipush 8, 2) := by decide +kernel
theorem dX1_init_26 : decode cX1_init 26 = .ok (.newarray .int, 2) := by decide +kernel
theorem dX1_init_28 : decode cX1_init 28 = .ok (.putfield 22, 3) := by decide +kernel
theorem dX1_init_31 : decode cX1_init 31 = .ok (.aload_n 0, 1) := by decide +kernel
theorem dX1_init_32 : decode cX1_init 32 = .ok (.bipush 8, 2) := by decide +kernel
theorem dX1_init_34 : decode cX1_init 34 = .ok (.newarray .int, 2) := by decide +kernel
theorem dX1_init_36 : decode cX1_init 36 = .ok (.putfield 26, 3) := by decide +kernel
theorem dX1_init_39 : decode cX1_init 39 = .ok (.aload_n 0, 1) := by decide +kernel
theorem dX1_init_40 : decode cX1_init 40 = .ok (.bipush 12, 2) := by decide +kernel
theorem dX1_init_42 : decode cX1_init 42 = .ok (.newarray .int, 2) := by decide +kernel
theorem dX1_init_44 : decode cX1_init 44 = .ok (.putfield 29, 3) := by decide +kernel
theorem dX1_init_47 : decode cX1_init 47 = .ok (.aload_n 0, 1) := by decide +kernel
theorem dX1_init_48 : decode cX1_init 48 = .ok (.bipush 6, 2) := by decide +kernel
theorem dX1_init_50 : decode cX1_init 50 = .ok (.newarray .long, 2) := by decide +kernel
theorem dX1_init_52 : decode cX1_init 52 = .ok (.putfield 32, 3) := by decide +kernel
theorem dX1_init_55 : decode cX1_init 55 = .ok (.aload_n 0, 1) := by decide +kernel
theorem dX1_init_56 : decode cX1_init 56 = .ok (.bipush 6, 2) := by decide +kernel
theorem dX1_init_58 : decode cX1_init 58 = .ok (.newarray .int, 2) := by decide +kernel
theorem dX1_init_60 : decode cX1_init 60 = .ok (.putfield 35, 3) := by decide +kernel
theorem dX1_init_63 : decode cX1_init 63 = .ok (.aload_n 0, 1) := by decide +kernel
theorem dX1_init_64 : decode cX1_init 64 = .ok (.bipush 60, 2) := by decide +kernel
theorem dX1_init_66 : decode cX1_init 66 = .ok (.newarray .int, 2) := by decide +kernel
theorem dX1_init_68 : decode cX1_init 68 = .ok (.putfield 38, 3) := by decide +kernel
theorem dX1_init_71 : decode cX1_init 71 = .ok (.aload_n 0, 1) := by decide +kernel
theorem dX1_init_72 : decode cX1_init 72 = .ok (.bipush 60, 2) := by decide +kernel
theorem dX1_init_74 : decode cX1_init 74 = .ok (.newarray .int, 2) := by decide +kernel
theorem dX1_init_76 : decode cX1_init 76 = .ok (.putfield 41, 3) := by decide +kernel
theorem dX1_init_79 : decode cX1_init 79 = .ok (.aload_n 0, 1) := by decide +kernel
theorem dX1_init_80 : decode cX1_init 80 = .ok (.bipush 60, 2) := by decide +kernel
theorem dX1_init_82 : decode cX1_init 82 = .ok (.newarray .int, 2) := by decide +kernel
theorem dX1_init_84 : decode cX1_init 84 = .ok (.putfield 44, 3) := by decide +kernel
theorem dX1_init_87 : decode cX1_init 87 = .ok (.aload_n 0, 1) := by decide +kernel
theorem dX1_init_88 : decode cX1_init 88 = .ok (.bipush 60, 2) := by decide +kernel
theorem dX1_init_90 : decode cX1_init 90 = .ok (.newarray .int, 2) := by decide +kernel
theorem dX1_init_92 : decode cX1_init 92 = .ok (.putfield 47, 3) := by decide +kernel
theorem dX1_init_95 : decode cX1_init 95 = .ok (.aload_n 0, 1) := by decide +kernel
theorem dX1_init_96 : decode cX1_init 96 = .ok (.bipush 60, 2) := by decide +kernel
theorem dX1_init_98 : decode cX1_init 98 = .ok (.newarray .int, 2) := by decide +kernel
theorem dX1_init_100 : decode cX1_init 100 = .ok (.putfield 50, 3) := by decide +kernel
theorem dX1_init_103 : decode cX1_init 103 = .ok (.return_, 1) := by decide +kernel
theorem dX1_clear_0 : decode cX1_clear 0 = .ok (.aload_n 0, 1) := by decide +kernel
theorem dX1_clear_1 : decode cX1_clear 1 = .ok (.iconst 0, 1) := by decide +kernel
theorem dX1_clear_2 : decode cX1_clear 2 = .ok (.putfield 53, 3) := by decide +kernel
theorem dX1_clear_5 : decode cX1_clear 5 = .ok (.aload_n 0, 1) := by decide +kernel
theorem dX1_clear_6 : decode cX1_clear 6 = .ok (.iconst 0, 1) := by decide +kernel
theorem dX1_clear_7 : decode cX1_clear 7 = .ok (.putfield 57, 3) := by decide +kernel
theorem dX1_clear_10 : decode cX1_clear 10 = .ok (.aload_n 0, 1) := by decide +kernel
theorem dX1_clear_11 : decode cX1_clear 11 = .ok (.iconst 0, 1) := by decide +kernel
theorem dX1_clear_12 : decode cX1_clear 12 = .ok (.putfield 60, 3) := by decide +kernel
theorem dX1_clear_15 : decode cX1_clear 15 = .ok (.aload_n 0, 1) := by decide +kernel
theorem dX1_clear_16 : decode cX1_clear 16 = .ok (.iconst 0, 1) := by decide +kernel
theorem dX1_clear_17 : decode cX1_clear 17 = .ok (.putfield 63, 3) := by decide +kernel
theorem dX1_clear_20 : decode cX1_clear 20 = .ok (.return_, 1) := by decide +kernel
theorem dX1_becomeFirst_0 : decode cX1_becomeFirst 0 = .ok (.aload_n 0, 1) := by decide +kernel
theorem dX1_becomeFirst_1 : decode cX1_becomeFirst 1 = .ok (.invokevirtual 66, 3) := by decide +kernel
theorem dX1_becomeFirst_4 : decode cX1_becomeFirst 4 = .ok (.iconst 0, 1) := by decide +kernel
theorem dX1_becomeFirst_5 : decode cX1_becomeFirst 5 = .ok (.istore_n 1, 1) := by decide +kernel
theorem dX1_becomeFirst_6 : decode cX1_becomeFirst 6 = .ok (.iload_n 1, 1) := by decide +kernel
theorem dX1_becomeFirst_7 : decode cX1_becomeFirst 7 = .ok (.iconst 4, 1) := by decide +kernel
theorem dX1_becomeFirst_8 : decode cX1_becomeFirst 8 = .ok (.if_icmp .ge 15, 3) := by decide +kernel
theorem dX1_becomeFirst_11 : decode cX1_becomeFirst 11 = .ok (.aload_n 0, 1) := by decide +kernel
theorem dX1_becomeFirst_12 : decode cX1_becomeFirst 12 = .ok (.bipush 10, 2) := by decide +kernel
theorem dX1_becomeFirst_14 : decode cX1_becomeFirst 14 = .ok (.invokevirtual 69, 3) := by decide +kernel
theorem dX1_becomeFirst_17 : decode cX1_becomeFirst 17 = .ok (.iinc 1 1, 3) := by decide +kernel
theorem dX1_becomeFirst_20 : decode cX1_becomeFirst 20 = .ok (.goto (-14), 3) := by decide +kernel
theorem dX1_becomeFirst_23 : decode cX1_becomeFirst 23 = .ok (.return_, 1) := by decide +kernel
theorem dX1_addWalker_0 : decode cX1_addWalker 0 = .ok (.aload_n 0, 1) := by decide +kernel
theorem dX1_addWalker_1 : decode cX1_addWalker 1 = .ok (.getfield 53, 3) := by decide +kernel
theorem dX1_addWalker_4 : decode cX1_addWalker 4 = .ok (.bipush 8, 2) := by decide +kernel
theorem dX1_addWalker_6 : decode cX1_addWalker 6 = .ok (.if_icmp .ge 44, 3) := by decide +kernel
theorem dX1_addWalker_9 : decode cX1_addWalker 9 = .ok (.aload_n 0, 1) := by decide +kernel
theorem dX1_addWalker_10 : decode cX1_addWalker 10 = .ok (.getfield 18, 3) := by decide +kernel
theorem dX1_addWalker_13 : decode cX1_addWalker 13 = .ok (.aload_n 0, 1) := by decide +kernel
theorem dX1_addWalker_14 : decode cX1_addWalker 14 = .ok (.getfield 53, 3) := by decide +kernel
theorem dX1_addWalker_17 : decode cX1_addWalker 17 = .ok (.lload_n 1, 1) := by decide +kernel
theorem dX1_addWalker_18 : decode cX1_addWalker 18 = .ok (.lastore, 1) := by decide +kernel
theorem dX1_addWalker_19 : decode cX1_addWalker 19 = .ok (.aload_n 0, 1) := by decide +kernel
theorem dX1_addWalker_20 : decode cX1_addWalker 20 = .ok (.getfield 22, 3) := by decide +kernel
theorem dX1_addWalker_23 : decode cX1_addWalker 23 = .ok (.aload_n 0, 1) := by decide +kernel
theorem dX1_addWalker_24 : decode cX1_addWalker 24 = .ok (.getfield 53, 3) := by decide +kernel
theorem dX1_addWalker_27 : decode cX1_addWalker 27 = .ok (.iload_n 3, 1) := by decide +kernel
theorem dX1_addWalker_28 : decode cX1_addWalker 28 = .ok (.iastore, 1) := by decide +kernel
theorem dX1_addWalker_29 : decode cX1_addWalker 29 = .ok (.aload_n 0, 1) := by decide +kernel
theorem dX1_addWalker_30 : decode cX1_addWalker 30 = .ok (.getfield 26, 3) := by decide +kernel
theorem dX1_addWalker_33 : decode cX1_addWalker 33 = .ok (.aload_n 0, 1) := by decide +kernel
theorem dX1_addWalker_34 : decode cX1_addWalker 34 = .ok (.getfield 53, 3) := by decide +kernel
theorem dX1_addWalker_37 : decode cX1_addWalker 37 = .ok (.iload 4, 2) := by decide +kernel
theorem dX1_addWalker_39 : decode cX1_addWalker 39 = .ok (.iastore, 1) := by decide +kernel
theorem dX1_addWalker_40 : decode cX1_addWalker 40 = .ok (.aload_n 0, 1) := by decide +kernel
theorem dX1_addWalker_41 : decode cX1_addWalker 41 = .ok (.dup, 1) := by decide +kernel
theorem dX1_addWalker_42 : decode cX1_addWalker 42 = .ok (.getfield 53, 3) := by decide +kernel
theorem dX1_addWalker_45 : decode cX1_addWalker 45 = .ok (.iconst 1, 1) := by decide +kernel
theorem dX1_addWalker_46 : decode cX1_addWalker 46 = .ok (.iadd, 1) := by decide +kernel
theorem dX1_addWalker_47 : decode cX1_addWalker 47 = .ok (.putfield 53, 3) := by decide +kernel
theorem dX1_addWalker_50 : decode cX1_addWalker 50 = .ok (.return_, 1) := by decide +kernel
theorem dX1_addPlank_0 : decode cX1_addPlank 0 = .ok (.aload_n 0, 1) := by decide +kernel
theorem dX1_addPlank_1 : decode cX1_addPlank 1 = .ok (.getfield 57, 3) := by decide +kernel
theorem dX1_addPlank_4 : decode cX1_addPlank 4 = .ok (.bipush 12, 2) := by decide +kernel
theorem dX1_addPlank_6 : decode cX1_addPlank 6 = .ok (.if_icmp .ge 23, 3) := by decide +kernel
theorem dX1_addPlank_9 : decode cX1_addPlank 9 = .ok (.aload_n 0, 1) := by decide +kernel
theorem dX1_addPlank_10 : decode cX1_addPlank 10 = .ok (.getfield 29, 3) := by decide +kernel
theorem dX1_addPlank_13 : decode cX1_addPlank 13 = .ok (.aload_n 0, 1) := by decide +kernel
theorem dX1_addPlank_14 : decode cX1_addPlank 14 = .ok (.getfield 57, 3) := by decide +kernel
theorem dX1_addPlank_17 : decode cX1_addPlank 17 = .ok (.iload_n 1, 1) := by decide +kernel
theorem dX1_addPlank_18 : decode cX1_addPlank 18 = .ok (.iastore, 1) := by decide +kernel
theorem dX1_addPlank_19 : decode cX1_addPlank 19 = .ok (.aload_n 0, 1) := by decide +kernel
theorem dX1_addPlank_20 : decode cX1_addPlank 20 = .ok (.dup, 1) := by decide +kernel
theorem dX1_addPlank_21 : decode cX1_addPlank 21 = .ok (.getfield 57, 3) := by decide +kernel
theorem dX1_addPlank_24 : decode cX1_addPlank 24 = .ok (.iconst 1, 1) := by decide +kernel
theorem dX1_addPlank_25 : decode cX1_addPlank 25 = .ok (.iadd, 1) := by decide +kernel
theorem dX1_addPlank_26 : decode cX1_addPlank 26 = .ok (.putfield 57, 3) := by decide +kernel
theorem dX1_addPlank_29 : decode cX1_addPlank 29 = .ok (.return_, 1) := by decide +kernel
theorem dX1_addPlan_0 : decode cX1_addPlan 0 = .ok (.aload_n 0, 1) := by decide +kernel
theorem dX1_addPlan_1 : decode cX1_addPlan 1 = .ok (.getfield 60, 3) := by decide +kernel
theorem dX1_addPlan_4 : decode cX1_addPlan 4 = .ok (.bipush 6, 2) := by decide +kernel
theorem dX1_addPlan_6 : decode cX1_addPlan 6 = .ok (.if_icmp .ge 33, 3) := by decide +kernel
theorem dX1_addPlan_9 : decode cX1_addPlan 9 = .ok (.aload_n 0, 1) := by decide +kernel
theorem dX1_addPlan_10 : decode cX1_addPlan 10 = .ok (.getfield 32, 3) := by decide +kernel
theorem dX1_addPlan_13 : decode cX1_addPlan 13 = .ok (.aload_n 0, 1) := by decide +kernel
theorem dX1_addPlan_14 : decode cX1_addPlan 14 = .ok (.getfield 60, 3) := by decide +kernel
theorem dX1_addPlan_17 : decode cX1_addPlan 17 = .ok (.lload_n 1, 1) := by decide +kernel
theorem dX1_addPlan_18 : decode cX1_addPlan 18 = .ok (.lastore, 1) := by decide +kernel
theorem dX1_addPlan_19 : decode cX1_addPlan 19 = .ok (.aload_n 0, 1) := by decide +kernel
theorem dX1_addPlan_20 : decode cX1_addPlan 20 = .ok (.getfield 35, 3) := by decide +kernel
theorem dX1_addPlan_23 : decode cX1_addPlan 23 = .ok (.aload_n 0, 1) := by decide +kernel
theorem dX1_addPlan_24 : decode cX1_addPlan 24 = .ok (.getfield 60, 3) := by decide +kernel
theorem dX1_addPlan_27 : decode cX1_addPlan 27 = .ok (.iload_n 3, 1) := by decide +kernel
theorem dX1_addPlan_28 : decode cX1_addPlan 28 = .ok (.iastore, 1) := by decide +kernel
theorem dX1_addPlan_29 : decode cX1_addPlan 29 = .ok (.aload_n 0, 1) := by decide +kernel
theorem dX1_addPlan_30 : decode cX1_addPlan 30 = .ok (.dup, 1) := by decide +kernel
theorem dX1_addPlan_31 : decode cX1_addPlan 31 = .ok (.getfield 60, 3) := by decide +kernel
theorem dX1_addPlan_34 : decode cX1_addPlan 34 = .ok (.iconst 1, 1) := by decide +kernel
theorem dX1_addPlan_35 : decode cX1_addPlan 35 = .ok (.iadd, 1) := by decide +kernel
theorem dX1_addPlan_36 : decode cX1_addPlan 36 = .ok (.putfield 60, 3) := by decide +kernel
theorem dX1_addPlan_39 : decode cX1_addPlan 39 = .ok (.return_, 1) := by decide +kernel
theorem dX1_addAct_0 : decode cX1_addAct 0 = .ok (.aload_n 0, 1) := by decide +kernel
theorem dX1_addAct_1 : decode cX1_addAct 1 = .ok (.getfield 63, 3) := by decide +kernel
theorem dX1_addAct_4 : decode cX1_addAct 4 = .ok (.bipush 60, 2) := by decide +kernel
theorem dX1_addAct_6 : decode cX1_addAct 6 = .ok (.if_icmp .lt 5, 3) := by decide +kernel
theorem dX1_addAct_9 : decode cX1_addAct 9 = .ok (.iconst (-1), 1) := by decide +kernel
theorem dX1_addAct_10 : decode cX1_addAct 10 = .ok (.ireturn, 1) := by decide +kernel
theorem dX1_addAct_11 : decode cX1_addAct 11 = .ok (.aload_n 0, 1) := by decide +kernel
theorem dX1_addAct_12 : decode cX1_addAct 12 = .ok (.getfield 38, 3) := by decide +kernel
theorem dX1_addAct_15 : decode cX1_addAct 15 = .ok (.aload_n 0, 1) := by decide +kernel
theorem dX1_addAct_16 : decode cX1_addAct 16 = .ok (.getfield 63, 3) := by decide +kernel
theorem dX1_addAct_19 : decode cX1_addAct 19 = .ok (.iload_n 1, 1) := by decide +kernel
theorem dX1_addAct_20 : decode cX1_addAct 20 = .ok (.iastore, 1) := by decide +kernel
theorem dX1_addAct_21 : decode cX1_addAct 21 = .ok (.aload_n 0, 1) := by decide +kernel
theorem dX1_addAct_22 : decode cX1_addAct 22 = .ok (.getfield 41, 3) := by decide +kernel
theorem dX1_addAct_25 : decode cX1_addAct 25 = .ok (.aload_n 0, 1) := by decide +kernel
theorem dX1_addAct_26 : decode cX1_addAct 26 = .ok (.getfield 63, 3) := by decide +kernel
theorem dX1_addAct_29 : decode cX1_addAct 29 = .ok (.iload_n 2, 1) := by decide +kernel
theorem dX1_addAct_30 : decode cX1_addAct 30 = .ok (.iastore, 1) := by decide +kernel
theorem dX1_addAct_31 : decode cX1_addAct 31 = .ok (.aload_n 0, 1) := by decide +kernel
theorem dX1_addAct_32 : decode cX1_addAct 32 = .ok (.getfield 44, 3) := by decide +kernel
theorem dX1_addAct_35 : decode cX1_addAct 35 = .ok (.aload_n 0, 1) := by decide +kernel
theorem dX1_addAct_36 : decode cX1_addAct 36 = .ok (.getfield 63, 3) := by decide +kernel
theorem dX1_addAct_39 : decode cX1_addAct 39 = .ok (.iconst (-1), 1) := by decide +kernel
theorem dX1_addAct_40 : decode cX1_addAct 40 = .ok (.iastore, 1) := by decide +kernel
theorem dX1_addAct_41 : decode cX1_addAct 41 = .ok (.aload_n 0, 1) := by decide +kernel
theorem dX1_addAct_42 : decode cX1_addAct 42 = .ok (.getfield 47, 3) := by decide +kernel
theorem dX1_addAct_45 : decode cX1_addAct 45 = .ok (.aload_n 0, 1) := by decide +kernel
theorem dX1_addAct_46 : decode cX1_addAct 46 = .ok (.getfield 63, 3) := by decide +kernel
theorem dX1_addAct_49 : decode cX1_addAct 49 = .ok (.iconst (-1), 1) := by decide +kernel
theorem dX1_addAct_50 : decode cX1_addAct 50 = .ok (.iastore, 1) := by decide +kernel
theorem dX1_addAct_51 : decode cX1_addAct 51 = .ok (.aload_n 0, 1) := by decide +kernel
theorem dX1_addAct_52 : decode cX1_addAct 52 = .ok (.getfield 50, 3) := by decide +kernel
theorem dX1_addAct_55 : decode cX1_addAct 55 = .ok (.aload_n 0, 1) := by decide +kernel
theorem dX1_addAct_56 : decode cX1_addAct 56 = .ok (.getfield 63, 3) := by decide +kernel
theorem dX1_addAct_59 : decode cX1_addAct 59 = .ok (.iconst (-1), 1) := by decide +kernel
theorem dX1_addAct_60 : decode cX1_addAct 60 = .ok (.iastore, 1) := by decide +kernel
theorem dX1_addAct_61 : decode cX1_addAct 61 = .ok (.aload_n 0, 1) := by decide +kernel
theorem dX1_addAct_62 : decode cX1_addAct 62 = .ok (.dup, 1) := by decide +kernel
theorem dX1_addAct_63 : decode cX1_addAct 63 = .ok (.getfield 63, 3) := by decide +kernel
theorem dX1_addAct_66 : decode cX1_addAct 66 = .ok (.iconst 1, 1) := by decide +kernel
theorem dX1_addAct_67 : decode cX1_addAct 67 = .ok (.iadd, 1) := by decide +kernel
theorem dX1_addAct_68 : decode cX1_addAct 68 = .ok (.putfield 63, 3) := by decide +kernel
theorem dX1_addAct_71 : decode cX1_addAct 71 = .ok (.aload_n 0, 1) := by decide +kernel
theorem dX1_addAct_72 : decode cX1_addAct 72 = .ok (.getfield 63, 3) := by decide +kernel
theorem dX1_addAct_75 : decode cX1_addAct 75 = .ok (.iconst 1, 1) := by decide +kernel
theorem dX1_addAct_76 : decode cX1_addAct 76 = .ok (.isub, 1) := by decide +kernel
theorem dX1_addAct_77 : decode cX1_addAct 77 = .ok (.ireturn, 1) := by decide +kernel
theorem dX1_firstSince_0 : decode cX1_firstSince 0 = .ok (.aload_n 0, 1) := by decide +kernel
theorem dX1_firstSince_1 : decode cX1_firstSince 1 = .ok (.getfield 63, 3) := by decide +kernel
theorem dX1_firstSince_4 : decode cX1_firstSince 4 = .ok (.iload_n 1, 1) := by decide +kernel
theorem dX1_firstSince_5 : decode cX1_firstSince 5 = .ok (.if_icmp .le 7, 3) := by decide +kernel
theorem dX1_firstSince_8 : decode cX1_firstSince 8 = .ok (.iload_n 1, 1) := by decide +kernel
theorem dX1_firstSince_9 : decode cX1_firstSince 9 = .ok (.goto 4, 3) := by decide +kernel
theorem dX1_firstSince_12 : decode cX1_firstSince 12 = .ok (.iconst (-1), 1) := by decide +kernel
theorem dX1_firstSince_13 : decode cX1_firstSince 13 = .ok (.ireturn, 1) := by decide +kernel
theorem dX1_hasAct_0 : decode cX1_hasAct 0 = .ok (.iload_n 1, 1) := by decide +kernel
theorem dX1_hasAct_1 : decode cX1_hasAct 1 = .ok (.ifCond .lt 15, 3) := by decide +kernel
theorem dX1_hasAct_4 : decode cX1_hasAct 4 = .ok (.iload_n 1, 1) := by decide +kernel
theorem dX1_hasAct_5 : decode cX1_hasAct 5 = .ok (.aload_n 0, 1) := by decide +kernel
theorem dX1_hasAct_6 : decode cX1_hasAct 6 = .ok (.getfield 63, 3) := by decide +kernel
theorem dX1_hasAct_9 : decode cX1_hasAct 9 = .ok (.if_icmp .ge 7, 3) := by decide +kernel
theorem dX1_hasAct_12 : decode cX1_hasAct 12 = .ok (.iconst 1, 1) := by decide +kernel
theorem dX1_hasAct_13 : decode cX1_hasAct 13 = .ok (.goto 4, 3) := by decide +kernel
theorem dX1_hasAct_16 : decode cX1_hasAct 16 = .ok (.iconst 0, 1) := by decide +kernel
theorem dX1_hasAct_17 : decode cX1_hasAct 17 = .ok (.ireturn, 1) := by decide +kernel
theorem dX1_findWalker_0 : decode cX1_findWalker 0 = .ok (.iconst 0, 1) := by decide +kernel
theorem dX1_findWalker_1 : decode cX1_findWalker 1 = .ok (.istore_n 3, 1) := by decide +kernel
theorem dX1_findWalker_2 : decode cX1_findWalker 2 = .ok (.iload_n 3, 1) := by decide +kernel
theorem dX1_findWalker_3 : decode cX1_findWalker 3 = .ok (.aload_n 0, 1) := by decide +kernel
theorem dX1_findWalker_4 : decode cX1_findWalker 4 = .ok (.getfield 53, 3) := by decide +kernel
theorem dX1_findWalker_7 : decode cX1_findWalker 7 = .ok (.if_icmp .ge 22, 3) := by decide +kernel
theorem dX1_findWalker_10 : decode cX1_findWalker 10 = .ok (.aload_n 0, 1) := by decide +kernel
theorem dX1_findWalker_11 : decode cX1_findWalker 11 = .ok (.getfield 18, 3) := by decide +kernel
theorem dX1_findWalker_14 : decode cX1_findWalker 14 = .ok (.iload_n 3, 1) := by decide +kernel
theorem dX1_findWalker_15 : decode cX1_findWalker 15 = .ok (.laload, 1) := by decide +kernel
theorem dX1_findWalker_16 : decode cX1_findWalker 16 = .ok (.lload_n 1, 1) := by decide +kernel
theorem dX1_findWalker_17 : decode cX1_findWalker 17 = .ok (.lcmp, 1) := by decide +kernel
theorem dX1_findWalker_18 : decode cX1_findWalker 18 = .ok (.ifCond .ne 5, 3) := by decide +kernel
theorem dX1_findWalker_21 : decode cX1_findWalker 21 = .ok (.iload_n 3, 1) := by decide +kernel
theorem dX1_findWalker_22 : decode cX1_findWalker 22 = .ok (.ireturn, 1) := by decide +kernel
theorem dX1_findWalker_23 : decode cX1_findWalker 23 = .ok (.iinc 3 1, 3) := by decide +kernel
theorem dX1_findWalker_26 : decode cX1_findWalker 26 = .ok (.goto (-24), 3) := by decide +kernel
theorem dX1_findWalker_29 : decode cX1_findWalker 29 = .ok (.iconst (-1), 1) := by decide +kernel
theorem dX1_findWalker_30 : decode cX1_findWalker 30 = .ok (.ireturn, 1) := by decide +kernel
theorem dX1_findPlan_0 : decode cX1_findPlan 0 = .ok (.iconst 0, 1) := by decide +kernel
theorem dX1_findPlan_1 : decode cX1_findPlan 1 = .ok (.istore_n 3, 1) := by decide +kernel
theorem dX1_findPlan_2 : decode cX1_findPlan 2 = .ok (.iload_n 3, 1) := by decide +kernel
theorem dX1_findPlan_3 : decode cX1_findPlan 3 = .ok (.aload_n 0, 1) := by decide +kernel
theorem dX1_findPlan_4 : decode cX1_findPlan 4 = .ok (.getfield 60, 3) := by decide +kernel
theorem dX1_findPlan_7 : decode cX1_findPlan 7 = .ok (.if_icmp .ge 22, 3) := by decide +kernel
theorem dX1_findPlan_10 : decode cX1_findPlan 10 = .ok (.aload_n 0, 1) := by decide +kernel
theorem dX1_findPlan_11 : decode cX1_findPlan 11 = .ok (.getfield 32, 3) := by decide +kernel
theorem dX1_findPlan_14 : decode cX1_findPlan 14 = .ok (.iload_n 3, 1) := by decide +kernel
theorem dX1_findPlan_15 : decode cX1_findPlan 15 = .ok (.laload, 1) := by decide +kernel
theorem dX1_findPlan_16 : decode cX1_findPlan 16 = .ok (.lload_n 1, 1) := by decide +kernel
theorem dX1_findPlan_17 : decode cX1_findPlan 17 = .ok (.lcmp, 1) := by decide +kernel
theorem dX1_findPlan_18 : decode cX1_findPlan 18 = .ok (.ifCond .ne 5, 3) := by decide +kernel
theorem dX1_findPlan_21 : decode cX1_findPlan 21 = .ok (.iload_n 3, 1) := by decide +kernel
theorem dX1_findPlan_22 : decode cX1_findPlan 22 = .ok (.ireturn, 1) := by decide +kernel
theorem dX1_findPlan_23 : decode cX1_findPlan 23 = .ok (.iinc 3 1, 3) := by decide +kernel
theorem dX1_findPlan_26 : decode cX1_findPlan 26 = .ok (.goto (-24), 3) := by decide +kernel
theorem dX1_findPlan_29 : decode cX1_findPlan 29 = .ok (.iconst (-1), 1) := by decide +kernel
theorem dX1_findPlan_30 : decode cX1_findPlan 30 = .ok (.ireturn, 1) := by decide +kernel
theorem dX1_firstActOf_0 : decode cX1_firstActOf 0 = .ok (.iload_n 1, 1) := by decide +kernel
theorem dX1_firstActOf_1 : decode cX1_firstActOf 1 = .ok (.ifCond .lt 20, 3) := by decide +kernel
theorem dX1_firstActOf_4 : decode cX1_firstActOf 4 = .ok (.iload_n 1, 1) := by decide +kernel
theorem dX1_firstActOf_5 : decode cX1_firstActOf 5 = .ok (.aload_n 0, 1) := by decide +kernel
theorem dX1_firstActOf_6 : decode cX1_firstActOf 6 = .ok (.getfield 60, 3) := by decide +kernel
theorem dX1_firstActOf_9 : decode cX1_firstActOf 9 = .ok (.if_icmp .ge 12, 3) := by decide +kernel
theorem dX1_firstActOf_12 : decode cX1_firstActOf 12 = .ok (.aload_n 0, 1) := by decide +kernel
theorem dX1_firstActOf_13 : decode cX1_firstActOf 13 = .ok (.getfield 35, 3) := by decide +kernel
theorem dX1_firstActOf_16 : decode cX1_firstActOf 16 = .ok (.iload_n 1, 1) := by decide +kernel
theorem dX1_firstActOf_17 : decode cX1_firstActOf 17 = .ok (.iaload, 1) := by decide +kernel
theorem dX1_firstActOf_18 : decode cX1_firstActOf 18 = .ok (.goto 4, 3) := by decide +kernel
theorem dX1_firstActOf_21 : decode cX1_firstActOf 21 = .ok (.iconst (-1), 1) := by decide +kernel
theorem dX1_firstActOf_22 : decode cX1_firstActOf 22 = .ok (.ireturn, 1) := by decide +kernel
theorem dX1_actBehind_0 : decode cX1_actBehind 0 = .ok (.iload_n 1, 1) := by decide +kernel
theorem dX1_actBehind_1 : decode cX1_actBehind 1 = .ok (.istore_n 2, 1) := by decide +kernel
theorem dX1_actBehind_2 : decode cX1_actBehind 2 = .ok (.iconst 0, 1) := by decide +kernel
theorem dX1_actBehind_3 : decode cX1_actBehind 3 = .ok (.istore_n 3, 1) := by decide +kernel
theorem dX1_actBehind_4 : decode cX1_actBehind 4 = .ok (.iload_n 3, 1) := by decide +kernel
theorem dX1_actBehind_5 : decode cX1_actBehind 5 = .ok (.iconst 3, 1) := by decide +kernel
theorem dX1_actBehind_6 : decode cX1_actBehind 6 = .ok (.if_icmp .gt 70, 3) := by decide +kernel
theorem dX1_actBehind_9 : decode cX1_actBehind 9 = .ok (.aload_n 0, 1) := by decide +kernel
theorem dX1_actBehind_10 : decode cX1_actBehind 10 = .ok (.iload_n 2, 1) := by decide +kernel
theorem dX1_actBehind_11 : decode cX1_actBehind 11 = .ok (.invokevirtual 73, 3) := by decide +kernel
theorem dX1_actBehind_14 : decode cX1_actBehind 14 = .ok (.ifCond .eq 62, 3) := by decide +kernel
theorem dX1_actBehind_17 : decode cX1_actBehind 17 = .ok (.aload_n 0, 1) := by decide +kernel
theorem dX1_actBehind_18 : decode cX1_actBehind 18 = .ok (.getfield 44, 3) := by decide +kernel
theorem dX1_actBehind_21 : decode cX1_actBehind 21 = .ok (.iload_n 2, 1) := by decide +kernel
theorem dX1_actBehind_22 : decode cX1_actBehind 22 = .ok (.iaload, 1) := by decide +kernel
theorem dX1_actBehind_23 : decode cX1_actBehind 23 = .ok (.iconst (-1), 1) := by decide +kernel
theorem dX1_actBehind_24 : decode cX1_actBehind 24 = .ok (.if_icmp .eq 10, 3) := by decide +kernel
theorem dX1_actBehind_27 : decode cX1_actBehind 27 = .ok (.aload_n 0, 1) := by decide +kernel
theorem dX1_actBehind_28 : decode cX1_actBehind 28 = .ok (.getfield 44, 3) := by decide +kernel
theorem dX1_actBehind_31 : decode cX1_actBehind 31 = .ok (.iload_n 2, 1) := by decide +kernel
theorem dX1_actBehind_32 : decode cX1_actBehind 32 = .ok (.iaload, 1) := by decide +kernel
theorem dX1_actBehind_33 : decode cX1_actBehind 33 = .ok (.ireturn, 1) := by decide +kernel
theorem dX1_actBehind_34 : decode cX1_actBehind 34 = .ok (.aload_n 0, 1) := by decide +kernel
theorem dX1_actBehind_35 : decode cX1_actBehind 35 = .ok (.getfield 41, 3) := by decide +kernel
theorem dX1_actBehind_38 : decode cX1_actBehind 38 = .ok (.iload_n 2, 1) := by decide +kernel
theorem dX1_actBehind_39 : decode cX1_actBehind 39 = .ok (.iaload, 1) := by decide +kernel
theorem dX1_actBehind_40 : decode cX1_actBehind 40 = .ok (.istore_n 2, 1) := by decide +kernel
theorem dX1_actBehind_41 : decode cX1_actBehind 41 = .ok (.aload_n 0, 1) := by decide +kernel
theorem dX1_actBehind_42 : decode cX1_actBehind 42 = .ok (.iload_n 2, 1) := by decide +kernel
theorem dX1_actBehind_43 : decode cX1_actBehind 43 = .ok (.invokevirtual 73, 3) := by decide +kernel
theorem dX1_actBehind_46 : decode cX1_actBehind 46 = .ok (.ifCond .eq 24, 3) := by decide +kernel
theorem dX1_actBehind_49 : decode cX1_actBehind 49 = .ok (.aload_n 0, 1) := by decide +kernel
theorem dX1_actBehind_50 : decode cX1_actBehind 50 = .ok (.getfield 12, 3) := by decide +kernel
theorem dX1_actBehind_53 : decode cX1_actBehind 53 = .ok (.aload_n 0, 1) := by decide +kernel
theorem dX1_actBehind_54 : decode cX1_actBehind 54 = .ok (.getfield 38, 3) := by decide +kernel
theorem dX1_actBehind_57 : decode cX1_actBehind 57 = .ok (.iload_n 2, 1) := by decide +kernel
theorem dX1_actBehind_58 : decode cX1_actBehind 58 = .ok (.iaload, 1) := by decide +kernel
theorem dX1_actBehind_59 : decode cX1_actBehind 59 = .ok (.invokevirtual 77, 3) := by decide +kernel
theorem dX1_actBehind_62 : decode cX1_actBehind 62 = .ok (.getstatic 81, 3) := by decide +kernel
theorem dX1_actBehind_65 : decode cX1_actBehind 65 = .ok (.if_acmp .ne 5, 3) := by decide +kernel
theorem dX1_actBehind_68 : decode cX1_actBehind 68 = .ok (.iload_n 2, 1) := by decide +kernel
theorem dX1_actBehind_69 : decode cX1_actBehind 69 = .ok (.ireturn, 1) := by decide +kernel
theorem dX1_actBehind_70 : decode cX1_actBehind 70 = .ok (.iinc 3 1, 3) := by decide +kernel
theorem dX1_actBehind_73 : decode cX1_actBehind 73 = .ok (.goto (-69), 3) := by decide +kernel
theorem dX1_actBehind_76 : decode cX1_actBehind 76 = .ok (.iconst (-1), 1) := by decide +kernel
theorem dX1_actBehind_77 : decode cX1_actBehind 77 = .ok (.ireturn, 1) := by decide +kernel
theorem dX2_init_0 : decode cX2_init 0 = .ok (.aload_n 0, 1) := by decide +kernel
theorem dX2_init_1 : decode cX2_init 1 = .ok (.invokespecial 3, 3) := by decide +kernel
theorem dX2_init_4 : decode cX2_init 4 = .ok (.aload_n 0, 1) := by decide +kernel
theorem dX2_init_5 : decode cX2_init 5 = .ok (.bipush 8, 2) := by decide +kernel
theorem dX2_init_7 : decode cX2_init 7 = .ok (.newarray .int, 2) := by decide +kernel
theorem dX2_init_9 : decode cX2_init 9 = .ok (.putfield 9, 3) := by decide +kernel
theorem dX2_init_12 : decode cX2_init 12 = .ok (.aload_n 0, 1) := by decide +kernel
theorem dX2_init_13 : decode cX2_init 13 = .ok (.bipush 8, 2) := by decide +kernel
theorem dX2_init_15 : decode cX2_init 15 = .ok (.newarray .int, 2) := by decide +kernel
theorem dX2_init_17 : decode cX2_init 17 = .ok (.putfield 15, 3) := by decide +kernel
theorem dX2_init_20 : decode cX2_init 20 = .ok (.aload_n 0, 1) := by decide +kernel
theorem dX2_init_21 : decode cX2_init 21 = .ok (.bipush 12, 2) := by decide +kernel
theorem dX2_init_23 : decode cX2_init 23 = .ok (.newarray .int, 2) := by decide +kernel
theorem dX2_init_25 : decode cX2_init 25 = .ok (.putfield 18, 3) := by decide +kernel
theorem dX2_init_28 : decode cX2_init 28 = .ok (.aload_n 0, 1) := by decide +kernel
theorem dX2_init_29 : decode cX2_init 29 = .ok (.bipush 12, 2) := by decide +kernel
theorem dX2_init_31 : decode cX2_init 31 = .ok (.newarray .boolean, 2) := by decide +kernel
theorem dX2_init_33 : decode cX2_init 33 = .ok (.putfield 21, 3) := by decide +kernel
theorem dX2_init_36 : decode cX2_init 36 = .ok (.aload_n 0, 1) := by decide +kernel
theorem dX2_init_37 : decode cX2_init 37 = .ok (.bipush 10, 2) := by decide +kernel
theorem dX2_init_39 : decode cX2_init 39 = .ok (.newarray .int, 2) := by decide +kernel
theorem dX2_init_41 : decode cX2_init 41 = .ok (.putfield 25, 3) := by decide +kernel
theorem dX2_init_44 : decode cX2_init 44 = .ok (.return_, 1) := by decide +kernel
theorem dX2_begin_0 : decode cX2_begin 0 = .ok (.aload_n 0, 1) := by decide +kernel
theorem dX2_begin_1 : decode cX2_begin 1 = .ok (.aload_n 1, 1) := by decide +kernel
theorem dX2_begin_2 : decode cX2_begin 2 = .ok (.getfield 28, 3) := by decide +kernel
theorem dX2_begin_5 : decode cX2_begin 5 = .ok (.putfield 34, 3) := by decide +kernel
theorem dX2_begin_8 : decode cX2_begin 8 = .ok (.aload_n 1, 1) := by decide +kernel
theorem dX2_begin_9 : decode cX2_begin 9 = .ok (.getfield 35, 3) := by decide +kernel
theorem dX2_begin_12 : decode cX2_begin 12 = .ok (.iconst 0, 1) := by decide +kernel
theorem dX2_begin_13 : decode cX2_begin 13 = .ok (.aload_n 0, 1) := by decide +kernel
theorem dX2_begin_14 : decode cX2_begin 14 = .ok (.getfield 9, 3) := by decide +kernel
theorem dX2_begin_17 : decode cX2_begin 17 = .ok (.iconst 0, 1) := by decide +kernel
theorem dX2_begin_18 : decode cX2_begin 18 = .ok (.bipush 8, 2) := by decide +kernel
theorem dX2_begin_20 : decode cX2_begin 20 = .ok (.invokestatic 36, 3) := by decide +kernel
theorem dX2_begin_23 : decode cX2_begin 23 = .ok (.aload_n 1, 1) := by decide +kernel
theorem dX2_begin_24 : decode cX2_begin 24 = .ok (.getfield 42, 3) := by decide +kernel
theorem dX2_begin_27 : decode cX2_begin 27 = .ok (.iconst 0, 1) := by decide +kernel
theorem dX2_begin_28 : decode cX2_begin 28 = .ok (.aload_n 0, 1) := by decide +kernel
theorem dX2_begin_29 : decode cX2_begin 29 = .ok (.getfield 15, 3) := by decide +kernel
theorem dX2_begin_32 : decode cX2_begin 32 = .ok (.iconst 0, 1) := by decide +kernel
theorem dX2_begin_33 : decode cX2_begin 33 = .ok (.bipush 8, 2) := by decide +kernel
theorem dX2_begin_35 : decode cX2_begin 35 = .ok (.invokestatic 36, 3) := by decide +kernel
theorem dX2_begin_38 : decode cX2_begin 38 = .ok (.aload_n 0, 1) := by decide +kernel
theorem dX2_begin_39 : decode cX2_begin 39 = .ok (.iconst 1, 1) := by decide +kernel
theorem dX2_begin_40 : decode cX2_begin 40 = .ok (.aload_n 0, 1) := by decide +kernel
theorem dX2_begin_41 : decode cX2_begin 41 = .ok (.getfield 34, 3) := by decide +kernel
theorem dX2_begin_44 : decode cX2_begin 44 = .ok (.ishl, 1) := by decide +kernel
theorem dX2_begin_45 : decode cX2_begin 45 = .ok (.iconst 1, 1) := by decide +kernel
theorem dX2_begin_46 : decode cX2_begin 46 = .ok (.isub, 1) := by decide +kernel
theorem dX2_begin_47 : decode cX2_begin 47 = .ok (.putfield 43, 3) := by decide +kernel
theorem dX2_begin_50 : decode cX2_begin 50 = .ok (.aload_n 0, 1) := by decide +kernel
theorem dX2_begin_51 : decode cX2_begin 51 = .ok (.aload_n 1, 1) := by decide +kernel
theorem dX2_begin_52 : decode cX2_begin 52 = .ok (.getfield 46, 3) := by decide +kernel
theorem dX2_begin_55 : decode cX2_begin 55 = .ok (.putfield 49, 3) := by decide +kernel
theorem dX2_begin_58 : decode cX2_begin 58 = .ok (.aload_n 1, 1) := by decide +kernel
theorem dX2_begin_59 : decode cX2_begin 59 = .ok (.getfield 50, 3) := by decide +kernel
theorem dX2_begin_62 : decode cX2_begin 62 = .ok (.iconst 0, 1) := by decide +kernel
theorem dX2_begin_63 : decode cX2_begin 63 = .ok (.aload_n 0, 1) := by decide +kernel
theorem dX2_begin_64 : decode cX2_begin 64 = .ok (.getfield 18, 3) := by decide +kernel
theorem dX2_begin_67 : decode cX2_begin 67 = .ok (.iconst 0, 1) := by decide +kernel
theorem dX2_begin_68 : decode cX2_begin 68 = .ok (.bipush 12, 2) := by decide +kernel
theorem dX2_begin_70 : decode cX2_begin 70 = .ok (.invokestatic 36, 3) := by decide +kernel
theorem dX2_begin_73 : decode cX2_begin 73 = .ok (.iconst 0, 1) := by decide +kernel
theorem dX2_begin_74 : decode cX2_begin 74 = .ok (.istore_n 2, 1) := by decide +kernel
theorem dX2_begin_75 : decode cX2_begin 75 = .ok (.iload_n 2, 1) := by decide +kernel
theorem dX2_begin_76 : decode cX2_begin 76 = .ok (.bipush 12, 2) := by decide +kernel
theorem dX2_begin_78 : decode cX2_begin 78 = .ok (.if_icmp .ge 16, 3) := by decide +kernel
theorem dX2_begin_81 : decode cX2_begin 81 = .ok (.aload_n 0, 1) := by decide +kernel
theorem dX2_begin_82 : decode cX2_begin 82 = .ok (.getfield 21, 3) := by decide +kernel
theorem dX2_begin_85 : decode cX2_begin 85 = .ok (.iload_n 2, 1) := by decide +kernel
theorem dX2_begin_86 : decode cX2_begin 86 = .ok (.iconst 0, 1) := by decide +kernel
theorem dX2_begin_87 : decode cX2_begin 87 = .ok (.bastore, 1) := by decide +kernel
theorem dX2_begin_88 : decode cX2_begin 88 = .ok (.iinc 2 1, 3) := by decide +kernel
theorem dX2_begin_91 : decode cX2_begin 91 = .ok (.goto (-16), 3) := by decide +kernel
theorem dX2_begin_94 : decode cX2_begin 94 = .ok (.aload_n 0, 1) := by decide +kernel
theorem dX2_begin_95 : decode cX2_begin 95 = .ok (.iconst 1, 1) := by decide +kernel
theorem dX2_begin_96 : decode cX2_begin 96 = .ok (.putfield 51, 3) := by decide +kernel
theorem dX2_begin_99 : decode cX2_begin 99 = .ok (.aload_n 0, 1) := by decide +kernel
theorem dX2_begin_100 : decode cX2_begin 100 = .ok (.bipush 60, 2) := by decide +kernel
theorem dX2_begin_102 : decode cX2_begin 102 = .ok (.putfield 55, 3) := by decide +kernel
theorem dX2_begin_105 : decode cX2_begin 105 = .ok (.aload_n 0, 1) := by decide +kernel
theorem dX2_begin_106 : decode cX2_begin 106 = .ok (.iconst 0, 1) := by decide +kernel
theorem dX2_begin_107 : decode cX2_begin 107 = .ok (.putfield 58, 3) := by decide +kernel
theorem dX2_begin_110 : decode cX2_begin 110 = .ok (.aload_n 0, 1) := by decide +kernel
theorem dX2_begin_111 : decode cX2_begin 111 = .ok (.iconst 0, 1) := by decide +kernel
theorem dX2_begin_112 : decode cX2_begin 112 = .ok (.putfield 61, 3) := by decide +kernel
theorem dX2_begin_115 : decode cX2_begin 115 = .ok (.aload_n 0, 1) := by decide +kernel
theorem dX2_begin_116 : decode cX2_begin 116 = .ok (.iconst 0, 1) := by decide +kernel
theorem dX2_begin_117 : decode cX2_begin 117 = .ok (.putfield 64, 3) := by decide +kernel
theorem dX2_begin_120 : decode cX2_begin 120 = .ok (.aload_n 0, 1) := by decide +kernel
theorem dX2_begin_121 : decode cX2_begin 121 = .ok (.iconst 0, 1) := by decide +kernel
theorem dX2_begin_122 : decode cX2_begin 122 = .ok (.putfield 67, 3) := by decide +kernel
theorem dX2_begin_125 : decode cX2_begin 125 = .ok (.aload_n 0, 1) := by decide +kernel
theorem dX2_begin_126 : decode cX2_begin 126 = .ok (.iconst 0, 1) := by decide +kernel
theorem dX2_begin_127 : decode cX2_begin 127 = .ok (.putfield 70, 3) := by decide +kernel
theorem dX2_begin_130 : decode cX2_begin 130 = .ok (.return_, 1) := by decide +kernel
theorem dX2_copyFrom_0 : decode cX2_copyFrom 0 = .ok (.aload_n 0, 1) := by decide +kernel
theorem dX2_copyFrom_1 : decode cX2_copyFrom 1 = .ok (.aload_n 1, 1) := by decide +kernel
theorem dX2_copyFrom_2 : decode cX2_copyFrom 2 = .ok (.getfield 34, 3) := by decide +kernel
theorem dX2_copyFrom_5 : decode cX2_copyFrom 5 = .ok (.putfield 34, 3) := by decide +kernel
theorem dX2_copyFrom_8 : decode cX2_copyFrom 8 = .ok (.aload_n 1, 1) := by decide +kernel
theorem dX2_copyFrom_9 : decode cX2_copyFrom 9 = .ok (.getfield 9, 3) := by decide +kernel
theorem dX2_copyFrom_12 : decode cX2_copyFrom 12 = .ok (.iconst 0, 1) := by decide +kernel
theorem dX2_copyFrom_13 : decode cX2_copyFrom 13 = .ok (.aload_n 0, 1) := by decide +kernel
theorem dX2_copyFrom_14 : decode cX2_copyFrom 14 = .ok (.getfield 9, 3) := by decide +kernel
theorem dX2_copyFrom_17 : decode cX2_copyFrom 17 = .ok (.iconst 0, 1) := by decide +kernel
theorem dX2_copyFrom_18 : decode cX2_copyFrom 18 = .ok (.bipush 8, 2) := by decide +kernel
theorem dX2_copyFrom_20 : decode cX2_copyFrom 20 = .ok (.invokestatic 36, 3) := by decide +kernel
theorem dX2_copyFrom_23 : decode cX2_copyFrom 23 = .ok (.aload_n 1, 1) := by decide +kernel
theorem dX2_copyFrom_24 : decode cX2_copyFrom 24 = .ok (.getfield 15, 3) := by decide +kernel
theorem dX2_copyFrom_27 : decode cX2_copyFrom 27 = .ok (.iconst 0, 1) := by decide +kernel
theorem dX2_copyFrom_28 : decode cX2_copyFrom 28 = .ok (.aload_n 0, 1) := by decide +kernel
theorem dX2_copyFrom_29 : decode cX2_copyFrom 29 = .ok (.getfield 15, 3) := by decide +kernel
theorem dX2_copyFrom_32 : decode cX2_copyFrom 32 = .ok (.iconst 0, 1) := by decide +kernel
theorem dX2_copyFrom_33 : decode cX2_copyFrom 33 = .ok (.bipush 8, 2) := by decide +kernel
theorem dX2_copyFrom_35 : decode cX2_copyFrom 35 = .ok (.invokestatic 36, 3) := by decide +kernel
theorem dX2_copyFrom_38 : decode cX2_copyFrom 38 = .ok (.aload_n 0, 1) := by decide +kernel
theorem dX2_copyFrom_39 : decode cX2_copyFrom 39 = .ok (.aload_n 1, 1) := by decide +kernel
theorem dX2_copyFrom_40 : decode cX2_copyFrom 40 = .ok (.getfield 43, 3) := by decide +kernel
theorem dX2_copyFrom_43 : decode cX2_copyFrom 43 = .ok (.putfield 43, 3) := by decide +kernel
theorem dX2_copyFrom_46 : decode cX2_copyFrom 46 = .ok (.aload_n 0, 1) := by decide +kernel
theorem dX2_copyFrom_47 : decode cX2_copyFrom 47 = .ok (.aload_n 1, 1) := by decide +kernel
theorem dX2_copyFrom_48 : decode cX2_copyFrom 48 = .ok (.getfield 49, 3) := by decide +kernel
theorem dX2_copyFrom_51 : decode cX2_copyFrom 51 = .ok (.putfield 49, 3) := by decide +kernel
theorem dX2_copyFrom_54 : decode cX2_copyFrom 54 = .ok (.aload_n 1, 1) := by decide +kernel
theorem dX2_copyFrom_55 : decode cX2_copyFrom 55 = .ok (.getfield 18, 3) := by decide +kernel
theorem dX2_copyFrom_58 : decode cX2_copyFrom 58 = .ok (.iconst 0, 1) := by decide +kernel
theorem dX2_copyFrom_59 : decode cX2_copyFrom 59 = .ok (.aload_n 0, 1) := by decide +kernel
theorem dX2_copyFrom_60 : decode cX2_copyFrom 60 = .ok (.getfield 18, 3) := by decide +kernel
theorem dX2_copyFrom_63 : decode cX2_copyFrom 63 = .ok (.iconst 0, 1) := by decide +kernel
theorem dX2_copyFrom_64 : decode cX2_copyFrom 64 = .ok (.bipush 12, 2) := by decide +kernel
theorem dX2_copyFrom_66 : decode cX2_copyFrom 66 = .ok (.invokestatic 36, 3) := by decide +kernel
theorem dX2_copyFrom_69 : decode cX2_copyFrom 69 = .ok (.iconst 0, 1) := by decide +kernel
theorem dX2_copyFrom_70 : decode cX2_copyFrom 70 = .ok (.istore_n 2, 1) := by decide +kernel
theorem dX2_copyFrom_71 : decode cX2_copyFrom 71 = .ok (.iload_n 2, 1) := by decide +kernel
theorem dX2_copyFrom_72 : decode cX2_copyFrom 72 = .ok (.bipush 12, 2) := by decide +kernel
theorem dX2_copyFrom_74 : decode cX2_copyFrom 74 = .ok (.if_icmp .ge 21, 3) := by decide +kernel
theorem dX2_copyFrom_77 : decode cX2_copyFrom 77 = .ok (.aload_n 0, 1) := by decide +kernel
theorem dX2_copyFrom_78 : decode cX2_copyFrom 78 = .ok (.getfield 21, 3) := by decide +kernel
theorem dX2_copyFrom_81 : decode cX2_copyFrom 81 = .ok (.iload_n 2, 1) := by decide +kernel
theorem dX2_copyFrom_82 : decode cX2_copyFrom 82 = .ok (.aload_n 1, 1) := by decide +kernel
theorem dX2_copyFrom_83 : decode cX2_copyFrom 83 = .ok (.getfield 21, 3) := by decide +kernel
theorem dX2_copyFrom_86 : decode cX2_copyFrom 86 = .ok (.iload_n 2, 1) := by decide +kernel
theorem dX2_copyFrom_87 : decode cX2_copyFrom 87 = .ok (.baload, 1) := by decide +kernel
theorem dX2_copyFrom_88 : decode cX2_copyFrom 88 = .ok (.bastore, 1) := by decide +kernel
theorem dX2_copyFrom_89 : decode cX2_copyFrom 89 = .ok (.iinc 2 1, 3) := by decide +kernel
theorem dX2_copyFrom_92 : decode cX2_copyFrom 92 = .ok (.goto (-21), 3) := by decide +kernel
theorem dX2_copyFrom_95 : decode cX2_copyFrom 95 = .ok (.aload_n 0, 1) := by decide +kernel
theorem dX2_copyFrom_96 : decode cX2_copyFrom 96 = .ok (.aload_n 1, 1) := by decide +kernel
theorem dX2_copyFrom_97 : decode cX2_copyFrom 97 = .ok (.getfield 51, 3) := by decide +kernel
theorem dX2_copyFrom_100 : decode cX2_copyFrom 100 = .ok (.putfield 51, 3) := by decide +kernel
theorem dX2_copyFrom_103 : decode cX2_copyFrom 103 = .ok (.aload_n 0, 1) := by decide +kernel
theorem dX2_copyFrom_104 : decode cX2_copyFrom 104 = .ok (.aload_n 1, 1) := by decide +kernel
theorem dX2_copyFrom_105 : decode cX2_copyFrom 105 = .ok (.getfield 55, 3) := by decide +kernel
theorem dX2_copyFrom_108 : decode cX2_copyFrom 108 = .ok (.putfield 55, 3) := by decide +kernel
theorem dX2_copyFrom_111 : decode cX2_copyFrom 111 = .ok (.aload_n 0, 1) := by decide +kernel
theorem dX2_copyFrom_112 : decode cX2_copyFrom 112 = .ok (.aload_n 1, 1) := by decide +kernel
theorem dX2_copyFrom_113 : decode cX2_copyFrom 113 = .ok (.getfield 58, 3) := by decide +kernel
theorem dX2_copyFrom_116 : decode cX2_copyFrom 116 = .ok (.putfield 58, 3) := by decide +kernel
theorem dX2_copyFrom_119 : decode cX2_copyFrom 119 = .ok (.aload_n 0, 1) := by decide +kernel
theorem dX2_copyFrom_120 : decode cX2_copyFrom 120 = .ok (.aload_n 1, 1) := by decide +kernel
theorem dX2_copyFrom_121 : decode cX2_copyFrom 121 = .ok (.getfield 61, 3) := by decide +kernel
theorem dX2_copyFrom_124 : decode cX2_copyFrom 124 = .ok (.putfield 61, 3) := by decide +kernel
theorem dX2_copyFrom_127 : decode cX2_copyFrom 127 = .ok (.aload_n 0, 1) := by decide +kernel
theorem dX2_copyFrom_128 : decode cX2_copyFrom 128 = .ok (.aload_n 1, 1) := by decide +kernel
theorem dX2_copyFrom_129 : decode cX2_copyFrom 129 = .ok (.getfield 64, 3) := by decide +kernel
theorem dX2_copyFrom_132 : decode cX2_copyFrom 132 = .ok (.putfield 64, 3) := by decide +kernel
theorem dX2_copyFrom_135 : decode cX2_copyFrom 135 = .ok (.aload_n 0, 1) := by decide +kernel
theorem dX2_copyFrom_136 : decode cX2_copyFrom 136 = .ok (.aload_n 1, 1) := by decide +kernel
theorem dX2_copyFrom_137 : decode cX2_copyFrom 137 = .ok (.getfield 67, 3) := by decide +kernel
theorem dX2_copyFrom_140 : decode cX2_copyFrom 140 = .ok (.putfield 67, 3) := by decide +kernel
theorem dX2_copyFrom_143 : decode cX2_copyFrom 143 = .ok (.aload_n 0, 1) := by decide +kernel
theorem dX2_copyFrom_144 : decode cX2_copyFrom 144 = .ok (.aload_n 1, 1) := by decide +kernel
theorem dX2_copyFrom_145 : decode cX2_copyFrom 145 = .ok (.getfield 70, 3) := by decide +kernel
theorem dX2_copyFrom_148 : decode cX2_copyFrom 148 = .ok (.putfield 70, 3) := by decide +kernel
theorem dX2_copyFrom_151 : decode cX2_copyFrom 151 = .ok (.aload_n 1, 1) := by decide +kernel
theorem dX2_copyFrom_152 : decode cX2_copyFrom 152 = .ok (.getfield 25, 3) := by decide +kernel
theorem dX2_copyFrom_155 : decode cX2_copyFrom 155 = .ok (.iconst 0, 1) := by decide +kernel
theorem dX2_copyFrom_156 : decode cX2_copyFrom 156 = .ok (.aload_n 0, 1) := by decide +kernel
theorem dX2_copyFrom_157 : decode cX2_copyFrom 157 = .ok (.getfield 25, 3) := by decide +kernel
theorem dX2_copyFrom_160 : decode cX2_copyFrom 160 = .ok (.iconst 0, 1) := by decide +kernel
theorem dX2_copyFrom_161 : decode cX2_copyFrom 161 = .ok (.bipush 10, 2) := by decide +kernel
theorem dX2_copyFrom_163 : decode cX2_copyFrom 163 = .ok (.invokestatic 36, 3) := by decide +kernel
theorem dX2_copyFrom_166 : decode cX2_copyFrom 166 = .ok (.return_, 1) := by decide +kernel
theorem dX2_hasWalker_0 : decode cX2_hasWalker 0 = .ok (.iload_n 1, 1) := by decide +kernel
theorem dX2_hasWalker_1 : decode cX2_hasWalker 1 = .ok (.ifCond .lt 15, 3) := by decide +kernel
theorem dX2_hasWalker_4 : decode cX2_hasWalker 4 = .ok (.iload_n 1, 1) := by decide +kernel
theorem dX2_hasWalker_5 : decode cX2_hasWalker 5 = .ok (.aload_n 0, 1) := by decide +kernel
theorem dX2_hasWalker_6 : decode cX2_hasWalker 6 = .ok (.getfield 34, 3) := by decide +kernel
theorem dX2_hasWalker_9 : decode cX2_hasWalker 9 = .ok (.if_icmp .ge 7, 3) := by decide +kernel
theorem dX2_hasWalker_12 : decode cX2_hasWalker 12 = .ok (.iconst 1, 1) := by decide +kernel
theorem dX2_hasWalker_13 : decode cX2_hasWalker 13 = .ok (.goto 4, 3) := by decide +kernel
theorem dX2_hasWalker_16 : decode cX2_hasWalker 16 = .ok (.iconst 0, 1) := by decide +kernel
theorem dX2_hasWalker_17 : decode cX2_hasWalker 17 = .ok (.ireturn, 1) := by decide +kernel
theorem dX2_standsNear_0 : decode cX2_standsNear 0 = .ok (.aload_n 0, 1) := by decide +kernel
theorem dX2_standsNear_1 : decode cX2_standsNear 1 = .ok (.getfield 43, 3) := by decide +kernel
theorem dX2_standsNear_4 : decode cX2_standsNear 4 = .ok (.iload_n 1, 1) := by decide +kernel
theorem dX2_standsNear_5 : decode cX2_standsNear 5 = .ok (.iushr, 1) := by decide +kernel
theorem dX2_standsNear_6 : decode cX2_standsNear 6 = .ok (.iconst 1, 1) := by decide +kernel
theorem dX2_standsNear_7 : decode cX2_standsNear 7 = .ok (.iand, 1) := by decide +kernel
theorem dX2_standsNear_8 : decode cX2_standsNear 8 = .ok (.iconst 1, 1) := by decide +kernel
theorem dX2_standsNear_9 : decode cX2_standsNear 9 = .ok (.if_icmp .ne 7, 3) := by decide +kernel
theorem dX2_standsNear_12 : decode cX2_standsNear 12 = .ok (.iconst 1, 1) := by decide +kernel
theorem dX2_standsNear_13 : decode cX2_standsNear 13 = .ok (.goto 4, 3) := by decide +kernel
theorem dX2_standsNear_16 : decode cX2_standsNear 16 = .ok (.iconst 0, 1) := by decide +kernel
theorem dX2_standsNear_17 : decode cX2_standsNear 17 = .ok (.ireturn, 1) := by decide +kernel
theorem dX2_countNear_0 : decode cX2_countNear 0 = .ok (.aload_n 0, 1) := by decide +kernel
theorem dX2_countNear_1 : decode cX2_countNear 1 = .ok (.getfield 43, 3) := by decide +kernel
theorem dX2_countNear_4 : decode cX2_countNear 4 = .ok (.invokestatic 73, 3) := by decide +kernel
theorem dX2_countNear_7 : decode cX2_countNear 7 = .ok (.ireturn, 1) := by decide +kernel
theorem dX2_countFar_0 : decode cX2_countFar 0 = .ok (.aload_n 0, 1) := by decide +kernel
theorem dX2_countFar_1 : decode cX2_countFar 1 = .ok (.getfield 34, 3) := by decide +kernel
theorem dX2_countFar_4 : decode cX2_countFar 4 = .ok (.aload_n 0, 1) := by decide +kernel
theorem dX2_countFar_5 : decode cX2_countFar 5 = .ok (.getfield 43, 3) := by decide +kernel
theorem dX2_countFar_8 : decode cX2_countFar 8 = .ok (.invokestatic 73, 3) := by decide +kernel
theorem dX2_countFar_11 : decode cX2_countFar 11 = .ok (.isub, 1) := by decide +kernel
theorem dX2_countFar_12 : decode cX2_countFar 12 = .ok (.ireturn, 1) := by decide +kernel
theorem dX2_nightIsWeak_0 : decode cX2_nightIsWeak 0 = .ok (.aload_n 0, 1) := by decide +kernel
theorem dX2_nightIsWeak_1 : decode cX2_nightIsWeak 1 = .ok (.getfield 58, 3) := by decide +kernel
theorem dX2_nightIsWeak_4 : decode cX2_nightIsWeak 4 = .ok (.iconst 3, 1) := by decide +kernel
theorem dX2_nightIsWeak_5 : decode cX2_nightIsWeak 5 = .ok (.irem, 1) := by decide +kernel
theorem dX2_nightIsWeak_6 : decode cX2_nightIsWeak 6 = .ok (.iconst 2, 1) := by decide +kernel
theorem dX2_nightIsWeak_7 : decode cX2_nightIsWeak 7 = .ok (.if_icmp .ne 7, 3) := by decide +kernel
theorem dX2_nightIsWeak_10 : decode cX2_nightIsWeak 10 = .ok (.iconst 1, 1) := by decide +kernel
theorem dX2_nightIsWeak_11 : decode cX2_nightIsWeak 11 = .ok (.goto 4, 3) := by decide +kernel
theorem dX2_nightIsWeak_14 : decode cX2_nightIsWeak 14 = .ok (.iconst 0, 1) := by decide +kernel
theorem dX2_nightIsWeak_15 : decode cX2_nightIsWeak 15 = .ok (.ireturn, 1) := by decide +kernel
theorem dX2_minutesInAll_0 : decode cX2_minutesInAll 0 = .ok (.aload_n 0, 1) := by decide +kernel
theorem dX2_minutesInAll_1 : decode cX2_minutesInAll 1 = .ok (.getfield 58, 3) := by decide +kernel
theorem dX2_minutesInAll_4 : decode cX2_minutesInAll 4 = .ok (.bipush 120, 2) := by decide +kernel
theorem dX2_minutesInAll_6 : decode cX2_minutesInAll 6 = .ok (.imul, 1) := by decide +kernel
theorem dX2_minutesInAll_7 : decode cX2_minutesInAll 7 = .ok (.aload_n 0, 1) := by decide +kernel
theorem dX2_minutesInAll_8 : decode cX2_minutesInAll 8 = .ok (.getfield 61, 3) := by decide +kernel
theorem dX2_minutesInAll_11 : decode cX2_minutesInAll 11 = .ok (.iadd, 1) := by decide +kernel
theorem dX2_minutesInAll_12 : decode cX2_minutesInAll 12 = .ok (.ireturn, 1) := by decide +kernel
theorem dX2_loadOf_0 : decode cX2_loadOf 0 = .ok (.iload_n 1, 1) := by decide +kernel
theorem dX2_loadOf_1 : decode cX2_loadOf 1 = .ok (.ifCond .lt 11, 3) := by decide +kernel
theorem dX2_loadOf_4 : decode cX2_loadOf 4 = .ok (.iload_n 1, 1) := by decide +kernel
theorem dX2_loadOf_5 : decode cX2_loadOf 5 = .ok (.aload_n 0, 1) := by decide +kernel
theorem dX2_loadOf_6 : decode cX2_loadOf 6 = .ok (.getfield 49, 3) := by decide +kernel
theorem dX2_loadOf_9 : decode cX2_loadOf 9 = .ok (.if_icmp .lt 5, 3) := by decide +kernel
theorem dX2_loadOf_12 : decode cX2_loadOf 12 = .ok (.iconst 0, 1) := by decide +kernel
theorem dX2_loadOf_13 : decode cX2_loadOf 13 = .ok (.ireturn, 1) := by decide +kernel
theorem dX2_loadOf_14 : decode cX2_loadOf 14 = .ok (.aload_n 0, 1) := by decide +kernel
theorem dX2_loadOf_15 : decode cX2_loadOf 15 = .ok (.invokevirtual 79, 3) := by decide +kernel
theorem dX2_loadOf_18 : decode cX2_loadOf 18 = .ok (.ifCond .eq 14, 3) := by decide +kernel
theorem dX2_loadOf_21 : decode cX2_loadOf 21 = .ok (.aload_n 0, 1) := by decide +kernel
theorem dX2_loadOf_22 : decode cX2_loadOf 22 = .ok (.getfield 18, 3) := by decide +kernel
theorem dX2_loadOf_25 : decode cX2_loadOf 25 = .ok (.iload_n 1, 1) := by decide +kernel
theorem dX2_loadOf_26 : decode cX2_loadOf 26 = .ok (.iaload, 1) := by decide +kernel
theorem dX2_loadOf_27 : decode cX2_loadOf 27 = .ok (.iconst 3, 1) := by decide +kernel
theorem dX2_loadOf_28 : decode cX2_loadOf 28 = .ok (.isub, 1) := by decide +kernel
theorem dX2_loadOf_29 : decode cX2_loadOf 29 = .ok (.goto 9, 3) := by decide +kernel
theorem dX2_loadOf_32 : decode cX2_loadOf 32 = .ok (.aload_n 0, 1) := by decide +kernel
theorem dX2_loadOf_33 : decode cX2_loadOf 33 = .ok (.getfield 18, 3) := by decide +kernel
theorem dX2_loadOf_36 : decode cX2_loadOf 36 = .ok (.iload_n 1, 1) := by decide +kernel
theorem dX2_loadOf_37 : decode cX2_loadOf 37 = .ok (.iaload, 1) := by decide +kernel
theorem dX2_loadOf_38 : decode cX2_loadOf 38 = .ok (.istore_n 2, 1) := by decide +kernel
theorem dX2_loadOf_39 : decode cX2_loadOf 39 = .ok (.iload_n 2, 1) := by decide +kernel
theorem dX2_loadOf_40 : decode cX2_loadOf 40 = .ok (.ifCond .le 7, 3) := by decide +kernel
theorem dX2_loadOf_43 : decode cX2_loadOf 43 = .ok (.iload_n 2, 1) := by decide +kernel
theorem dX2_loadOf_44 : decode cX2_loadOf 44 = .ok (.goto 4, 3) := by decide +kernel
theorem dX2_loadOf_47 : decode cX2_loadOf 47 = .ok (.iconst 0, 1) := by decide +kernel
theorem dX2_loadOf_48 : decode cX2_loadOf 48 = .ok (.ireturn, 1) := by decide +kernel
theorem dX2_countMissing_0 : decode cX2_countMissing 0 = .ok (.iconst 0, 1) := by decide +kernel
theorem dX2_countMissing_1 : decode cX2_countMissing 1 = .ok (.istore_n 1, 1) := by decide +kernel
theorem dX2_countMissing_2 : decode cX2_countMissing 2 = .ok (.iconst 0, 1) := by decide +kernel
theorem dX2_countMissing_3 : decode cX2_countMissing 3 = .ok (.istore_n 2, 1) := by decide +kernel
theorem dX2_countMissing_4 : decode cX2_countMissing 4 = .ok (.iload_n 2, 1) := by decide +kernel
theorem dX2_countMissing_5 : decode cX2_countMissing 5 = .ok (.aload_n 0, 1) := by decide +kernel
theorem dX2_countMissing_6 : decode cX2_countMissing 6 = .ok (.getfield 49, 3) := by decide +kernel
theorem dX2_countMissing_9 : decode cX2_countMissing 9 = .ok (.if_icmp .ge 21, 3) := by decide +kernel
theorem dX2_countMissing_12 : decode cX2_countMissing 12 = .ok (.aload_n 0, 1) := by decide +kernel
theorem dX2_countMissing_13 : decode cX2_countMissing 13 = .ok (.getfield 18, 3) := by decide +kernel
theorem dX2_countMissing_16 : decode cX2_countMissing 16 = .ok (.iload_n 2, 1) := by decide +kernel
theorem dX2_countMissing_17 : decode cX2_countMissing 17 = .ok (.iaload, 1) := by decide +kernel
theorem dX2_countMissing_18 : decode cX2_countMissing 18 = .ok (.ifCond .ne 6, 3) := by decide +kernel
theorem dX2_countMissing_21 : decode cX2_countMissing 21 = .ok (.iinc 1 1, 3) := by decide +kernel
theorem dX2_countMissing_24 : decode cX2_countMissing 24 = .ok (.iinc 2 1, 3) := by decide +kernel
theorem dX2_countMissing_27 : decode cX2_countMissing 27 = .ok (.goto (-23), 3) := by decide +kernel
theorem dX2_countMissing_30 : decode cX2_countMissing 30 = .ok (.iload_n 1, 1) := by decide +kernel
theorem dX2_countMissing_31 : decode cX2_countMissing 31 = .ok (.ireturn, 1) := by decide +kernel
theorem dX2_canBePassed_0 : decode cX2_canBePassed 0 = .ok (.iconst 1, 1) := by decide +kernel
theorem dX2_canBePassed_1 : decode cX2_canBePassed 1 = .ok (.istore_n 1, 1) := by decide +kernel
theorem dX2_canBePassed_2 : decode cX2_canBePassed 2 = .ok (.iload_n 1, 1) := by decide +kernel
theorem dX2_canBePassed_3 : decode cX2_canBePassed 3 = .ok (.aload_n 0, 1) := by decide +kernel
theorem dX2_canBePassed_4 : decode cX2_canBePassed 4 = .ok (.getfield 49, 3) := by decide +kernel
theorem dX2_canBePassed_7 : decode cX2_canBePassed 7 = .ok (.if_icmp .ge 31, 3) := by decide +kernel
theorem dX2_canBePassed_10 : decode cX2_canBePassed 10 = .ok (.aload_n 0, 1) := by decide +kernel
theorem dX2_canBePassed_11 : decode cX2_canBePassed 11 = .ok (.getfield 18, 3) := by decide +kernel
theorem dX2_canBePassed_14 : decode cX2_canBePassed 14 = .ok (.iload_n 1, 1) := by decide +kernel
theorem dX2_canBePassed_15 : decode cX2_canBePassed 15 = .ok (.iaload, 1) := by decide +kernel
theorem dX2_canBePassed_16 : decode cX2_canBePassed 16 = .ok (.ifCond .ne 16, 3) := by decide +kernel
theorem dX2_canBePassed_19 : decode cX2_canBePassed 19 = .ok (.aload_n 0, 1) := by decide +kernel
theorem dX2_canBePassed_20 : decode cX2_canBePassed 20 = .ok (.getfield 18, 3) := by decide +kernel
theorem dX2_canBePassed_23 : decode cX2_canBePassed 23 = .ok (.iload_n 1, 1) := by decide +kernel
theorem dX2_canBePassed_24 : decode cX2_canBePassed 24 = .ok (.iconst 1, 1) := by decide +kernel
theorem dX2_canBePassed_25 : decode cX2_canBePassed 25 = .ok (.isub, 1) := by decide +kernel
theorem dX2_canBePassed_26 : decode cX2_canBePassed 26 = .ok (.iaload, 1) := by decide +kernel
theorem dX2_canBePassed_27 : decode cX2_canBePassed 27 = .ok (.ifCond .ne 5, 3) := by decide +kernel
theorem dX2_canBePassed_30 : decode cX2_canBePassed 30 = .ok (.iconst 0, 1) := by decide +kernel
theorem dX2_canBePassed_31 : decode cX2_canBePassed 31 = .ok (.ireturn, 1) := by decide +kernel
theorem dX2_canBePassed_32 : decode cX2_canBePassed 32 = .ok (.iinc 1 1, 3) := by decide +kernel
theorem dX2_canBePassed_35 : decode cX2_canBePassed 35 = .ok (.goto (-33), 3) := by decide +kernel
theorem dX2_canBePassed_38 : decode cX2_canBePassed 38 = .ok (.iconst 1, 1) := by decide +kernel
theorem dX2_canBePassed_39 : decode cX2_canBePassed 39 = .ok (.ireturn, 1) := by decide +kernel
theorem dX2_findWeakest_0 : decode cX2_findWeakest 0 = .ok (.iconst (-1), 1) := by decide +kernel
theorem dX2_findWeakest_1 : decode cX2_findWeakest 1 = .ok (.istore_n 2, 1) := by decide +kernel
theorem dX2_findWeakest_2 : decode cX2_findWeakest 2 = .ok (.bipush 31, 2) := by decide +kernel
theorem dX2_findWeakest_4 : decode cX2_findWeakest 4 = .ok (.istore_n 3, 1) := by decide +kernel
theorem dX2_findWeakest_5 : decode cX2_findWeakest 5 = .ok (.iconst 0, 1) := by decide +kernel
theorem dX2_findWeakest_6 : decode cX2_findWeakest 6 = .ok (.istore 4, 2) := by decide +kernel
theorem dX2_findWeakest_8 : decode cX2_findWeakest 8 = .ok (.iload 4, 2) := by decide +kernel
theorem dX2_findWeakest_10 : decode cX2_findWeakest 10 = .ok (.aload_n 0, 1) := by decide +kernel
theorem dX2_findWeakest_11 : decode cX2_findWeakest 11 = .ok (.getfield 49, 3) := by decide +kernel
theorem dX2_findWeakest_14 : decode cX2_findWeakest 14 = .ok (.if_icmp .ge 49, 3) := by decide +kernel
theorem dX2_findWeakest_17 : decode cX2_findWeakest 17 = .ok (.aload_n 0, 1) := by decide +kernel
theorem dX2_findWeakest_18 : decode cX2_findWeakest 18 = .ok (.getfield 18, 3) := by decide +kernel
theorem dX2_findWeakest_21 : decode cX2_findWeakest 21 = .ok (.iload 4, 2) := by decide +kernel
theorem dX2_findWeakest_23 : decode cX2_findWeakest 23 = .ok (.iaload, 1) := by decide +kernel
theorem dX2_findWeakest_24 : decode cX2_findWeakest 24 = .ok (.istore 5, 2) := by decide +kernel
theorem dX2_findWeakest_26 : decode cX2_findWeakest 26 = .ok (.iload 5, 2) := by decide +kernel
theorem dX2_findWeakest_28 : decode cX2_findWeakest 28 = .ok (.ifCond .le 29, 3) := by decide +kernel
theorem dX2_findWeakest_31 : decode cX2_findWeakest 31 = .ok (.iload 5, 2) := by decide +kernel
theorem dX2_findWeakest_33 : decode cX2_findWeakest 33 = .ok (.iload_n 3, 1) := by decide +kernel
theorem dX2_findWeakest_34 : decode cX2_findWeakest 34 = .ok (.if_icmp .ge 23, 3) := by decide +kernel
theorem dX2_findWeakest_37 : decode cX2_findWeakest 37 = .ok (.iload_n 1, 1) := by decide +kernel
theorem dX2_findWeakest_38 : decode cX2_findWeakest 38 = .ok (.ifCond .ne 13, 3) := by decide +kernel
theorem dX2_findWeakest_41 : decode cX2_findWeakest 41 = .ok (.aload_n 0, 1) := by decide +kernel
theorem dX2_findWeakest_42 : decode cX2_findWeakest 42 = .ok (.getfield 21, 3) := by decide +kernel
theorem dX2_findWeakest_45 : decode cX2_findWeakest 45 = .ok (.iload 4, 2) := by decide +kernel
theorem dX2_findWeakest_47 : decode cX2_findWeakest 47 = .ok (.baload, 1) := by decide +kernel
theorem dX2_findWeakest_48 : decode cX2_findWeakest 48 = .ok (.ifCond .ne 9, 3) := by decide +kernel
theorem dX2_findWeakest_51 : decode cX2_findWeakest 51 = .ok (.iload 4, 2) := by decide +kernel
theorem dX2_findWeakest_53 : decode cX2_findWeakest 53 = .ok (.istore_n 2, 1) := by decide +kernel
theorem dX2_findWeakest_54 : decode cX2_findWeakest 54 = .ok (.iload 5, 2) := by decide +kernel
theorem dX2_findWeakest_56 : decode cX2_findWeakest 56 = .ok (.istore_n 3, 1) := by decide +kernel
theorem dX2_findWeakest_57 : decode cX2_findWeakest 57 = .ok (.iinc 4 1, 3) := by decide +kernel
theorem dX2_findWeakest_60 : decode cX2_findWeakest 60 = .ok (.goto (-52), 3) := by decide +kernel
theorem dX2_findWeakest_63 : decode cX2_findWeakest 63 = .ok (.iload_n 2, 1) := by decide +kernel
theorem dX2_findWeakest_64 : decode cX2_findWeakest 64 = .ok (.ireturn, 1) := by decide +kernel
theorem dX2_minutesFor_0 : decode cX2_minutesFor 0 = .ok (.aload_n 0, 1) := by decide +kernel
theorem dX2_minutesFor_1 : decode cX2_minutesFor 1 = .ok (.iload_n 1, 1) := by decide +kernel
theorem dX2_minutesFor_2 : decode cX2_minutesFor 2 = .ok (.invokevirtual 83, 3) := by decide +kernel
theorem dX2_minutesFor_5 : decode cX2_minutesFor 5 = .ok (.ifCond .eq 12, 3) := by decide +kernel
theorem dX2_minutesFor_8 : decode cX2_minutesFor 8 = .ok (.aload_n 0, 1) := by decide +kernel
theorem dX2_minutesFor_9 : decode cX2_minutesFor 9 = .ok (.getfield 15, 3) := by decide +kernel
theorem dX2_minutesFor_12 : decode cX2_minutesFor 12 = .ok (.iload_n 1, 1) := by decide +kernel
theorem dX2_minutesFor_13 : decode cX2_minutesFor 13 = .ok (.iaload, 1) := by decide +kernel
theorem dX2_minutesFor_14 : decode cX2_minutesFor 14 = .ok (.goto 4, 3) := by decide +kernel
theorem dX2_minutesFor_17 : decode cX2_minutesFor 17 = .ok (.iconst 0, 1) := by decide +kernel
theorem dX2_minutesFor_18 : decode cX2_minutesFor 18 = .ok (.istore_n 3, 1) := by decide +kernel
theorem dX2_minutesFor_19 : decode cX2_minutesFor 19 = .ok (.aload_n 0, 1) := by decide +kernel
theorem dX2_minutesFor_20 : decode cX2_minutesFor 20 = .ok (.iload_n 2, 1) := by decide +kernel
theorem dX2_minutesFor_21 : decode cX2_minutesFor 21 = .ok (.invokevirtual 83, 3) := by decide +kernel
theorem dX2_minutesFor_24 : decode cX2_minutesFor 24 = .ok (.ifCond .eq 22, 3) := by decide +kernel
theorem dX2_minutesFor_27 : decode cX2_minutesFor 27 = .ok (.aload_n 0, 1) := by decide +kernel
theorem dX2_minutesFor_28 : decode cX2_minutesFor 28 = .ok (.getfield 15, 3) := by decide +kernel
theorem dX2_minutesFor_31 : decode cX2_minutesFor 31 = .ok (.iload_n 2, 1) := by decide +kernel
theorem dX2_minutesFor_32 : decode cX2_minutesFor 32 = .ok (.iaload, 1) := by decide +kernel
theorem dX2_minutesFor_33 : decode cX2_minutesFor 33 = .ok (.iload_n 3, 1) := by decide +kernel
theorem dX2_minutesFor_34 : decode cX2_minutesFor 34 = .ok (.if_icmp .le 12, 3) := by decide +kernel
theorem dX2_minutesFor_37 : decode cX2_minutesFor 37 = .ok (.aload_n 0, 1) := by decide +kernel
theorem dX2_minutesFor_38 : decode cX2_minutesFor 38 = .ok (.getfield 15, 3) := by decide +kernel
theorem dX2_minutesFor_41 : decode cX2_minutesFor 41 = .ok (.iload_n 2, 1) := by decide +kernel
theorem dX2_minutesFor_42 : decode cX2_minutesFor 42 = .ok (.iaload, 1) := by decide +kernel
theorem dX2_minutesFor_43 : decode cX2_minutesFor 43 = .ok (.goto 4, 3) := by decide +kernel
theorem dX2_minutesFor_46 : decode cX2_minutesFor 46 = .ok (.iload_n 3, 1) := by decide +kernel
theorem dX2_minutesFor_47 : decode cX2_minutesFor 47 = .ok (.ireturn, 1) := by decide +kernel
theorem dX2_weightFor_0 : decode cX2_weightFor 0 = .ok (.aload_n 0, 1) := by decide +kernel
theorem dX2_weightFor_1 : decode cX2_weightFor 1 = .ok (.iload_n 1, 1) := by decide +kernel
theorem dX2_weightFor_2 : decode cX2_weightFor 2 = .ok (.invokevirtual 83, 3) := by decide +kernel
theorem dX2_weightFor_5 : decode cX2_weightFor 5 = .ok (.ifCond .eq 12, 3) := by decide +kernel
theorem dX2_weightFor_8 : decode cX2_weightFor 8 = .ok (.aload_n 0, 1) := by decide +kernel
theorem dX2_weightFor_9 : decode cX2_weightFor 9 = .ok (.getfield 9, 3) := by decide +kernel
theorem dX2_weightFor_12 : decode cX2_weightFor 12 = .ok (.iload_n 1, 1) := by decide +kernel
theorem dX2_weightFor_13 : decode cX2_weightFor 13 = .ok (.iaload, 1) := by decide +kernel
theorem dX2_weightFor_14 : decode cX2_weightFor 14 = .ok (.goto 4, 3) := by decide +kernel
theorem dX2_weightFor_17 : decode cX2_weightFor 17 = .ok (.iconst 0, 1) := by decide +kernel
theorem dX2_weightFor_18 : decode cX2_weightFor 18 = .ok (.istore_n 3, 1) := by decide +kernel
theorem dX2_weightFor_19 : decode cX2_weightFor 19 = .ok (.aload_n 0, 1) := by decide +kernel
theorem dX2_weightFor_20 : decode cX2_weightFor 20 = .ok (.iload_n 2, 1) := by decide +kernel
theorem dX2_weightFor_21 : decode cX2_weightFor 21 = .ok (.invokevirtual 83, 3) := by decide +kernel
theorem dX2_weightFor_24 : decode cX2_weightFor 24 = .ok (.ifCond .eq 14, 3) := by decide +kernel
theorem dX2_weightFor_27 : decode cX2_weightFor 27 = .ok (.iload_n 3, 1) := by decide +kernel
theorem dX2_weightFor_28 : decode cX2_weightFor 28 = .ok (.aload_n 0, 1) := by decide +kernel
theorem dX2_weightFor_29 : decode cX2_weightFor 29 = .ok (.getfield 9, 3) := by decide +kernel
theorem dX2_weightFor_32 : decode cX2_weightFor 32 = .ok (.iload_n 2, 1) := by decide +kernel
theorem dX2_weightFor_33 : decode cX2_weightFor 33 = .ok (.iaload, 1) := by decide +kernel
theorem dX2_weightFor_34 : decode cX2_weightFor 34 = .ok (.iadd, 1) := by decide +kernel
theorem dX2_weightFor_35 : decode cX2_weightFor 35 = .ok (.goto 4, 3) := by decide +kernel
theorem dX2_weightFor_38 : decode cX2_weightFor 38 = .ok (.iload_n 3, 1) := by decide +kernel
theorem dX2_weightFor_39 : decode cX2_weightFor 39 = .ok (.ireturn, 1) := by decide +kernel
theorem dX2_canGo_0 : decode cX2_canGo 0 = .ok (.aload_n 0, 1) := by decide +kernel
theorem dX2_canGo_1 : decode cX2_canGo 1 = .ok (.iload_n 1, 1) := by decide +kernel
theorem dX2_canGo_2 : decode cX2_canGo 2 = .ok (.iload_n 2, 1) := by decide +kernel
theorem dX2_canGo_3 : decode cX2_canGo 3 = .ok (.invokevirtual 87, 3) := by decide +kernel
theorem dX2_canGo_6 : decode cX2_canGo 6 = .ok (.istore_n 3, 1) := by decide +kernel
theorem dX2_canGo_7 : decode cX2_canGo 7 = .ok (.aload_n 0, 1) := by decide +kernel
theorem dX2_canGo_8 : decode cX2_canGo 8 = .ok (.iload_n 1, 1) := by decide +kernel
theorem dX2_canGo_9 : decode cX2_canGo 9 = .ok (.invokevirtual 83, 3) := by decide +kernel
theorem dX2_canGo_12 : decode cX2_canGo 12 = .ok (.ifCond .eq 70, 3) := by decide +kernel
theorem dX2_canGo_15 : decode cX2_canGo 15 = .ok (.aload_n 0, 1) := by decide +kernel
theorem dX2_canGo_16 : decode cX2_canGo 16 = .ok (.iload_n 1, 1) := by decide +kernel
theorem dX2_canGo_17 : decode cX2_canGo 17 = .ok (.invokevirtual 91, 3) := by decide +kernel
theorem dX2_canGo_20 : decode cX2_canGo 20 = .ok (.aload_n 0, 1) := by decide +kernel
theorem dX2_canGo_21 : decode cX2_canGo 21 = .ok (.getfield 51, 3) := by decide +kernel
theorem dX2_canGo_24 : decode cX2_canGo 24 = .ok (.if_icmp .ne 58, 3) := by decide +kernel
theorem dX2_canGo_27 : decode cX2_canGo 27 = .ok (.iload_n 2, 1) := by decide +kernel
theorem dX2_canGo_28 : decode cX2_canGo 28 = .ok (.iconst (-1), 1) := by decide +kernel
theorem dX2_canGo_29 : decode cX2_canGo 29 = .ok (.if_icmp .eq 23, 3) := by decide +kernel
theorem dX2_canGo_32 : decode cX2_canGo 32 = .ok (.aload_n 0, 1) := by decide +kernel
theorem dX2_canGo_33 : decode cX2_canGo 33 = .ok (.iload_n 2, 1) := by decide +kernel
theorem dX2_canGo_34 : decode cX2_canGo 34 = .ok (.invokevirtual 83, 3) := by decide +kernel
theorem dX2_canGo_37 : decode cX2_canGo 37 = .ok (.ifCond .eq 45, 3) := by decide +kernel
theorem dX2_canGo_40 : decode cX2_canGo 40 = .ok (.aload_n 0, 1) := by decide +kernel
theorem dX2_canGo_41 : decode cX2_canGo 41 = .ok (.iload_n 2, 1) := by decide +kernel
theorem dX2_canGo_42 : decode cX2_canGo 42 = .ok (.invokevirtual 91, 3) := by decide +kernel
theorem dX2_canGo_45 : decode cX2_canGo 45 = .ok (.aload_n 0, 1) := by decide +kernel
theorem dX2_canGo_46 : decode cX2_canGo 46 = .ok (.getfield 51, 3) := by decide +kernel
theorem dX2_canGo_49 : decode cX2_canGo 49 = .ok (.if_icmp .ne 33, 3) := by decide +kernel
theorem dX2_canGo_52 : decode cX2_canGo 52 = .ok (.aload_n 0, 1) := by decide +kernel
theorem dX2_canGo_53 : decode cX2_canGo 53 = .ok (.invokevirtual 94, 3) := by decide +kernel
theorem dX2_canGo_56 : decode cX2_canGo 56 = .ok (.ifCond .eq 26, 3) := by decide +kernel
theorem dX2_canGo_59 : decode cX2_canGo 59 = .ok (.iload_n 3, 1) := by decide +kernel
theorem dX2_canGo_60 : decode cX2_canGo 60 = .ok (.aload_n 0, 1) := by decide +kernel
theorem dX2_canGo_61 : decode cX2_canGo 61 = .ok (.getfield 55, 3) := by decide +kernel
theorem dX2_canGo_64 : decode cX2_canGo 64 = .ok (.if_icmp .gt 18, 3) := by decide +kernel
theorem dX2_canGo_67 : decode cX2_canGo 67 = .ok (.aload_n 0, 1) := by decide +kernel
theorem dX2_canGo_68 : decode cX2_canGo 68 = .ok (.getfield 61, 3) := by decide +kernel
theorem dX2_canGo_71 : decode cX2_canGo 71 = .ok (.iload_n 3, 1) := by decide +kernel
theorem dX2_canGo_72 : decode cX2_canGo 72 = .ok (.iadd, 1) := by decide +kernel
theorem dX2_canGo_73 : decode cX2_canGo 73 = .ok (.bipush 120, 2) := by decide +kernel
theorem dX2_canGo_75 : decode cX2_canGo 75 = .ok (.if_icmp .gt 7, 3) := by decide +kernel
theorem dX2_canGo_78 : decode cX2_canGo 78 = .ok (.iconst 1, 1) := by decide +kernel
theorem dX2_canGo_79 : decode cX2_canGo 79 = .ok (.goto 4, 3) := by decide +kernel
theorem dX2_canGo_82 : decode cX2_canGo 82 = .ok (.iconst 0, 1) := by decide +kernel
theorem dX2_canGo_83 : decode cX2_canGo 83 = .ok (.ireturn, 1) := by decide +kernel
theorem dX2_go_0 : decode cX2_go 0 = .ok (.aload_n 0, 1) := by decide +kernel
theorem dX2_go_1 : decode cX2_go 1 = .ok (.aload_n 0, 1) := by decide +kernel
theorem dX2_go_2 : decode cX2_go 2 = .ok (.iload_n 1, 1) := by decide +kernel
theorem dX2_go_3 : decode cX2_go 3 = .ok (.iload_n 2, 1) := by decide +kernel
theorem dX2_go_4 : decode cX2_go 4 = .ok (.invokevirtual 97, 3) := by decide +kernel
theorem dX2_go_7 : decode cX2_go 7 = .ok (.invokevirtual 100, 3) := by decide +kernel
theorem dX2_go_10 : decode cX2_go 10 = .ok (.istore_n 3, 1) := by decide +kernel
theorem dX2_go_11 : decode cX2_go 11 = .ok (.iload_n 3, 1) := by decide +kernel
theorem dX2_go_12 : decode cX2_go 12 = .ok (.ifCond .eq 65, 3) := by decide +kernel
theorem dX2_go_15 : decode cX2_go 15 = .ok (.aload_n 0, 1) := by decide +kernel
theorem dX2_go_16 : decode cX2_go 16 = .ok (.dup, 1) := by decide +kernel
theorem dX2_go_17 : decode cX2_go 17 = .ok (.getfield 43, 3) := by decide +kernel
theorem dX2_go_20 : decode cX2_go 20 = .ok (.iconst 1, 1) := by decide +kernel
theorem dX2_go_21 : decode cX2_go 21 = .ok (.iload_n 1, 1) := by decide +kernel
theorem dX2_go_22 : decode cX2_go 22 = .ok (.ishl, 1) := by decide +kernel
theorem dX2_go_23 : decode cX2_go 23 = .ok (.ixor, 1) := by decide +kernel
theorem dX2_go_24 : decode cX2_go 24 = .ok (.putfield 43, 3) := by decide +kernel
theorem dX2_go_27 : decode cX2_go 27 = .ok (.aload_n 0, 1) := by decide +kernel
theorem dX2_go_28 : decode cX2_go 28 = .ok (.dup, 1) := by decide +kernel
theorem dX2_go_29 : decode cX2_go 29 = .ok (.getfield 43, 3) := by decide +kernel
theorem dX2_go_32 : decode cX2_go 32 = .ok (.iload_n 2, 1) := by decide +kernel
theorem dX2_go_33 : decode cX2_go 33 = .ok (.iconst (-1), 1) := by decide +kernel
theorem dX2_go_34 : decode cX2_go 34 = .ok (.if_icmp .ne 7, 3) := by decide +kernel
theorem dX2_go_37 : decode cX2_go 37 = .ok (.iconst 0, 1) := by decide +kernel
theorem dX2_go_38 : decode cX2_go 38 = .ok (.goto 6, 3) := by decide +kernel
theorem dX2_go_41 : decode cX2_go 41 = .ok (.iconst 1, 1) := by decide +kernel
theorem dX2_go_42 : decode cX2_go 42 = .ok (.iload_n 2, 1) := by decide +kernel
theorem dX2_go_43 : decode cX2_go 43 = .ok (.ishl, 1) := by decide +kernel
theorem dX2_go_44 : decode cX2_go 44 = .ok (.ixor, 1) := by decide +kernel
theorem dX2_go_45 : decode cX2_go 45 = .ok (.putfield 43, 3) := by decide +kernel
theorem dX2_go_48 : decode cX2_go 48 = .ok (.aload_n 0, 1) := by decide +kernel
theorem dX2_go_49 : decode cX2_go 49 = .ok (.aload_n 0, 1) := by decide +kernel
theorem dX2_go_50 : decode cX2_go 50 = .ok (.getfield 51, 3) := by decide +kernel
theorem dX2_go_53 : decode cX2_go 53 = .ok (.ifCond .ne 7, 3) := by decide +kernel
theorem dX2_go_56 : decode cX2_go 56 = .ok (.iconst 1, 1) := by decide +kernel
theorem dX2_go_57 : decode cX2_go 57 = .ok (.goto 4, 3) := by decide +kernel
theorem dX2_go_60 : decode cX2_go 60 = .ok (.iconst 0, 1) := by decide +kernel
theorem dX2_go_61 : decode cX2_go 61 = .ok (.putfield 51, 3) := by decide +kernel
theorem dX2_go_64 : decode cX2_go 64 = .ok (.aload_n 0, 1) := by decide +kernel
theorem dX2_go_65 : decode cX2_go 65 = .ok (.dup, 1) := by decide +kernel
theorem dX2_go_66 : decode cX2_go 66 = .ok (.getfield 64, 3) := by decide +kernel
theorem dX2_go_69 : decode cX2_go 69 = .ok (.iconst 1, 1) := by decide +kernel
theorem dX2_go_70 : decode cX2_go 70 = .ok (.iadd, 1) := by decide +kernel
theorem dX2_go_71 : decode cX2_go 71 = .ok (.putfield 64, 3) := by decide +kernel
theorem dX2_go_74 : decode cX2_go 74 = .ok (.goto 13, 3) := by decide +kernel
theorem dX2_go_77 : decode cX2_go 77 = .ok (.aload_n 0, 1) := by decide +kernel
theorem dX2_go_78 : decode cX2_go 78 = .ok (.dup, 1) := by decide +kernel
theorem dX2_go_79 : decode cX2_go 79 = .ok (.getfield 67, 3) := by decide +kernel
theorem dX2_go_82 : decode cX2_go 82 = .ok (.iconst 1, 1) := by decide +kernel
theorem dX2_go_83 : decode cX2_go 83 = .ok (.iadd, 1) := by decide +kernel
theorem dX2_go_84 : decode cX2_go 84 = .ok (.putfield 67, 3) := by decide +kernel
theorem dX2_go_87 : decode cX2_go 87 = .ok (.aload_n 0, 1) := by decide +kernel
theorem dX2_go_88 : decode cX2_go 88 = .ok (.iload_n 1, 1) := by decide +kernel
theorem dX2_go_89 : decode cX2_go 89 = .ok (.iload_n 2, 1) := by decide +kernel
theorem dX2_go_90 : decode cX2_go 90 = .ok (.invokevirtual 87, 3) := by decide +kernel
theorem dX2_go_93 : decode cX2_go 93 = .ok (.istore 4, 2) := by decide +kernel
theorem dX2_go_95 : decode cX2_go 95 = .ok (.aload_n 0, 1) := by decide +kernel
theorem dX2_go_96 : decode cX2_go 96 = .ok (.dup, 1) := by decide +kernel
theorem dX2_go_97 : decode cX2_go 97 = .ok (.getfield 55, 3) := by decide +kernel
theorem dX2_go_100 : decode cX2_go 100 = .ok (.iload 4, 2) := by decide +kernel
theorem dX2_go_102 : decode cX2_go 102 = .ok (.isub, 1) := by decide +kernel
theorem dX2_go_103 : decode cX2_go 103 = .ok (.putfield 55, 3) := by decide +kernel
theorem dX2_go_106 : decode cX2_go 106 = .ok (.aload_n 0, 1) := by decide +kernel
theorem dX2_go_107 : decode cX2_go 107 = .ok (.iload 4, 2) := by decide +kernel
theorem dX2_go_109 : decode cX2_go 109 = .ok (.invokevirtual 103, 3) := by decide +kernel
theorem dX2_go_112 : decode cX2_go 112 = .ok (.pop, 1) := by decide +kernel
theorem dX2_go_113 : decode cX2_go 113 = .ok (.iload_n 3, 1) := by decide +kernel
theorem dX2_go_114 : decode cX2_go 114 = .ok (.ireturn, 1) := by decide +kernel
theorem dX2_treadAll_0 : decode cX2_treadAll 0 = .ok (.iconst 0, 1) := by decide +kernel
theorem dX2_treadAll_1 : decode cX2_treadAll 1 = .ok (.istore_n 2, 1) := by decide +kernel
theorem dX2_treadAll_2 : decode cX2_treadAll 2 = .ok (.iconst 0, 1) := by decide +kernel
theorem dX2_treadAll_3 : decode cX2_treadAll 3 = .ok (.istore_n 3, 1) := by decide +kernel
theorem dX2_treadAll_4 : decode cX2_treadAll 4 = .ok (.iload_n 3, 1) := by decide +kernel
theorem dX2_treadAll_5 : decode cX2_treadAll 5 = .ok (.aload_n 0, 1) := by decide +kernel
theorem dX2_treadAll_6 : decode cX2_treadAll 6 = .ok (.getfield 49, 3) := by decide +kernel
theorem dX2_treadAll_9 : decode cX2_treadAll 9 = .ok (.if_icmp .ge 125, 3) := by decide +kernel
theorem dX2_treadAll_12 : decode cX2_treadAll 12 = .ok (.aload_n 0, 1) := by decide +kernel
theorem dX2_treadAll_13 : decode cX2_treadAll 13 = .ok (.getfield 51, 3) := by decide +kernel
theorem dX2_treadAll_16 : decode cX2_treadAll 16 = .ok (.ifCond .eq 7, 3) := by decide +kernel
theorem dX2_treadAll_19 : decode cX2_treadAll 19 = .ok (.iload_n 3, 1) := by decide +kernel
theorem dX2_treadAll_20 : decode cX2_treadAll 20 = .ok (.goto 11, 3) := by decide +kernel
theorem dX2_treadAll_23 : decode cX2_treadAll 23 = .ok (.aload_n 0, 1) := by decide +kernel
theorem dX2_treadAll_24 : decode cX2_treadAll 24 = .ok (.getfield 49, 3) := by decide +kernel
theorem dX2_treadAll_27 : decode cX2_treadAll 27 = .ok (.iconst 1, 1) := by decide +kernel
theorem dX2_treadAll_28 : decode cX2_treadAll 28 = .ok (.isub, 1) := by decide +kernel
theorem dX2_treadAll_29 : decode cX2_treadAll 29 = .ok (.iload_n 3, 1) := by decide +kernel
theorem dX2_treadAll_30 : decode cX2_treadAll 30 = .ok (.isub, 1) := by decide +kernel
theorem dX2_treadAll_31 : decode cX2_treadAll 31 = .ok (.istore 4, 2) := by decide +kernel
theorem dX2_treadAll_33 : decode cX2_treadAll 33 = .ok (.aload_n 0, 1) := by decide +kernel
theorem dX2_treadAll_34 : decode cX2_treadAll 34 = .ok (.iload 4, 2) := by decide +kernel
theorem dX2_treadAll_36 : decode cX2_treadAll 36 = .ok (.invokevirtual 106, 3) := by decide +kernel
theorem dX2_treadAll_39 : decode cX2_treadAll 39 = .ok (.istore 5, 2) := by decide +kernel
theorem dX2_treadAll_41 : decode cX2_treadAll 41 = .ok (.aload_n 0, 1) := by decide +kernel
theorem dX2_treadAll_42 : decode cX2_treadAll 42 = .ok (.getfield 18, 3) := by decide +kernel
theorem dX2_treadAll_45 : decode cX2_treadAll 45 = .ok (.iload 4, 2) := by decide +kernel
theorem dX2_treadAll_47 : decode cX2_treadAll 47 = .ok (.iaload, 1) := by decide +kernel
theorem dX2_treadAll_48 : decode cX2_treadAll 48 = .ok (.ifCond .le 19, 3) := by decide +kernel
theorem dX2_treadAll_51 : decode cX2_treadAll 51 = .ok (.iload 5, 2) := by decide +kernel
theorem dX2_treadAll_53 : decode cX2_treadAll 53 = .ok (.iload_n 1, 1) := by decide +kernel
theorem dX2_treadAll_54 : decode cX2_treadAll 54 = .ok (.if_icmp .ge 13, 3) := by decide +kernel
theorem dX2_treadAll_57 : decode cX2_treadAll 57 = .ok (.aload_n 0, 1) := by decide +kernel
theorem dX2_treadAll_58 : decode cX2_treadAll 58 = .ok (.iload 4, 2) := by decide +kernel
theorem dX2_treadAll_60 : decode cX2_treadAll 60 = .ok (.iconst 0, 1) := by decide +kernel
theorem dX2_treadAll_61 : decode cX2_treadAll 61 = .ok (.invokevirtual 109, 3) := by decide +kernel
theorem dX2_treadAll_64 : decode cX2_treadAll 64 = .ok (.goto 33, 3) := by decide +kernel
theorem dX2_treadAll_67 : decode cX2_treadAll 67 = .ok (.aload_n 0, 1) := by decide +kernel
theorem dX2_treadAll_68 : decode cX2_treadAll 68 = .ok (.getfield 18, 3) := by decide +kernel
theorem dX2_treadAll_71 : decode cX2_treadAll 71 = .ok (.iload 4, 2) := by decide +kernel
theorem dX2_treadAll_73 : decode cX2_treadAll 73 = .ok (.iaload, 1) := by decide +kernel
theorem dX2_treadAll_74 : decode cX2_treadAll 74 = .ok (.iconst 1, 1) := by decide +kernel
theorem dX2_treadAll_75 : decode cX2_treadAll 75 = .ok (.if_icmp .le 22, 3) := by decide +kernel
theorem dX2_treadAll_78 : decode cX2_treadAll 78 = .ok (.iload 5, 2) := by decide +kernel
theorem dX2_treadAll_80 : decode cX2_treadAll 80 = .ok (.iconst 2, 1) := by decide +kernel
theorem dX2_treadAll_81 : decode cX2_treadAll 81 = .ok (.iload_n 1, 1) := by decide +kernel
theorem dX2_treadAll_82 : decode cX2_treadAll 82 = .ok (.imul, 1) := by decide +kernel
theorem dX2_treadAll_83 : decode cX2_treadAll 83 = .ok (.if_icmp .ge 14, 3) := by decide +kernel
theorem dX2_treadAll_86 : decode cX2_treadAll 86 = .ok (.aload_n 0, 1) := by decide +kernel
theorem dX2_treadAll_87 : decode cX2_treadAll 87 = .ok (.getfield 18, 3) := by decide +kernel
theorem dX2_treadAll_90 : decode cX2_treadAll 90 = .ok (.iload 4, 2) := by decide +kernel
theorem dX2_treadAll_92 : decode cX2_treadAll 92 = .ok (.dup2, 1) := by decide +kernel
theorem dX2_treadAll_93 : decode cX2_treadAll 93 = .ok (.iaload, 1) := by decide +kernel
theorem dX2_treadAll_94 : decode cX2_treadAll 94 = .ok (.iconst 1, 1) := by decide +kernel
theorem dX2_treadAll_95 : decode cX2_treadAll 95 = .ok (.isub, 1) := by decide +kernel
theorem dX2_treadAll_96 : decode cX2_treadAll 96 = .ok (.iastore, 1) := by decide +kernel
theorem dX2_treadAll_97 : decode cX2_treadAll 97 = .ok (.aload_n 0, 1) := by decide +kernel
theorem dX2_treadAll_98 : decode cX2_treadAll 98 = .ok (.getfield 18, 3) := by decide +kernel
theorem dX2_treadAll_101 : decode cX2_treadAll 101 = .ok (.iload 4, 2) := by decide +kernel
theorem dX2_treadAll_103 : decode cX2_treadAll 103 = .ok (.iaload, 1) := by decide +kernel
theorem dX2_treadAll_104 : decode cX2_treadAll 104 = .ok (.ifCond .ne 7, 3) := by decide +kernel
theorem dX2_treadAll_107 : decode cX2_treadAll 107 = .ok (.iconst 1, 1) := by decide +kernel
theorem dX2_treadAll_108 : decode cX2_treadAll 108 = .ok (.goto 4, 3) := by decide +kernel
theorem dX2_treadAll_111 : decode cX2_treadAll 111 = .ok (.iconst 0, 1) := by decide +kernel
theorem dX2_treadAll_112 : decode cX2_treadAll 112 = .ok (.istore 6, 2) := by decide +kernel
theorem dX2_treadAll_114 : decode cX2_treadAll 114 = .ok (.iload 6, 2) := by decide +kernel
theorem dX2_treadAll_116 : decode cX2_treadAll 116 = .ok (.ifCond .eq 9, 3) := by decide +kernel
theorem dX2_treadAll_119 : decode cX2_treadAll 119 = .ok (.iload_n 2, 1) := by decide +kernel
theorem dX2_treadAll_120 : decode cX2_treadAll 120 = .ok (.ifCond .eq 5, 3) := by decide +kernel
theorem dX2_treadAll_123 : decode cX2_treadAll 123 = .ok (.iconst 0, 1) := by decide +kernel
theorem dX2_treadAll_124 : decode cX2_treadAll 124 = .ok (.ireturn, 1) := by decide +kernel
theorem dX2_treadAll_125 : decode cX2_treadAll 125 = .ok (.iload 6, 2) := by decide +kernel
theorem dX2_treadAll_127 : decode cX2_treadAll 127 = .ok (.istore_n 2, 1) := by decide +kernel
theorem dX2_treadAll_128 : decode cX2_treadAll 128 = .ok (.iinc 3 1, 3) := by decide +kernel
theorem dX2_treadAll_131 : decode cX2_treadAll 131 = .ok (.goto (-127), 3) := by decide +kernel
theorem dX2_treadAll_134 : decode cX2_treadAll 134 = .ok (.iconst 1, 1) := by decide +kernel
theorem dX2_treadAll_135 : decode cX2_treadAll 135 = .ok (.ireturn, 1) := by decide +kernel
theorem dX2_letGoBy_0 : decode cX2_letGoBy 0 = .ok (.aload_n 0, 1) := by decide +kernel
theorem dX2_letGoBy_1 : decode cX2_letGoBy 1 = .ok (.dup, 1) := by decide +kernel
theorem dX2_letGoBy_2 : decode cX2_letGoBy 2 = .ok (.getfield 61, 3) := by decide +kernel
theorem dX2_letGoBy_5 : decode cX2_letGoBy 5 = .ok (.iload_n 1, 1) := by decide +kernel
theorem dX2_letGoBy_6 : decode cX2_letGoBy 6 = .ok (.iadd, 1) := by decide +kernel
theorem dX2_letGoBy_7 : decode cX2_letGoBy 7 = .ok (.putfield 61, 3) := by decide +kernel
theorem dX2_letGoBy_10 : decode cX2_letGoBy 10 = .ok (.iconst 0, 1) := by decide +kernel
theorem dX2_letGoBy_11 : decode cX2_letGoBy 11 = .ok (.istore_n 2, 1) := by decide +kernel
theorem dX2_letGoBy_12 : decode cX2_letGoBy 12 = .ok (.aload_n 0, 1) := by decide +kernel
theorem dX2_letGoBy_13 : decode cX2_letGoBy 13 = .ok (.getfield 61, 3) := by decide +kernel
theorem dX2_letGoBy_16 : decode cX2_letGoBy 16 = .ok (.bipush 120, 2) := by decide +kernel
theorem dX2_letGoBy_18 : decode cX2_letGoBy 18 = .ok (.if_icmp .lt 31, 3) := by decide +kernel
theorem dX2_letGoBy_21 : decode cX2_letGoBy 21 = .ok (.iload_n 2, 1) := by decide +kernel
theorem dX2_letGoBy_22 : decode cX2_letGoBy 22 = .ok (.sipush 600, 3) := by decide +kernel
theorem dX2_letGoBy_25 : decode cX2_letGoBy 25 = .ok (.if_icmp .gt 24, 3) := by decide +kernel
theorem dX2_letGoBy_28 : decode cX2_letGoBy 28 = .ok (.aload_n 0, 1) := by decide +kernel
theorem dX2_letGoBy_29 : decode cX2_letGoBy 29 = .ok (.dup, 1) := by decide +kernel
theorem dX2_letGoBy_30 : decode cX2_letGoBy 30 = .ok (.getfield 61, 3) := by decide +kernel
theorem dX2_letGoBy_33 : decode cX2_letGoBy 33 = .ok (.bipush 120, 2) := by decide +kernel
theorem dX2_letGoBy_35 : decode cX2_letGoBy 35 = .ok (.isub, 1) := by decide +kernel
theorem dX2_letGoBy_36 : decode cX2_letGoBy 36 = .ok (.putfield 61, 3) := by decide +kernel
theorem dX2_letGoBy_39 : decode cX2_letGoBy 39 = .ok (.aload_n 0, 1) := by decide +kernel
theorem dX2_letGoBy_40 : decode cX2_letGoBy 40 = .ok (.invokevirtual 113, 3) := by decide +kernel
theorem dX2_letGoBy_43 : decode cX2_letGoBy 43 = .ok (.iinc 2 1, 3) := by decide +kernel
theorem dX2_letGoBy_46 : decode cX2_letGoBy 46 = .ok (.goto (-34), 3) := by decide +kernel
theorem dX2_letGoBy_49 : decode cX2_letGoBy 49 = .ok (.iload_n 2, 1) := by decide +kernel
theorem dX2_letGoBy_50 : decode cX2_letGoBy 50 = .ok (.ireturn, 1) := by decide +kernel
theorem dX2_beginNight_0 : decode cX2_beginNight 0 = .ok (.aload_n 0, 1) := by decide +kernel
theorem dX2_beginNight_1 : decode cX2_beginNight 1 = .ok (.dup, 1) := by decide +kernel
theorem dX2_beginNight_2 : decode cX2_beginNight 2 = .ok (.getfield 58, 3) := by decide +kernel
theorem dX2_beginNight_5 : decode cX2_beginNight 5 = .ok (.iconst 1, 1) := by decide +kernel
theorem dX2_beginNight_6 : decode cX2_beginNight 6 = .ok (.iadd, 1) := by decide +kernel
theorem dX2_beginNight_7 : decode cX2_beginNight 7 = .ok (.putfield 58, 3) := by decide +kernel
theorem dX2_beginNight_10 : decode cX2_beginNight 10 = .ok (.aload_n 0, 1) := by decide +kernel
theorem dX2_beginNight_11 : decode cX2_beginNight 11 = .ok (.bipush 60, 2) := by decide +kernel
theorem dX2_beginNight_13 : decode cX2_beginNight 13 = .ok (.putfield 55, 3) := by decide +kernel
theorem dX2_beginNight_16 : decode cX2_beginNight 16 = .ok (.iconst 0, 1) := by decide +kernel
theorem dX2_beginNight_17 : decode cX2_beginNight 17 = .ok (.istore_n 1, 1) := by decide +kernel
theorem dX2_beginNight_18 : decode cX2_beginNight 18 = .ok (.iload_n 1, 1) := by decide +kernel
theorem dX2_beginNight_19 : decode cX2_beginNight 19 = .ok (.aload_n 0, 1) := by decide +kernel
theorem dX2_beginNight_20 : decode cX2_beginNight 20 = .ok (.getfield 49, 3) := by decide +kernel
theorem dX2_beginNight_23 : decode cX2_beginNight 23 = .ok (.if_icmp .ge 48, 3) := by decide +kernel
theorem dX2_beginNight_26 : decode cX2_beginNight 26 = .ok (.aload_n 0, 1) := by decide +kernel
theorem dX2_beginNight_27 : decode cX2_beginNight 27 = .ok (.getfield 21, 3) := by decide +kernel
theorem dX2_beginNight_30 : decode cX2_beginNight 30 = .ok (.iload_n 1, 1) := by decide +kernel
theorem dX2_beginNight_31 : decode cX2_beginNight 31 = .ok (.baload, 1) := by decide +kernel
theorem dX2_beginNight_32 : decode cX2_beginNight 32 = .ok (.ifCond .eq 33, 3) := by decide +kernel
theorem dX2_beginNight_35 : decode cX2_beginNight 35 = .ok (.aload_n 0, 1) := by decide +kernel
theorem dX2_beginNight_36 : decode cX2_beginNight 36 = .ok (.getfield 18, 3) := by decide +kernel
theorem dX2_beginNight_39 : decode cX2_beginNight 39 = .ok (.iload_n 1, 1) := by decide +kernel
theorem dX2_beginNight_40 : decode cX2_beginNight 40 = .ok (.dup2, 1) := by decide +kernel
theorem dX2_beginNight_41 : decode cX2_beginNight 41 = .ok (.iaload, 1) := by decide +kernel
theorem dX2_beginNight_42 : decode cX2_beginNight 42 = .ok (.iconst 1, 1) := by decide +kernel
theorem dX2_beginNight_43 : decode cX2_beginNight 43 = .ok (.isub, 1) := by decide +kernel
theorem dX2_beginNight_44 : decode cX2_beginNight 44 = .ok (.iastore, 1) := by decide +kernel
theorem dX2_beginNight_45 : decode cX2_beginNight 45 = .ok (.aload_n 0, 1) := by decide +kernel
theorem dX2_beginNight_46 : decode cX2_beginNight 46 = .ok (.getfield 21, 3) := by decide +kernel
theorem dX2_beginNight_49 : decode cX2_beginNight 49 = .ok (.iload_n 1, 1) := by decide +kernel
theorem dX2_beginNight_50 : decode cX2_beginNight 50 = .ok (.aload_n 0, 1) := by decide +kernel
theorem dX2_beginNight_51 : decode cX2_beginNight 51 = .ok (.getfield 18, 3) := by decide +kernel
theorem dX2_beginNight_54 : decode cX2_beginNight 54 = .ok (.iload_n 1, 1) := by decide +kernel
theorem dX2_beginNight_55 : decode cX2_beginNight 55 = .ok (.iaload, 1) := by decide +kernel
theorem dX2_beginNight_56 : decode cX2_beginNight 56 = .ok (.ifCond .le 7, 3) := by decide +kernel
theorem dX2_beginNight_59 : decode cX2_beginNight 59 = .ok (.iconst 1, 1) := by decide +kernel
theorem dX2_beginNight_60 : decode cX2_beginNight 60 = .ok (.goto 4, 3) := by decide +kernel
theorem dX2_beginNight_63 : decode cX2_beginNight 63 = .ok (.iconst 0, 1) := by decide +kernel
theorem dX2_beginNight_64 : decode cX2_beginNight 64 = .ok (.bastore, 1) := by decide +kernel
theorem dX2_beginNight_65 : decode cX2_beginNight 65 = .ok (.iinc 1 1, 3) := by decide +kernel
theorem dX2_beginNight_68 : decode cX2_beginNight 68 = .ok (.goto (-50), 3) := by decide +kernel
theorem dX2_beginNight_71 : decode cX2_beginNight 71 = .ok (.aload_n 0, 1) := by decide +kernel
theorem dX2_beginNight_72 : decode cX2_beginNight 72 = .ok (.invokevirtual 79, 3) := by decide +kernel
theorem dX2_beginNight_75 : decode cX2_beginNight 75 = .ok (.ifCond .eq 21, 3) := by decide +kernel
theorem dX2_beginNight_78 : decode cX2_beginNight 78 = .ok (.aload_n 0, 1) := by decide +kernel
theorem dX2_beginNight_79 : decode cX2_beginNight 79 = .ok (.iconst 0, 1) := by decide +kernel
theorem dX2_beginNight_80 : decode cX2_beginNight 80 = .ok (.invokevirtual 116, 3) := by decide +kernel
theorem dX2_beginNight_83 : decode cX2_beginNight 83 = .ok (.istore_n 1, 1) := by decide +kernel
theorem dX2_beginNight_84 : decode cX2_beginNight 84 = .ok (.iload_n 1, 1) := by decide +kernel
theorem dX2_beginNight_85 : decode cX2_beginNight 85 = .ok (.iconst (-1), 1) := by decide +kernel
theorem dX2_beginNight_86 : decode cX2_beginNight 86 = .ok (.if_icmp .eq 10, 3) := by decide +kernel
theorem dX2_beginNight_89 : decode cX2_beginNight 89 = .ok (.aload_n 0, 1) := by decide +kernel
theorem dX2_beginNight_90 : decode cX2_beginNight 90 = .ok (.getfield 21, 3) := by decide +kernel
theorem dX2_beginNight_93 : decode cX2_beginNight 93 = .ok (.iload_n 1, 1) := by decide +kernel
theorem dX2_beginNight_94 : decode cX2_beginNight 94 = .ok (.iconst 1, 1) := by decide +kernel
theorem dX2_beginNight_95 : decode cX2_beginNight 95 = .ok (.bastore, 1) := by decide +kernel
theorem dX2_beginNight_96 : decode cX2_beginNight 96 = .ok (.return_, 1) := by decide +kernel
theorem dX2_lay_0 : decode cX2_lay 0 = .ok (.iload_n 1, 1) := by decide +kernel
theorem dX2_lay_1 : decode cX2_lay 1 = .ok (.ifCond .lt 25, 3) := by decide +kernel
theorem dX2_lay_4 : decode cX2_lay 4 = .ok (.iload_n 1, 1) := by decide +kernel
theorem dX2_lay_5 : decode cX2_lay 5 = .ok (.aload_n 0, 1) := by decide +kernel
theorem dX2_lay_6 : decode cX2_lay 6 = .ok (.getfield 49, 3) := by decide +kernel
theorem dX2_lay_9 : decode cX2_lay 9 = .ok (.if_icmp .ge 17, 3) := by decide +kernel
theorem dX2_lay_12 : decode cX2_lay 12 = .ok (.aload_n 0, 1) := by decide +kernel
theorem dX2_lay_13 : decode cX2_lay 13 = .ok (.getfield 18, 3) := by decide +kernel
theorem dX2_lay_16 : decode cX2_lay 16 = .ok (.iload_n 1, 1) := by decide +kernel
theorem dX2_lay_17 : decode cX2_lay 17 = .ok (.iload_n 2, 1) := by decide +kernel
theorem dX2_lay_18 : decode cX2_lay 18 = .ok (.iastore, 1) := by decide +kernel
theorem dX2_lay_19 : decode cX2_lay 19 = .ok (.aload_n 0, 1) := by decide +kernel
theorem dX2_lay_20 : decode cX2_lay 20 = .ok (.getfield 21, 3) := by decide +kernel
theorem dX2_lay_23 : decode cX2_lay 23 = .ok (.iload_n 1, 1) := by decide +kernel
theorem dX2_lay_24 : decode cX2_lay 24 = .ok (.iconst 0, 1) := by decide +kernel
theorem dX2_lay_25 : decode cX2_lay 25 = .ok (.bastore, 1) := by decide +kernel
theorem dX2_lay_26 : decode cX2_lay 26 = .ok (.return_, 1) := by decide +kernel
theorem dX2_mendFirst_0 : decode cX2_mendFirst 0 = .ok (.iload_n 1, 1) := by decide +kernel
theorem dX2_mendFirst_1 : decode cX2_mendFirst 1 = .ok (.iconst 1, 1) := by decide +kernel
theorem dX2_mendFirst_2 : decode cX2_mendFirst 2 = .ok (.if_icmp .lt 9, 3) := by decide +kernel
theorem dX2_mendFirst_5 : decode cX2_mendFirst 5 = .ok (.iload_n 1, 1) := by decide +kernel
theorem dX2_mendFirst_6 : decode cX2_mendFirst 6 = .ok (.bipush 30, 2) := by decide +kernel
theorem dX2_mendFirst_8 : decode cX2_mendFirst 8 = .ok (.if_icmp .le 5, 3) := by decide +kernel
theorem dX2_mendFirst_11 : decode cX2_mendFirst 11 = .ok (.iconst 0, 1) := by decide +kernel
theorem dX2_mendFirst_12 : decode cX2_mendFirst 12 = .ok (.ireturn, 1) := by decide +kernel
theorem dX2_mendFirst_13 : decode cX2_mendFirst 13 = .ok (.iconst 0, 1) := by decide +kernel
theorem dX2_mendFirst_14 : decode cX2_mendFirst 14 = .ok (.istore_n 2, 1) := by decide +kernel
theorem dX2_mendFirst_15 : decode cX2_mendFirst 15 = .ok (.iload_n 2, 1) := by decide +kernel
theorem dX2_mendFirst_16 : decode cX2_mendFirst 16 = .ok (.aload_n 0, 1) := by decide +kernel
theorem dX2_mendFirst_17 : decode cX2_mendFirst 17 = .ok (.getfield 49, 3) := by decide +kernel
theorem dX2_mendFirst_20 : decode cX2_mendFirst 20 = .ok (.if_icmp .ge 26, 3) := by decide +kernel
theorem dX2_mendFirst_23 : decode cX2_mendFirst 23 = .ok (.aload_n 0, 1) := by decide +kernel
theorem dX2_mendFirst_24 : decode cX2_mendFirst 24 = .ok (.getfield 18, 3) := by decide +kernel
theorem dX2_mendFirst_27 : decode cX2_mendFirst 27 = .ok (.iload_n 2, 1) := by decide +kernel
theorem dX2_mendFirst_28 : decode cX2_mendFirst 28 = .ok (.iaload, 1) := by decide +kernel
theorem dX2_mendFirst_29 : decode cX2_mendFirst 29 = .ok (.ifCond .ne 11, 3) := by decide +kernel
theorem dX2_mendFirst_32 : decode cX2_mendFirst 32 = .ok (.aload_n 0, 1) := by decide +kernel
theorem dX2_mendFirst_33 : decode cX2_mendFirst 33 = .ok (.iload_n 2, 1) := by decide +kernel
theorem dX2_mendFirst_34 : decode cX2_mendFirst 34 = .ok (.iload_n 1, 1) := by decide +kernel
theorem dX2_mendFirst_35 : decode cX2_mendFirst 35 = .ok (.invokevirtual 109, 3) := by decide +kernel
theorem dX2_mendFirst_38 : decode cX2_mendFirst 38 = .ok (.iconst 1, 1) := by decide +kernel
theorem dX2_mendFirst_39 : decode cX2_mendFirst 39 = .ok (.ireturn, 1) := by decide +kernel
theorem dX2_mendFirst_40 : decode cX2_mendFirst 40 = .ok (.iinc 2 1, 3) := by decide +kernel
theorem dX2_mendFirst_43 : decode cX2_mendFirst 43 = .ok (.goto (-28), 3) := by decide +kernel
theorem dX2_mendFirst_46 : decode cX2_mendFirst 46 = .ok (.iconst 0, 1) := by decide +kernel
theorem dX2_mendFirst_47 : decode cX2_mendFirst 47 = .ok (.ireturn, 1) := by decide +kernel
theorem dX2_writeNote_0 : decode cX2_writeNote 0 = .ok (.aload_n 0, 1) := by decide +kernel
theorem dX2_writeNote_1 : decode cX2_writeNote 1 = .ok (.getfield 70, 3) := by decide +kernel
theorem dX2_writeNote_4 : decode cX2_writeNote 4 = .ok (.bipush 10, 2) := by decide +kernel
theorem dX2_writeNote_6 : decode cX2_writeNote 6 = .ok (.irem, 1) := by decide +kernel
theorem dX2_writeNote_7 : decode cX2_writeNote 7 = .ok (.istore_n 2, 1) := by decide +kernel
theorem dX2_writeNote_8 : decode cX2_writeNote 8 = .ok (.iload_n 2, 1) := by decide +kernel
theorem dX2_writeNote_9 : decode cX2_writeNote 9 = .ok (.ifCond .lt 10, 3) := by decide +kernel
theorem dX2_writeNote_12 : decode cX2_writeNote 12 = .ok (.aload_n 0, 1) := by decide +kernel
theorem dX2_writeNote_13 : decode cX2_writeNote 13 = .ok (.getfield 25, 3) := by decide +kernel
theorem dX2_writeNote_16 : decode cX2_writeNote 16 = .ok (.iload_n 2, 1) := by decide +kernel
theorem dX2_writeNote_17 : decode cX2_writeNote 17 = .ok (.iload_n 1, 1) := by decide +kernel
theorem dX2_writeNote_18 : decode cX2_writeNote 18 = .ok (.iastore, 1) := by decide +kernel
theorem dX2_writeNote_19 : decode cX2_writeNote 19 = .ok (.aload_n 0, 1) := by decide +kernel
theorem dX2_writeNote_20 : decode cX2_writeNote 20 = .ok (.dup, 1) := by decide +kernel
theorem dX2_writeNote_21 : decode cX2_writeNote 21 = .ok (.getfield 70, 3) := by decide +kernel
theorem dX2_writeNote_24 : decode cX2_writeNote 24 = .ok (.iconst 1, 1) := by decide +kernel
theorem dX2_writeNote_25 : decode cX2_writeNote 25 = .ok (.iadd, 1) := by decide +kernel
theorem dX2_writeNote_26 : decode cX2_writeNote 26 = .ok (.putfield 70, 3) := by decide +kernel
theorem dX2_writeNote_29 : decode cX2_writeNote 29 = .ok (.return_, 1) := by decide +kernel
theorem dX2_readNote_0 : decode cX2_readNote 0 = .ok (.aload_n 0, 1) := by decide +kernel
theorem dX2_readNote_1 : decode cX2_readNote 1 = .ok (.getfield 70, 3) := by decide +kernel
theorem dX2_readNote_4 : decode cX2_readNote 4 = .ok (.iconst 1, 1) := by decide +kernel
theorem dX2_readNote_5 : decode cX2_readNote 5 = .ok (.isub, 1) := by decide +kernel
theorem dX2_readNote_6 : decode cX2_readNote 6 = .ok (.iload_n 1, 1) := by decide +kernel
theorem dX2_readNote_7 : decode cX2_readNote 7 = .ok (.isub, 1) := by decide +kernel
theorem dX2_readNote_8 : decode cX2_readNote 8 = .ok (.bipush 10, 2) := by decide +kernel
theorem dX2_readNote_10 : decode cX2_readNote 10 = .ok (.irem, 1) := by decide +kernel
theorem dX2_readNote_11 : decode cX2_readNote 11 = .ok (.istore_n 2, 1) := by decide +kernel
theorem dX2_readNote_12 : decode cX2_readNote 12 = .ok (.iload_n 2, 1) := by decide +kernel
theorem dX2_readNote_13 : decode cX2_readNote 13 = .ok (.ifCond .lt 12, 3) := by decide +kernel
theorem dX2_readNote_16 : decode cX2_readNote 16 = .ok (.aload_n 0, 1) := by decide +kernel
theorem dX2_readNote_17 : decode cX2_readNote 17 = .ok (.getfield 25, 3) := by decide +kernel
theorem dX2_readNote_20 : decode cX2_readNote 20 = .ok (.iload_n 2, 1) := by decide +kernel
theorem dX2_readNote_21 : decode cX2_readNote 21 = .ok (.iaload, 1) := by decide +kernel
theorem dX2_readNote_22 : decode cX2_readNote 22 = .ok (.goto 4, 3) := by decide +kernel
theorem dX2_readNote_25 : decode cX2_readNote 25 = .ok (.iconst 0, 1) := by decide +kernel
theorem dX2_readNote_26 : decode cX2_readNote 26 = .ok (.ireturn, 1) := by decide +kernel
theorem dX2_choose_0 : decode cX2_choose 0 = .ok (.iconst (-1), 1) := by decide +kernel
theorem dX2_choose_1 : decode cX2_choose 1 = .ok (.istore_n 3, 1) := by decide +kernel
theorem dX2_choose_2 : decode cX2_choose 2 = .ok (.iconst 0, 1) := by decide +kernel
theorem dX2_choose_3 : decode cX2_choose 3 = .ok (.istore 4, 2) := by decide +kernel
theorem dX2_choose_5 : decode cX2_choose 5 = .ok (.iconst 0, 1) := by decide +kernel
theorem dX2_choose_6 : decode cX2_choose 6 = .ok (.istore 5, 2) := by decide +kernel
theorem dX2_choose_8 : decode cX2_choose 8 = .ok (.iload 5, 2) := by decide +kernel
theorem dX2_choose_10 : decode cX2_choose 10 = .ok (.aload_n 0, 1) := by decide +kernel
theorem dX2_choose_11 : decode cX2_choose 11 = .ok (.getfield 34, 3) := by decide +kernel
theorem dX2_choose_14 : decode cX2_choose 14 = .ok (.if_icmp .ge 56, 3) := by decide +kernel
theorem dX2_choose_17 : decode cX2_choose 17 = .ok (.iload 5, 2) := by decide +kernel
theorem dX2_choose_19 : decode cX2_choose 19 = .ok (.iload_n 2, 1) := by decide +kernel
theorem dX2_choose_20 : decode cX2_choose 20 = .ok (.if_icmp .eq 44, 3) := by decide +kernel
theorem dX2_choose_23 : decode cX2_choose 23 = .ok (.aload_n 0, 1) := by decide +kernel
theorem dX2_choose_24 : decode cX2_choose 24 = .ok (.iload 5, 2) := by decide +kernel
theorem dX2_choose_26 : decode cX2_choose 26 = .ok (.invokevirtual 91, 3) := by decide +kernel
theorem dX2_choose_29 : decode cX2_choose 29 = .ok (.aload_n 0, 1) := by decide +kernel
theorem dX2_choose_30 : decode cX2_choose 30 = .ok (.getfield 51, 3) := by decide +kernel
theorem dX2_choose_33 : decode cX2_choose 33 = .ok (.if_icmp .ne 31, 3) := by decide +kernel
theorem dX2_choose_36 : decode cX2_choose 36 = .ok (.aload_n 0, 1) := by decide +kernel
theorem dX2_choose_37 : decode cX2_choose 37 = .ok (.aload_n 1, 1) := by decide +kernel
theorem dX2_choose_38 : decode cX2_choose 38 = .ok (.iload 5, 2) := by decide +kernel
theorem dX2_choose_40 : decode cX2_choose 40 = .ok (.invokevirtual 120, 3) := by decide +kernel
theorem dX2_choose_43 : decode cX2_choose 43 = .ok (.istore 6, 2) := by decide +kernel
theorem dX2_choose_45 : decode cX2_choose 45 = .ok (.iload_n 3, 1) := by decide +kernel
theorem dX2_choose_46 : decode cX2_choose 46 = .ok (.iconst (-1), 1) := by decide +kernel
theorem dX2_choose_47 : decode cX2_choose 47 = .ok (.if_icmp .eq 10, 3) := by decide +kernel
theorem dX2_choose_50 : decode cX2_choose 50 = .ok (.iload 6, 2) := by decide +kernel
theorem dX2_choose_52 : decode cX2_choose 52 = .ok (.iload 4, 2) := by decide +kernel
theorem dX2_choose_54 : decode cX2_choose 54 = .ok (.if_icmp .le 10, 3) := by decide +kernel
theorem dX2_choose_57 : decode cX2_choose 57 = .ok (.iload 5, 2) := by decide +kernel
theorem dX2_choose_59 : decode cX2_choose 59 = .ok (.istore_n 3, 1) := by decide +kernel
theorem dX2_choose_60 : decode cX2_choose 60 = .ok (.iload 6, 2) := by decide +kernel
theorem dX2_choose_62 : decode cX2_choose 62 = .ok (.istore 4, 2) := by decide +kernel
theorem dX2_choose_64 : decode cX2_choose 64 = .ok (.iinc 5 1, 3) := by decide +kernel
theorem dX2_choose_67 : decode cX2_choose 67 = .ok (.goto (-59), 3) := by decide +kernel
theorem dX2_choose_70 : decode cX2_choose 70 = .ok (.iload_n 3, 1) := by decide +kernel
theorem dX2_choose_71 : decode cX2_choose 71 = .ok (.ireturn, 1) := by decide +kernel
theorem dX2_rankOf_0 : decode cX2_rankOf 0 = .ok (.aload_n 0, 1) := by decide +kernel
theorem dX2_rankOf_1 : decode cX2_rankOf 1 = .ok (.iload_n 2, 1) := by decide +kernel
theorem dX2_rankOf_2 : decode cX2_rankOf 2 = .ok (.invokevirtual 83, 3) := by decide +kernel
theorem dX2_rankOf_5 : decode cX2_rankOf 5 = .ok (.ifCond .ne 5, 3) := by decide +kernel
theorem dX2_rankOf_8 : decode cX2_rankOf 8 = .ok (.iconst 0, 1) := by decide +kernel
theorem dX2_rankOf_9 : decode cX2_rankOf 9 = .ok (.ireturn, 1) := by decide +kernel
theorem dX2_rankOf_10 : decode cX2_rankOf 10 = .ok (.getstatic 124, 3) := by decide +kernel
theorem dX2_rankOf_13 : decode cX2_rankOf 13 = .ok (.aload_n 1, 1) := by decide +kernel
theorem dX2_rankOf_14 : decode cX2_rankOf 14 = .ok (.invokevirtual 129, 3) := by decide +kernel
theorem dX2_rankOf_17 : decode cX2_rankOf 17 = .ok (.iaload, 1) := by decide +kernel
theorem dX2_rankOf_18 : decode cX2_rankOf 18 = .ok (.tableswitch 49 8 10 #[26, 34, 41], 26) := by decide +kernel
theorem dX2_rankOf_44 : decode cX2_rankOf 44 = .ok (.aload_n 0, 1) := by decide +kernel
theorem dX2_rankOf_45 : decode cX2_rankOf 45 = .ok (.getfield 15, 3) := by decide +kernel
theorem dX2_rankOf_48 : decode cX2_rankOf 48 = .ok (.iload_n 2, 1) := by decide +kernel
theorem dX2_rankOf_49 : decode cX2_rankOf 49 = .ok (.iaload, 1) := by decide +kernel
theorem dX2_rankOf_50 : decode cX2_rankOf 50 = .ok (.ineg, 1) := by decide +kernel
theorem dX2_rankOf_51 : decode cX2_rankOf 51 = .ok (.ireturn, 1) := by decide +kernel
theorem dX2_rankOf_52 : decode cX2_rankOf 52 = .ok (.aload_n 0, 1) := by decide +kernel
theorem dX2_rankOf_53 : decode cX2_rankOf 53 = .ok (.getfield 15, 3) := by decide +kernel
theorem dX2_rankOf_56 : decode cX2_rankOf 56 = .ok (.iload_n 2, 1) := by decide +kernel
theorem dX2_rankOf_57 : decode cX2_rankOf 57 = .ok (.iaload, 1) := by decide +kernel
theorem dX2_rankOf_58 : decode cX2_rankOf 58 = .ok (.ireturn, 1) := by decide +kernel
theorem dX2_rankOf_59 : decode cX2_rankOf 59 = .ok (.aload_n 0, 1) := by decide +kernel
theorem dX2_rankOf_60 : decode cX2_rankOf 60 = .ok (.getfield 9, 3) := by decide +kernel
theorem dX2_rankOf_63 : decode cX2_rankOf 63 = .ok (.iload_n 2, 1) := by decide +kernel
theorem dX2_rankOf_64 : decode cX2_rankOf 64 = .ok (.iaload, 1) := by decide +kernel
theorem dX2_rankOf_65 : decode cX2_rankOf 65 = .ok (.ineg, 1) := by decide +kernel
theorem dX2_rankOf_66 : decode cX2_rankOf 66 = .ok (.ireturn, 1) := by decide +kernel
theorem dX2_rankOf_67 : decode cX2_rankOf 67 = .ok (.aload_n 0, 1) := by decide +kernel
theorem dX2_rankOf_68 : decode cX2_rankOf 68 = .ok (.getfield 9, 3) := by decide +kernel
theorem dX2_rankOf_71 : decode cX2_rankOf 71 = .ok (.iload_n 2, 1) := by decide +kernel
theorem dX2_rankOf_72 : decode cX2_rankOf 72 = .ok (.iaload, 1) := by decide +kernel
theorem dX2_rankOf_73 : decode cX2_rankOf 73 = .ok (.ireturn, 1) := by decide +kernel
theorem dX2_measure_0 : decode cX2_measure 0 = .ok (.getstatic 124, 3) := by decide +kernel
theorem dX2_measure_3 : decode cX2_measure 3 = .ok (.aload_n 1, 1) := by decide +kernel
theorem dX2_measure_4 : decode cX2_measure 4 = .ok (.invokevirtual 129, 3) := by decide +kernel
theorem dX2_measure_7 : decode cX2_measure 7 = .ok (.iaload, 1) := by decide +kernel
theorem dX2_measure_8 : decode cX2_measure 8 = .ok (.tableswitch 70 11 16 #[40, 45, 50, 55, 60, 65], 40) := by decide +kernel
theorem dX2_measure_48 : decode cX2_measure 48 = .ok (.aload_n 0, 1) := by decide +kernel
theorem dX2_measure_49 : decode cX2_measure 49 = .ok (.invokevirtual 135, 3) := by decide +kernel
theorem dX2_measure_52 : decode cX2_measure 52 = .ok (.ireturn, 1) := by decide +kernel
theorem dX2_measure_53 : decode cX2_measure 53 = .ok (.aload_n 0, 1) := by decide +kernel
theorem dX2_measure_54 : decode cX2_measure 54 = .ok (.invokevirtual 138, 3) := by decide +kernel
theorem dX2_measure_57 : decode cX2_measure 57 = .ok (.ireturn, 1) := by decide +kernel
theorem dX2_measure_58 : decode cX2_measure 58 = .ok (.aload_n 0, 1) := by decide +kernel
theorem dX2_measure_59 : decode cX2_measure 59 = .ok (.getfield 55, 3) := by decide +kernel
theorem dX2_measure_62 : decode cX2_measure 62 = .ok (.ireturn, 1) := by decide +kernel
theorem dX2_measure_63 : decode cX2_measure 63 = .ok (.aload_n 0, 1) := by decide +kernel
theorem dX2_measure_64 : decode cX2_measure 64 = .ok (.getfield 61, 3) := by decide +kernel
theorem dX2_measure_67 : decode cX2_measure 67 = .ok (.ireturn, 1) := by decide +kernel
theorem dX2_measure_68 : decode cX2_measure 68 = .ok (.aload_n 0, 1) := by decide +kernel
theorem dX2_measure_69 : decode cX2_measure 69 = .ok (.getfield 58, 3) := by decide +kernel
theorem dX2_measure_72 : decode cX2_measure 72 = .ok (.ireturn, 1) := by decide +kernel
theorem dX2_measure_73 : decode cX2_measure 73 = .ok (.aload_n 0, 1) := by decide +kernel
theorem dX2_measure_74 : decode cX2_measure 74 = .ok (.invokevirtual 141, 3) := by decide +kernel
theorem dX2_measure_77 : decode cX2_measure 77 = .ok (.ireturn, 1) := by decide +kernel
theorem dX2_measure_78 : decode cX2_measure 78 = .ok (.aload_n 0, 1) := by decide +kernel
theorem dX2_measure_79 : decode cX2_measure 79 = .ok (.iconst 1, 1) := by decide +kernel
theorem dX2_measure_80 : decode cX2_measure 80 = .ok (.invokevirtual 116, 3) := by decide +kernel
theorem dX2_measure_83 : decode cX2_measure 83 = .ok (.istore_n 2, 1) := by decide +kernel
theorem dX2_measure_84 : decode cX2_measure 84 = .ok (.iload_n 2, 1) := by decide +kernel
theorem dX2_measure_85 : decode cX2_measure 85 = .ok (.iconst (-1), 1) := by decide +kernel
theorem dX2_measure_86 : decode cX2_measure 86 = .ok (.if_icmp .ne 7, 3) := by decide +kernel
theorem dX2_measure_89 : decode cX2_measure 89 = .ok (.iconst 0, 1) := by decide +kernel
theorem dX2_measure_90 : decode cX2_measure 90 = .ok (.goto 9, 3) := by decide +kernel
theorem dX2_measure_93 : decode cX2_measure 93 = .ok (.aload_n 0, 1) := by decide +kernel
theorem dX2_measure_94 : decode cX2_measure 94 = .ok (.getfield 18, 3) := by decide +kernel
theorem dX2_measure_97 : decode cX2_measure 97 = .ok (.iload_n 2, 1) := by decide +kernel
theorem dX2_measure_98 : decode cX2_measure 98 = .ok (.iaload, 1) := by decide +kernel
theorem dX2_measure_99 : decode cX2_measure 99 = .ok (.ireturn, 1) := by decide +kernel
theorem dX3_withSign_0 : decode cX3_withSign 0 = .ok (.lload_n 0, 1) := by decide +kernel
theorem dX3_withSign_1 : decode cX3_withSign 1 = .ok (.ldc2_w 152, 3) := by decide +kernel
theorem dX3_withSign_4 : decode cX3_withSign 4 = .ok (.lmul, 1) := by decide +kernel
theorem dX3_withSign_5 : decode cX3_withSign 5 = .ok (.iload_n 2, 1) := by decide +kernel
theorem dX3_withSign_6 : decode cX3_withSign 6 = .ok (.i2l, 1) := by decide +kernel
theorem dX3_withSign_7 : decode cX3_withSign 7 = .ok (.ladd, 1) := by decide +kernel
theorem dX3_withSign_8 : decode cX3_withSign 8 = .ok (.lreturn, 1) := by decide +kernel
theorem dX3_spelled_0 : decode cX3_spelled 0 = .ok (.iconst 0, 1) := by decide +kernel
theorem dX3_spelled_1 : decode cX3_spelled 1 = .ok (.istore_n 3, 1) := by decide +kernel
theorem dX3_spelled_2 : decode cX3_spelled 2 = .ok (.iload_n 3, 1) := by decide +kernel
theorem dX3_spelled_3 : decode cX3_spelled 3 = .ok (.getstatic 154, 3) := by decide +kernel
theorem dX3_spelled_6 : decode cX3_spelled 6 = .ok (.arraylength, 1) := by decide +kernel
theorem dX3_spelled_7 : decode cX3_spelled 7 = .ok (.if_icmp .ge 28, 3) := by decide +kernel
theorem dX3_spelled_10 : decode cX3_spelled 10 = .ok (.getstatic 154, 3) := by decide +kernel
theorem dX3_spelled_13 : decode cX3_spelled 13 = .ok (.iload_n 3, 1) := by decide +kernel
theorem dX3_spelled_14 : decode cX3_spelled 14 = .ok (.aaload, 1) := by decide +kernel
theorem dX3_spelled_15 : decode cX3_spelled 15 = .ok (.getfield 148, 3) := by decide +kernel
theorem dX3_spelled_18 : decode cX3_spelled 18 = .ok (.lload_n 0, 1) := by decide +kernel
theorem dX3_spelled_19 : decode cX3_spelled 19 = .ok (.lcmp, 1) := by decide +kernel
theorem dX3_spelled_20 : decode cX3_spelled 20 = .ok (.ifCond .ne 9, 3) := by decide +kernel
theorem dX3_spelled_23 : decode cX3_spelled 23 = .ok (.getstatic 154, 3) := by decide +kernel
theorem dX3_spelled_26 : decode cX3_spelled 26 = .ok (.iload_n 3, 1) := by decide +kernel
theorem dX3_spelled_27 : decode cX3_spelled 27 = .ok (.aaload, 1) := by decide +kernel
theorem dX3_spelled_28 : decode cX3_spelled 28 = .ok (.areturn, 1) := by decide +kernel
theorem dX3_spelled_29 : decode cX3_spelled 29 = .ok (.iinc 3 1, 3) := by decide +kernel
theorem dX3_spelled_32 : decode cX3_spelled 32 = .ok (.goto (-30), 3) := by decide +kernel
theorem dX3_spelled_35 : decode cX3_spelled 35 = .ok (.aload_n 2, 1) := by decide +kernel
theorem dX3_spelled_36 : decode cX3_spelled 36 = .ok (.areturn, 1) := by decide +kernel
theorem dX3_isChoice_0 : decode cX3_isChoice 0 = .ok (.aload_n 0, 1) := by decide +kernel
theorem dX3_isChoice_1 : decode cX3_isChoice 1 = .ok (.getstatic 82, 3) := by decide +kernel
theorem dX3_isChoice_4 : decode cX3_isChoice 4 = .ok (.if_acmp .eq 24, 3) := by decide +kernel
theorem dX3_isChoice_7 : decode cX3_isChoice 7 = .ok (.aload_n 0, 1) := by decide +kernel
theorem dX3_isChoice_8 : decode cX3_isChoice 8 = .ok (.getstatic 85, 3) := by decide +kernel
theorem dX3_isChoice_11 : decode cX3_isChoice 11 = .ok (.if_acmp .eq 17, 3) := by decide +kernel
theorem dX3_isChoice_14 : decode cX3_isChoice 14 = .ok (.aload_n 0, 1) := by decide +kernel
theorem dX3_isChoice_15 : decode cX3_isChoice 15 = .ok (.getstatic 88, 3) := by decide +kernel
theorem dX3_isChoice_18 : decode cX3_isChoice 18 = .ok (.if_acmp .eq 10, 3) := by decide +kernel
theorem dX3_isChoice_21 : decode cX3_isChoice 21 = .ok (.aload_n 0, 1) := by decide +kernel
theorem dX3_isChoice_22 : decode cX3_isChoice 22 = .ok (.getstatic 91, 3) := by decide +kernel
theorem dX3_isChoice_25 : decode cX3_isChoice 25 = .ok (.if_acmp .ne 7, 3) := by decide +kernel
theorem dX3_isChoice_28 : decode cX3_isChoice 28 = .ok (.iconst 1, 1) := by decide +kernel
theorem dX3_isChoice_29 : decode cX3_isChoice 29 = .ok (.goto 4, 3) := by decide +kernel
theorem dX3_isChoice_32 : decode cX3_isChoice 32 = .ok (.iconst 0, 1) := by decide +kernel
theorem dX3_isChoice_33 : decode cX3_isChoice 33 = .ok (.ireturn, 1) := by decide +kernel
theorem dX3_isMeasure_0 : decode cX3_isMeasure 0 = .ok (.aload_n 0, 1) := by decide +kernel
theorem dX3_isMeasure_1 : decode cX3_isMeasure 1 = .ok (.getstatic 94, 3) := by decide +kernel
theorem dX3_isMeasure_4 : decode cX3_isMeasure 4 = .ok (.if_acmp .eq 45, 3) := by decide +kernel
theorem dX3_isMeasure_7 : decode cX3_isMeasure 7 = .ok (.aload_n 0, 1) := by decide +kernel
theorem dX3_isMeasure_8 : decode cX3_isMeasure 8 = .ok (.getstatic 97, 3) := by decide +kernel
theorem dX3_isMeasure_11 : decode cX3_isMeasure 11 = .ok (.if_acmp .eq 38, 3) := by decide +kernel
theorem dX3_isMeasure_14 : decode cX3_isMeasure 14 = .ok (.aload_n 0, 1) := by decide +kernel
theorem dX3_isMeasure_15 : decode cX3_isMeasure 15 = .ok (.getstatic 100, 3) := by decide +kernel
theorem dX3_isMeasure_18 : decode cX3_isMeasure 18 = .ok (.if_acmp .eq 31, 3) := by decide +kernel
theorem dX3_isMeasure_21 : decode cX3_isMeasure 21 = .ok (.aload_n 0, 1) := by decide +kernel
theorem dX3_isMeasure_22 : decode cX3_isMeasure 22 = .ok (.getstatic 103, 3) := by decide +kernel
theorem dX3_isMeasure_25 : decode cX3_isMeasure 25 = .ok (.if_acmp .eq 24, 3) := by decide +kernel
theorem dX3_isMeasure_28 : decode cX3_isMeasure 28 = .ok (.aload_n 0, 1) := by decide +kernel
theorem dX3_isMeasure_29 : decode cX3_isMeasure 29 = .ok (.getstatic 106, 3) := by decide +kernel
theorem dX3_isMeasure_32 : decode cX3_isMeasure 32 = .ok (.if_acmp .eq 17, 3) := by decide +kernel
theorem dX3_isMeasure_35 : decode cX3_isMeasure 35 = .ok (.aload_n 0, 1) := by decide +kernel
theorem dX3_isMeasure_36 : decode cX3_isMeasure 36 = .ok (.getstatic 109, 3) := by decide +kernel
theorem dX3_isMeasure_39 : decode cX3_isMeasure 39 = .ok (.if_acmp .eq 10, 3) := by decide +kernel
theorem dX3_isMeasure_42 : decode cX3_isMeasure 42 = .ok (.aload_n 0, 1) := by decide +kernel
theorem dX3_isMeasure_43 : decode cX3_isMeasure 43 = .ok (.getstatic 112, 3) := by decide +kernel
theorem dX3_isMeasure_46 : decode cX3_isMeasure 46 = .ok (.if_acmp .ne 7, 3) := by decide +kernel
theorem dX3_isMeasure_49 : decode cX3_isMeasure 49 = .ok (.iconst 1, 1) := by decide +kernel
theorem dX3_isMeasure_50 : decode cX3_isMeasure 50 = .ok (.goto 4, 3) := by decide +kernel
theorem dX3_isMeasure_53 : decode cX3_isMeasure 53 = .ok (.iconst 0, 1) := by decide +kernel
theorem dX3_isMeasure_54 : decode cX3_isMeasure 54 = .ok (.ireturn, 1) := by decide +kernel
theorem dX3_isComparison_0 : decode cX3_isComparison 0 = .ok (.aload_n 0, 1) := by decide +kernel
theorem dX3_isComparison_1 : decode cX3_isComparison 1 = .ok (.getstatic 28, 3) := by decide +kernel
theorem dX3_isComparison_4 : decode cX3_isComparison 4 = .ok (.if_acmp .eq 17, 3) := by decide +kernel
theorem dX3_isComparison_7 : decode cX3_isComparison 7 = .ok (.aload_n 0, 1) := by decide +kernel
theorem dX3_isComparison_8 : decode cX3_isComparison 8 = .ok (.getstatic 31, 3) := by decide +kernel
theorem dX3_isComparison_11 : decode cX3_isComparison 11 = .ok (.if_acmp .eq 10, 3) := by decide +kernel
theorem dX3_isComparison_14 : decode cX3_isComparison 14 = .ok (.aload_n 0, 1) := by decide +kernel
theorem dX3_isComparison_15 : decode cX3_isComparison 15 = .ok (.getstatic 34, 3) := by decide +kernel
theorem dX3_isComparison_18 : decode cX3_isComparison 18 = .ok (.if_acmp .ne 7, 3) := by decide +kernel
theorem dX3_isComparison_21 : decode cX3_isComparison 21 = .ok (.iconst 1, 1) := by decide +kernel
theorem dX3_isComparison_22 : decode cX3_isComparison 22 = .ok (.goto 4, 3) := by decide +kernel
theorem dX3_isComparison_25 : decode cX3_isComparison 25 = .ok (.iconst 0, 1) := by decide +kernel
theorem dX3_isComparison_26 : decode cX3_isComparison 26 = .ok (.ireturn, 1) := by decide +kernel
theorem dX4_init_0 : decode cX4_init 0 = .ok (.aload_n 0, 1) := by decide +kernel
theorem dX4_init_1 : decode cX4_init 1 = .ok (.invokespecial 3, 3) := by decide +kernel
theorem dX4_init_4 : decode cX4_init 4 = .ok (.aload_n 0, 1) := by decide +kernel
theorem dX4_init_5 : decode cX4_init 5 = .ok (.aload_n 1, 1) := by decide +kernel
theorem dX4_init_6 : decode cX4_init 6 = .ok (.putfield 9, 3) := by decide +kernel
theorem dX4_init_9 : decode cX4_init 9 = .ok (.aload_n 0, 1) := by decide +kernel
theorem dX4_init_10 : decode cX4_init 10 = .ok (.aload_n 1, 1) := by decide +kernel
theorem dX4_init_11 : decode cX4_init 11 = .ok (.getfield 15, 3) := by decide +kernel
theorem dX4_init_14 : decode cX4_init 14 = .ok (.putfield 21, 3) := by decide +kernel
theorem dX4_init_17 : decode cX4_init 17 = .ok (.aload_n 0, 1) := by decide +kernel
theorem dX4_init_18 : decode cX4_init 18 = .ok (.getstatic 22, 3) := by decide +kernel
theorem dX4_init_21 : decode cX4_init 21 = .ok (.putfield 28, 3) := by decide +kernel
theorem dX4_init_24 : decode cX4_init 24 = .ok (.aload_n 0, 1) := by decide +kernel
theorem dX4_init_25 : decode cX4_init 25 = .ok (.iconst (-1), 1) := by decide +kernel
theorem dX4_init_26 : decode cX4_init 26 = .ok (.putfield 31, 3) := by decide +kernel
theorem dX4_init_29 : decode cX4_init 29 = .ok (.return_, 1) := by decide +kernel
theorem dX4_open_0 : decode cX4_open 0 = .ok (.aload_n 0, 1) := by decide +kernel
theorem dX4_open_1 : decode cX4_open 1 = .ok (.aload_n 2, 1) := by decide +kernel
theorem dX4_open_2 : decode cX4_open 2 = .ok (.putfield 9, 3) := by decide +kernel
theorem dX4_open_5 : decode cX4_open 5 = .ok (.aload_n 0, 1) := by decide +kernel
theorem dX4_open_6 : decode cX4_open 6 = .ok (.aload_n 2, 1) := by decide +kernel
theorem dX4_open_7 : decode cX4_open 7 = .ok (.getfield 15, 3) := by decide +kernel
theorem dX4_open_10 : decode cX4_open 10 = .ok (.putfield 21, 3) := by decide +kernel
theorem dX4_open_13 : decode cX4_open 13 = .ok (.aload_n 0, 1) := by decide +kernel
theorem dX4_open_14 : decode cX4_open 14 = .ok (.getfield 9, 3) := by decide +kernel
theorem dX4_open_17 : decode cX4_open 17 = .ok (.invokevirtual 35, 3) := by decide +kernel
theorem dX4_open_20 : decode cX4_open 20 = .ok (.aload_n 0, 1) := by decide +kernel
theorem dX4_open_21 : decode cX4_open 21 = .ok (.getfield 21, 3) := by decide +kernel
theorem dX4_open_24 : decode cX4_open 24 = .ok (.aload_n 1, 1) := by decide +kernel
theorem dX4_open_25 : decode cX4_open 25 = .ok (.invokevirtual 38, 3) := by decide +kernel
theorem dX4_open_28 : decode cX4_open 28 = .ok (.aload_n 0, 1) := by decide +kernel
theorem dX4_open_29 : decode cX4_open 29 = .ok (.iconst 0, 1) := by decide +kernel
theorem dX4_open_30 : decode cX4_open 30 = .ok (.putfield 44, 3) := by decide +kernel
theorem dX4_open_33 : decode cX4_open 33 = .ok (.aload_n 0, 1) := by decide +kernel
theorem dX4_open_34 : decode cX4_open 34 = .ok (.aload_n 0, 1) := by decide +kernel
theorem dX4_open_35 : decode cX4_open 35 = .ok (.getfield 21, 3) := by decide +kernel
theorem dX4_open_38 : decode cX4_open 38 = .ok (.iconst 0, 1) := by decide +kernel
theorem dX4_open_39 : decode cX4_open 39 = .ok (.invokevirtual 47, 3) := by decide +kernel
theorem dX4_open_42 : decode cX4_open 42 = .ok (.putfield 28, 3) := by decide +kernel
theorem dX4_open_45 : decode cX4_open 45 = .ok (.aload_n 0, 1) := by decide +kernel
theorem dX4_open_46 : decode cX4_open 46 = .ok (.iconst 0, 1) := by decide +kernel
theorem dX4_open_47 : decode cX4_open 47 = .ok (.putfield 51, 3) := by decide +kernel
theorem dX4_open_50 : decode cX4_open 50 = .ok (.aload_n 0, 1) := by decide +kernel
theorem dX4_open_51 : decode cX4_open 51 = .ok (.iconst (-1), 1) := by decide +kernel
theorem dX4_open_52 : decode cX4_open 52 = .ok (.putfield 31, 3) := by decide +kernel
theorem dX4_open_55 : decode cX4_open 55 = .ok (.return_, 1) := by decide +kernel
theorem dX4_close_0 : decode cX4_close 0 = .ok (.iload_n 1, 1) := by decide +kernel
theorem dX4_close_1 : decode cX4_close 1 = .ok (.ifCond .eq 13, 3) := by decide +kernel
theorem dX4_close_4 : decode cX4_close 4 = .ok (.aload_n 0, 1) := by decide +kernel
theorem dX4_close_5 : decode cX4_close 5 = .ok (.getfield 28, 3) := by decide +kernel
theorem dX4_close_8 : decode cX4_close 8 = .ok (.getstatic 54, 3) := by decide +kernel
theorem dX4_close_11 : decode cX4_close 11 = .ok (.if_acmp .eq 16, 3) := by decide +kernel
theorem dX4_close_14 : decode cX4_close 14 = .ok (.aload_n 0, 1) := by decide +kernel
theorem dX4_close_15 : decode cX4_close 15 = .ok (.iconst 1, 1) := by decide +kernel
theorem dX4_close_16 : decode cX4_close 16 = .ok (.putfield 51, 3) := by decide +kernel
theorem dX4_close_19 : decode cX4_close 19 = .ok (.aload_n 0, 1) := by decide +kernel
theorem dX4_close_20 : decode cX4_close 20 = .ok (.aload_n 0, 1) := by decide +kernel
theorem dX4_close_21 : decode cX4_close 21 = .ok (.getfield 44, 3) := by decide +kernel
theorem dX4_close_24 : decode cX4_close 24 = .ok (.putfield 31, 3) := by decide +kernel
theorem dX4_close_27 : decode cX4_close 27 = .ok (.aload_n 0, 1) := by decide +kernel
theorem dX4_close_28 : decode cX4_close 28 = .ok (.getfield 51, 3) := by decide +kernel
theorem dX4_close_31 : decode cX4_close 31 = .ok (.ireturn, 1) := by decide +kernel
theorem dX4_errorPosition_0 : decode cX4_errorPosition 0 = .ok (.aload_n 0, 1) := by decide +kernel
theorem dX4_errorPosition_1 : decode cX4_errorPosition 1 = .ok (.getfield 21, 3) := by decide +kernel
theorem dX4_errorPosition_4 : decode cX4_errorPosition 4 = .ok (.aload_n 0, 1) := by decide +kernel
theorem dX4_errorPosition_5 : decode cX4_errorPosition 5 = .ok (.getfield 31, 3) := by decide +kernel
theorem dX4_errorPosition_8 : decode cX4_errorPosition 8 = .ok (.invokevirtual 57, 3) := by decide +kernel
theorem dX4_errorPosition_11 : decode cX4_errorPosition 11 = .ok (.ireturn, 1) := by decide +kernel
theorem dX4_readWalkers_0 : decode cX4_readWalkers 0 = .ok (.iconst 0, 1) := by decide +kernel
theorem dX4_readWalkers_1 : decode cX4_readWalkers 1 = .ok (.istore_n 1, 1) := by decide +kernel
theorem dX4_readWalkers_2 : decode cX4_readWalkers 2 = .ok (.iload_n 1, 1) := by decide +kernel
theorem dX4_readWalkers_3 : decode cX4_readWalkers 3 = .ok (.sipush 400, 3) := by decide +kernel
theorem dX4_readWalkers_6 : decode cX4_readWalkers 6 = .ok (.if_icmp .ge 157, 3) := by decide +kernel
theorem dX4_readWalkers_9 : decode cX4_readWalkers 9 = .ok (.aload_n 0, 1) := by decide +kernel
theorem dX4_readWalkers_10 : decode cX4_readWalkers 10 = .ok (.getfield 28, 3) := by decide +kernel
theorem dX4_readWalkers_13 : decode cX4_readWalkers 13 = .ok (.getstatic 61, 3) := by decide +kernel
theorem dX4_readWalkers_16 : decode cX4_readWalkers 16 = .ok (.if_acmp .ne 147, 3) := by decide +kernel
theorem dX4_readWalkers_19 : decode cX4_readWalkers 19 = .ok (.aload_n 0, 1) := by decide +kernel
theorem dX4_readWalkers_20 : decode cX4_readWalkers 20 = .ok (.getfield 44, 3) := by decide +kernel
theorem dX4_readWalkers_23 : decode cX4_readWalkers 23 = .ok (.istore_n 2, 1) := by decide +kernel
theorem dX4_readWalkers_24 : decode cX4_readWalkers 24 = .ok (.aload_n 0, 1) := by decide +kernel
theorem dX4_readWalkers_25 : decode cX4_readWalkers 25 = .ok (.getstatic 61, 3) := by decide +kernel
theorem dX4_readWalkers_28 : decode cX4_readWalkers 28 = .ok (.invokevirtual 64, 3) := by decide +kernel
theorem dX4_readWalkers_31 : decode cX4_readWalkers 31 = .ok (.ifCond .eq 81, 3) := by decide +kernel
theorem dX4_readWalkers_34 : decode cX4_readWalkers 34 = .ok (.aload_n 0, 1) := by decide +kernel
theorem dX4_readWalkers_35 : decode cX4_readWalkers 35 = .ok (.aload_n 0, 1) := by decide +kernel
theorem dX4_readWalkers_36 : decode cX4_readWalkers 36 = .ok (.getfield 9, 3) := by decide +kernel
theorem dX4_readWalkers_39 : decode cX4_readWalkers 39 = .ok (.getfield 68, 3) := by decide +kernel
theorem dX4_readWalkers_42 : decode cX4_readWalkers 42 = .ok (.bipush 8, 2) := by decide +kernel
theorem dX4_readWalkers_44 : decode cX4_readWalkers 44 = .ok (.if_icmp .lt 7, 3) := by decide +kernel
theorem dX4_readWalkers_47 : decode cX4_readWalkers 47 = .ok (.iconst 1, 1) := by decide +kernel
theorem dX4_readWalkers_48 : decode cX4_readWalkers 48 = .ok (.goto 4, 3) := by decide +kernel
theorem dX4_readWalkers_51 : decode cX4_readWalkers 51 = .ok (.iconst 0, 1) := by decide +kernel
theorem dX4_readWalkers_52 : decode cX4_readWalkers 52 = .ok (.invokevirtual 71, 3) := by decide +kernel
theorem dX4_readWalkers_55 : decode cX4_readWalkers 55 = .ok (.ifCond .eq 57, 3) := by decide +kernel
theorem dX4_readWalkers_58 : decode cX4_readWalkers 58 = .ok (.aload_n 0, 1) := by decide +kernel
theorem dX4_readWalkers_59 : decode cX4_readWalkers 59 = .ok (.getstatic 75, 3) := by decide +kernel
theorem dX4_readWalkers_62 : decode cX4_readWalkers 62 = .ok (.invokevirtual 64, 3) := by decide +kernel
theorem dX4_readWalkers_65 : decode cX4_readWalkers 65 = .ok (.ifCond .eq 47, 3) := by decide +kernel
theorem dX4_readWalkers_68 : decode cX4_readWalkers 68 = .ok (.aload_n 0, 1) := by decide +kernel
theorem dX4_readWalkers_69 : decode cX4_readWalkers 69 = .ok (.iconst 1, 1) := by decide +kernel
theorem dX4_readWalkers_70 : decode cX4_readWalkers 70 = .ok (.bipush 9, 2) := by decide +kernel
theorem dX4_readWalkers_72 : decode cX4_readWalkers 72 = .ok (.invokevirtual 78, 3) := by decide +kernel
theorem dX4_readWalkers_75 : decode cX4_readWalkers 75 = .ok (.ifCond .eq 37, 3) := by decide +kernel
theorem dX4_readWalkers_78 : decode cX4_readWalkers 78 = .ok (.aload_n 0, 1) := by decide +kernel
theorem dX4_readWalkers_79 : decode cX4_readWalkers 79 = .ok (.getstatic 82, 3) := by decide +kernel
theorem dX4_readWalkers_82 : decode cX4_readWalkers 82 = .ok (.invokevirtual 64, 3) := by decide +kernel
theorem dX4_readWalkers_85 : decode cX4_readWalkers 85 = .ok (.ifCond .eq 27, 3) := by decide +kernel
theorem dX4_readWalkers_88 : decode cX4_readWalkers 88 = .ok (.aload_n 0, 1) := by decide +kernel
theorem dX4_readWalkers_89 : decode cX4_readWalkers 89 = .ok (.iconst 1, 1) := by decide +kernel
theorem dX4_readWalkers_90 : decode cX4_readWalkers 90 = .ok (.bipush 20, 2) := by decide +kernel
theorem dX4_readWalkers_92 : decode cX4_readWalkers 92 = .ok (.invokevirtual 78, 3) := by decide +kernel
theorem dX4_readWalkers_95 : decode cX4_readWalkers 95 = .ok (.ifCond .eq 17, 3) := by decide +kernel
theorem dX4_readWalkers_98 : decode cX4_readWalkers 98 = .ok (.aload_n 0, 1) := by decide +kernel
theorem dX4_readWalkers_99 : decode cX4_readWalkers 99 = .ok (.getstatic 85, 3) := by decide +kernel
theorem dX4_readWalkers_102 : decode cX4_readWalkers 102 = .ok (.invokevirtual 64, 3) := by decide +kernel
theorem dX4_readWalkers_105 : decode cX4_readWalkers 105 = .ok (.ifCond .eq 7, 3) := by decide +kernel
theorem dX4_readWalkers_108 : decode cX4_readWalkers 108 = .ok (.iconst 1, 1) := by decide +kernel
theorem dX4_readWalkers_109 : decode cX4_readWalkers 109 = .ok (.goto 4, 3) := by decide +kernel
theorem dX4_readWalkers_112 : decode cX4_readWalkers 112 = .ok (.iconst 0, 1) := by decide +kernel
theorem dX4_readWalkers_113 : decode cX4_readWalkers 113 = .ok (.istore_n 3, 1) := by decide +kernel
theorem dX4_readWalkers_114 : decode cX4_readWalkers 114 = .ok (.iload_n 3, 1) := by decide +kernel
theorem dX4_readWalkers_115 : decode cX4_readWalkers 115 = .ok (.ifCond .ne 5, 3) := by decide +kernel
theorem dX4_readWalkers_118 : decode cX4_readWalkers 118 = .ok (.iconst 0, 1) := by decide +kernel
theorem dX4_readWalkers_119 : decode cX4_readWalkers 119 = .ok (.ireturn, 1) := by decide +kernel
theorem dX4_readWalkers_120 : decode cX4_readWalkers 120 = .ok (.aload_n 0, 1) := by decide +kernel
theorem dX4_readWalkers_121 : decode cX4_readWalkers 121 = .ok (.getfield 9, 3) := by decide +kernel
theorem dX4_readWalkers_124 : decode cX4_readWalkers 124 = .ok (.aload_n 0, 1) := by decide +kernel
theorem dX4_readWalkers_125 : decode cX4_readWalkers 125 = .ok (.getfield 21, 3) := by decide +kernel
theorem dX4_readWalkers_128 : decode cX4_readWalkers 128 = .ok (.iload_n 2, 1) := by decide +kernel
theorem dX4_readWalkers_129 : decode cX4_readWalkers 129 = .ok (.iconst 1, 1) := by decide +kernel
theorem dX4_readWalkers_130 : decode cX4_readWalkers 130 = .ok (.iadd, 1) := by decide +kernel
theorem dX4_readWalkers_131 : decode cX4_readWalkers 131 = .ok (.invokevirtual 88, 3) := by decide +kernel
theorem dX4_readWalkers_134 : decode cX4_readWalkers 134 = .ok (.aload_n 0, 1) := by decide +kernel
theorem dX4_readWalkers_135 : decode cX4_readWalkers 135 = .ok (.getfield 21, 3) := by decide +kernel
theorem dX4_readWalkers_138 : decode cX4_readWalkers 138 = .ok (.iload_n 2, 1) := by decide +kernel
theorem dX4_readWalkers_139 : decode cX4_readWalkers 139 = .ok (.iconst 3, 1) := by decide +kernel
theorem dX4_readWalkers_140 : decode cX4_readWalkers 140 = .ok (.iadd, 1) := by decide +kernel
theorem dX4_readWalkers_141 : decode cX4_readWalkers 141 = .ok (.invokevirtual 92, 3) := by decide +kernel
theorem dX4_readWalkers_144 : decode cX4_readWalkers 144 = .ok (.aload_n 0, 1) := by decide +kernel
theorem dX4_readWalkers_145 : decode cX4_readWalkers 145 = .ok (.getfield 21, 3) := by decide +kernel
theorem dX4_readWalkers_148 : decode cX4_readWalkers 148 = .ok (.iload_n 2, 1) := by decide +kernel
theorem dX4_readWalkers_149 : decode cX4_readWalkers 149 = .ok (.iconst 5, 1) := by decide +kernel
theorem dX4_readWalkers_150 : decode cX4_readWalkers 150 = .ok (.iadd, 1) := by decide +kernel
theorem dX4_readWalkers_151 : decode cX4_readWalkers 151 = .ok (.invokevirtual 92, 3) := by decide +kernel
theorem dX4_readWalkers_154 : decode cX4_readWalkers 154 = .ok (.invokevirtual 95, 3) := by decide +kernel
theorem dX4_readWalkers_157 : decode cX4_readWalkers 157 = .ok (.iinc 1 1, 3) := by decide +kernel
theorem dX4_readWalkers_160 : decode cX4_readWalkers 160 = .ok (.goto (-158), 3) := by decide +kernel
theorem dX4_readWalkers_163 : decode cX4_readWalkers 163 = .ok (.iconst 1, 1) := by decide +kernel
theorem dX4_readWalkers_164 : decode cX4_readWalkers 164 = .ok (.ireturn, 1) := by decide +kernel
theorem dX4_readPlanks_0 : decode cX4_readPlanks 0 = .ok (.aload_n 0, 1) := by decide +kernel
theorem dX4_readPlanks_1 : decode cX4_readPlanks 1 = .ok (.getstatic 99, 3) := by decide +kernel
theorem dX4_readPlanks_4 : decode cX4_readPlanks 4 = .ok (.invokevirtual 64, 3) := by decide +kernel
theorem dX4_readPlanks_7 : decode cX4_readPlanks 7 = .ok (.ifCond .eq 10, 3) := by decide +kernel
theorem dX4_readPlanks_10 : decode cX4_readPlanks 10 = .ok (.aload_n 0, 1) := by decide +kernel
theorem dX4_readPlanks_11 : decode cX4_readPlanks 11 = .ok (.invokevirtual 102, 3) := by decide +kernel
theorem dX4_readPlanks_14 : decode cX4_readPlanks 14 = .ok (.ifCond .ne 5, 3) := by decide +kernel
theorem dX4_readPlanks_17 : decode cX4_readPlanks 17 = .ok (.iconst 0, 1) := by decide +kernel
theorem dX4_readPlanks_18 : decode cX4_readPlanks 18 = .ok (.ireturn, 1) := by decide +kernel
theorem dX4_readPlanks_19 : decode cX4_readPlanks 19 = .ok (.iconst 0, 1) := by decide +kernel
theorem dX4_readPlanks_20 : decode cX4_readPlanks 20 = .ok (.istore_n 1, 1) := by decide +kernel
theorem dX4_readPlanks_21 : decode cX4_readPlanks 21 = .ok (.iload_n 1, 1) := by decide +kernel
theorem dX4_readPlanks_22 : decode cX4_readPlanks 22 = .ok (.sipush 400, 3) := by decide +kernel
theorem dX4_readPlanks_25 : decode cX4_readPlanks 25 = .ok (.if_icmp .ge 38, 3) := by decide +kernel
theorem dX4_readPlanks_28 : decode cX4_readPlanks 28 = .ok (.aload_n 0, 1) := by decide +kernel
theorem dX4_readPlanks_29 : decode cX4_readPlanks 29 = .ok (.getfield 28, 3) := by decide +kernel
theorem dX4_readPlanks_32 : decode cX4_readPlanks 32 = .ok (.getstatic 106, 3) := by decide +kernel
theorem dX4_readPlanks_35 : decode cX4_readPlanks 35 = .ok (.if_acmp .ne 28, 3) := by decide +kernel
theorem dX4_readPlanks_38 : decode cX4_readPlanks 38 = .ok (.aload_n 0, 1) := by decide +kernel
theorem dX4_readPlanks_39 : decode cX4_readPlanks 39 = .ok (.getstatic 106, 3) := by decide +kernel
theorem dX4_readPlanks_42 : decode cX4_readPlanks 42 = .ok (.invokevirtual 64, 3) := by decide +kernel
theorem dX4_readPlanks_45 : decode cX4_readPlanks 45 = .ok (.ifCond .eq 10, 3) := by decide +kernel
theorem dX4_readPlanks_48 : decode cX4_readPlanks 48 = .ok (.aload_n 0, 1) := by decide +kernel
theorem dX4_readPlanks_49 : decode cX4_readPlanks 49 = .ok (.invokevirtual 102, 3) := by decide +kernel
theorem dX4_readPlanks_52 : decode cX4_readPlanks 52 = .ok (.ifCond .ne 5, 3) := by decide +kernel
theorem dX4_readPlanks_55 : decode cX4_readPlanks 55 = .ok (.iconst 0, 1) := by decide +kernel
theorem dX4_readPlanks_56 : decode cX4_readPlanks 56 = .ok (.ireturn, 1) := by decide +kernel
theorem dX4_readPlanks_57 : decode cX4_readPlanks 57 = .ok (.iinc 1 1, 3) := by decide +kernel
theorem dX4_readPlanks_60 : decode cX4_readPlanks 60 = .ok (.goto (-39), 3) := by decide +kernel
theorem dX4_readPlanks_63 : decode cX4_readPlanks 63 = .ok (.aload_n 0, 1) := by decide +kernel
theorem dX4_readPlanks_64 : decode cX4_readPlanks 64 = .ok (.getfield 9, 3) := by decide +kernel
theorem dX4_readPlanks_67 : decode cX4_readPlanks 67 = .ok (.getfield 109, 3) := by decide +kernel
theorem dX4_readPlanks_70 : decode cX4_readPlanks 70 = .ok (.iconst 4, 1) := by decide +kernel
theorem dX4_readPlanks_71 : decode cX4_readPlanks 71 = .ok (.if_icmp .ge 8, 3) := by decide +kernel
theorem dX4_readPlanks_74 : decode cX4_readPlanks 74 = .ok (.aload_n 0, 1) := by decide +kernel
theorem dX4_readPlanks_75 : decode cX4_readPlanks 75 = .ok (.iconst 5, 1) := by decide +kernel
theorem dX4_readPlanks_76 : decode cX4_readPlanks 76 = .ok (.invokevirtual 112, 3) := by decide +kernel
theorem dX4_readPlanks_79 : decode cX4_readPlanks 79 = .ok (.aload_n 0, 1) := by decide +kernel
theorem dX4_readPlanks_80 : decode cX4_readPlanks 80 = .ok (.getstatic 85, 3) := by decide +kernel
theorem dX4_readPlanks_83 : decode cX4_readPlanks 83 = .ok (.invokevirtual 64, 3) := by decide +kernel
theorem dX4_readPlanks_86 : decode cX4_readPlanks 86 = .ok (.ireturn, 1) := by decide +kernel
theorem dX4_readPlans_0 : decode cX4_readPlans 0 = .ok (.iconst 0, 1) := by decide +kernel
theorem dX4_readPlans_1 : decode cX4_readPlans 1 = .ok (.istore_n 1, 1) := by decide +kernel
theorem dX4_readPlans_2 : decode cX4_readPlans 2 = .ok (.iload_n 1, 1) := by decide +kernel
theorem dX4_readPlans_3 : decode cX4_readPlans 3 = .ok (.sipush 400, 3) := by decide +kernel
theorem dX4_readPlans_6 : decode cX4_readPlans 6 = .ok (.if_icmp .ge 114, 3) := by decide +kernel
theorem dX4_readPlans_9 : decode cX4_readPlans 9 = .ok (.aload_n 0, 1) := by decide +kernel
theorem dX4_readPlans_10 : decode cX4_readPlans 10 = .ok (.getfield 28, 3) := by decide +kernel
theorem dX4_readPlans_13 : decode cX4_readPlans 13 = .ok (.getstatic 116, 3) := by decide +kernel
theorem dX4_readPlans_16 : decode cX4_readPlans 16 = .ok (.if_acmp .ne 104, 3) := by decide +kernel
theorem dX4_readPlans_19 : decode cX4_readPlans 19 = .ok (.aload_n 0, 1) := by decide +kernel
theorem dX4_readPlans_20 : decode cX4_readPlans 20 = .ok (.getfield 44, 3) := by decide +kernel
theorem dX4_readPlans_23 : decode cX4_readPlans 23 = .ok (.iconst 1, 1) := by decide +kernel
theorem dX4_readPlans_24 : decode cX4_readPlans 24 = .ok (.iadd, 1) := by decide +kernel
theorem dX4_readPlans_25 : decode cX4_readPlans 25 = .ok (.istore_n 2, 1) := by decide +kernel
theorem dX4_readPlans_26 : decode cX4_readPlans 26 = .ok (.aload_n 0, 1) := by decide +kernel
theorem dX4_readPlans_27 : decode cX4_readPlans 27 = .ok (.getfield 9, 3) := by decide +kernel
theorem dX4_readPlans_30 : decode cX4_readPlans 30 = .ok (.getfield 119, 3) := by decide +kernel
theorem dX4_readPlans_33 : decode cX4_readPlans 33 = .ok (.istore_n 3, 1) := by decide +kernel
theorem dX4_readPlans_34 : decode cX4_readPlans 34 = .ok (.aload_n 0, 1) := by decide +kernel
theorem dX4_readPlans_35 : decode cX4_readPlans 35 = .ok (.getstatic 116, 3) := by decide +kernel
theorem dX4_readPlans_38 : decode cX4_readPlans 38 = .ok (.invokevirtual 64, 3) := by decide +kernel
theorem dX4_readPlans_41 : decode cX4_readPlans 41 = .ok (.ifCond .eq 40, 3) := by decide +kernel
theorem dX4_readPlans_44 : decode cX4_readPlans 44 = .ok (.aload_n 0, 1) := by decide +kernel
theorem dX4_readPlans_45 : decode cX4_readPlans 45 = .ok (.aload_n 0, 1) := by decide +kernel
theorem dX4_readPlans_46 : decode cX4_readPlans 46 = .ok (.getfield 9, 3) := by decide +kernel
theorem dX4_readPlans_49 : decode cX4_readPlans 49 = .ok (.getfield 122, 3) := by decide +kernel
theorem dX4_readPlans_52 : decode cX4_readPlans 52 = .ok (.bipush 6, 2) := by decide +kernel
theorem dX4_readPlans_54 : decode cX4_readPlans 54 = .ok (.if_icmp .lt 7, 3) := by decide +kernel
theorem dX4_readPlans_57 : decode cX4_readPlans 57 = .ok (.iconst 1, 1) := by decide +kernel
theorem dX4_readPlans_58 : decode cX4_readPlans 58 = .ok (.goto 4, 3) := by decide +kernel
theorem dX4_readPlans_61 : decode cX4_readPlans 61 = .ok (.iconst 0, 1) := by decide +kernel
theorem dX4_readPlans_62 : decode cX4_readPlans 62 = .ok (.invokevirtual 71, 3) := by decide +kernel
theorem dX4_readPlans_65 : decode cX4_readPlans 65 = .ok (.ifCond .eq 16, 3) := by decide +kernel
theorem dX4_readPlans_68 : decode cX4_readPlans 68 = .ok (.aload_n 0, 1) := by decide +kernel
theorem dX4_readPlans_69 : decode cX4_readPlans 69 = .ok (.iconst (-1), 1) := by decide +kernel
theorem dX4_readPlans_70 : decode cX4_readPlans 70 = .ok (.iconst 1, 1) := by decide +kernel
theorem dX4_readPlans_71 : decode cX4_readPlans 71 = .ok (.invokevirtual 125, 3) := by decide +kernel
theorem dX4_readPlans_74 : decode cX4_readPlans 74 = .ok (.ifCond .eq 7, 3) := by decide +kernel
theorem dX4_readPlans_77 : decode cX4_readPlans 77 = .ok (.iconst 1, 1) := by decide +kernel
theorem dX4_readPlans_78 : decode cX4_readPlans 78 = .ok (.goto 4, 3) := by decide +kernel
theorem dX4_readPlans_81 : decode cX4_readPlans 81 = .ok (.iconst 0, 1) := by decide +kernel
theorem dX4_readPlans_82 : decode cX4_readPlans 82 = .ok (.istore 4, 2) := by decide +kernel
theorem dX4_readPlans_84 : decode cX4_readPlans 84 = .ok (.iload 4, 2) := by decide +kernel
theorem dX4_readPlans_86 : decode cX4_readPlans 86 = .ok (.ifCond .ne 5, 3) := by decide +kernel
theorem dX4_readPlans_89 : decode cX4_readPlans 89 = .ok (.iconst 0, 1) := by decide +kernel
theorem dX4_readPlans_90 : decode cX4_readPlans 90 = .ok (.ireturn, 1) := by decide +kernel
theorem dX4_readPlans_91 : decode cX4_readPlans 91 = .ok (.aload_n 0, 1) := by decide +kernel
theorem dX4_readPlans_92 : decode cX4_readPlans 92 = .ok (.getfield 9, 3) := by decide +kernel
theorem dX4_readPlans_95 : decode cX4_readPlans 95 = .ok (.aload_n 0, 1) := by decide +kernel
theorem dX4_readPlans_96 : decode cX4_readPlans 96 = .ok (.getfield 21, 3) := by decide +kernel
theorem dX4_readPlans_99 : decode cX4_readPlans 99 = .ok (.iload_n 2, 1) := by decide +kernel
theorem dX4_readPlans_100 : decode cX4_readPlans 100 = .ok (.invokevirtual 88, 3) := by decide +kernel
theorem dX4_readPlans_103 : decode cX4_readPlans 103 = .ok (.aload_n 0, 1) := by decide +kernel
theorem dX4_readPlans_104 : decode cX4_readPlans 104 = .ok (.getfield 9, 3) := by decide +kernel
theorem dX4_readPlans_107 : decode cX4_readPlans 107 = .ok (.iload_n 3, 1) := by decide +kernel
theorem dX4_readPlans_108 : decode cX4_readPlans 108 = .ok (.invokevirtual 128, 3) := by decide +kernel
theorem dX4_readPlans_111 : decode cX4_readPlans 111 = .ok (.invokevirtual 131, 3) := by decide +kernel
theorem dX4_readPlans_114 : decode cX4_readPlans 114 = .ok (.iinc 1 1, 3) := by decide +kernel
theorem dX4_readPlans_117 : decode cX4_readPlans 117 = .ok (.goto (-115), 3) := by decide +kernel
theorem dX4_readPlans_120 : decode cX4_readPlans 120 = .ok (.iconst 1, 1) := by decide +kernel
theorem dX4_readPlans_121 : decode cX4_readPlans 121 = .ok (.ireturn, 1) := by decide +kernel
theorem dX4_readBlock_0 : decode cX4_readBlock 0 = .ok (.iload_n 2, 1) := by decide +kernel
theorem dX4_readBlock_1 : decode cX4_readBlock 1 = .ok (.iconst 3, 1) := by decide +kernel
theorem dX4_readBlock_2 : decode cX4_readBlock 2 = .ok (.if_icmp .gt 13, 3) := by decide +kernel
theorem dX4_readBlock_5 : decode cX4_readBlock 5 = .ok (.aload_n 0, 1) := by decide +kernel
theorem dX4_readBlock_6 : decode cX4_readBlock 6 = .ok (.getstatic 135, 3) := by decide +kernel
theorem dX4_readBlock_9 : decode cX4_readBlock 9 = .ok (.invokevirtual 64, 3) := by decide +kernel
theorem dX4_readBlock_12 : decode cX4_readBlock 12 = .ok (.ifCond .ne 5, 3) := by decide +kernel
theorem dX4_readBlock_15 : decode cX4_readBlock 15 = .ok (.iconst 0, 1) := by decide +kernel
theorem dX4_readBlock_16 : decode cX4_readBlock 16 = .ok (.ireturn, 1) := by decide +kernel
theorem dX4_readBlock_17 : decode cX4_readBlock 17 = .ok (.iconst (-1), 1) := by decide +kernel
theorem dX4_readBlock_18 : decode cX4_readBlock 18 = .ok (.istore_n 3, 1) := by decide +kernel
theorem dX4_readBlock_19 : decode cX4_readBlock 19 = .ok (.iconst 0, 1) := by decide +kernel
theorem dX4_readBlock_20 : decode cX4_readBlock 20 = .ok (.istore 4, 2) := by decide +kernel
theorem dX4_readBlock_22 : decode cX4_readBlock 22 = .ok (.iload 4, 2) := by decide +kernel
theorem dX4_readBlock_24 : decode cX4_readBlock 24 = .ok (.sipush 400, 3) := by decide +kernel
theorem dX4_readBlock_27 : decode cX4_readBlock 27 = .ok (.if_icmp .ge 81, 3) := by decide +kernel
theorem dX4_readBlock_30 : decode cX4_readBlock 30 = .ok (.aload_n 0, 1) := by decide +kernel
theorem dX4_readBlock_31 : decode cX4_readBlock 31 = .ok (.getfield 28, 3) := by decide +kernel
theorem dX4_readBlock_34 : decode cX4_readBlock 34 = .ok (.getstatic 138, 3) := by decide +kernel
theorem dX4_readBlock_37 : decode cX4_readBlock 37 = .ok (.if_acmp .eq 71, 3) := by decide +kernel
theorem dX4_readBlock_40 : decode cX4_readBlock 40 = .ok (.aload_n 0, 1) := by decide +kernel
theorem dX4_readBlock_41 : decode cX4_readBlock 41 = .ok (.getfield 9, 3) := by decide +kernel
theorem dX4_readBlock_44 : decode cX4_readBlock 44 = .ok (.aload_n 0, 1) := by decide +kernel
theorem dX4_readBlock_45 : decode cX4_readBlock 45 = .ok (.getfield 44, 3) := by decide +kernel
theorem dX4_readBlock_48 : decode cX4_readBlock 48 = .ok (.iload_n 1, 1) := by decide +kernel
theorem dX4_readBlock_49 : decode cX4_readBlock 49 = .ok (.invokevirtual 141, 3) := by decide +kernel
theorem dX4_readBlock_52 : decode cX4_readBlock 52 = .ok (.istore 5, 2) := by decide +kernel
theorem dX4_readBlock_54 : decode cX4_readBlock 54 = .ok (.iload 5, 2) := by decide +kernel
theorem dX4_readBlock_56 : decode cX4_readBlock 56 = .ok (.iconst (-1), 1) := by decide +kernel
theorem dX4_readBlock_57 : decode cX4_readBlock 57 = .ok (.if_icmp .ne 8, 3) := by decide +kernel
theorem dX4_readBlock_60 : decode cX4_readBlock 60 = .ok (.aload_n 0, 1) := by decide +kernel
theorem dX4_readBlock_61 : decode cX4_readBlock 61 = .ok (.iconst 4, 1) := by decide +kernel
theorem dX4_readBlock_62 : decode cX4_readBlock 62 = .ok (.invokevirtual 112, 3) := by decide +kernel
theorem dX4_readBlock_65 : decode cX4_readBlock 65 = .ok (.aload_n 0, 1) := by decide +kernel
theorem dX4_readBlock_66 : decode cX4_readBlock 66 = .ok (.getfield 9, 3) := by decide +kernel
theorem dX4_readBlock_69 : decode cX4_readBlock 69 = .ok (.iload_n 3, 1) := by decide +kernel
theorem dX4_readBlock_70 : decode cX4_readBlock 70 = .ok (.invokevirtual 145, 3) := by decide +kernel
theorem dX4_readBlock_73 : decode cX4_readBlock 73 = .ok (.ifCond .eq 14, 3) := by decide +kernel
theorem dX4_readBlock_76 : decode cX4_readBlock 76 = .ok (.aload_n 0, 1) := by decide +kernel
theorem dX4_readBlock_77 : decode cX4_readBlock 77 = .ok (.getfield 9, 3) := by decide +kernel
theorem dX4_readBlock_80 : decode cX4_readBlock 80 = .ok (.getfield 149, 3) := by decide +kernel
theorem dX4_readBlock_83 : decode cX4_readBlock 83 = .ok (.iload_n 3, 1) := by decide +kernel
theorem dX4_readBlock_84 : decode cX4_readBlock 84 = .ok (.iload 5, 2) := by decide +kernel
theorem dX4_readBlock_86 : decode cX4_readBlock 86 = .ok (.iastore, 1) := by decide +kernel
theorem dX4_readBlock_87 : decode cX4_readBlock 87 = .ok (.iload 5, 2) := by decide +kernel
theorem dX4_readBlock_89 : decode cX4_readBlock 89 = .ok (.istore_n 3, 1) := by decide +kernel
theorem dX4_readBlock_90 : decode cX4_readBlock 90 = .ok (.aload_n 0, 1) := by decide +kernel
theorem dX4_readBlock_91 : decode cX4_readBlock 91 = .ok (.iload 5, 2) := by decide +kernel
theorem dX4_readBlock_93 : decode cX4_readBlock 93 = .ok (.iload_n 2, 1) := by decide +kernel
theorem dX4_readBlock_94 : decode cX4_readBlock 94 = .ok (.invokevirtual 153, 3) := by decide +kernel
theorem dX4_readBlock_97 : decode cX4_readBlock 97 = .ok (.ifCond .ne 5, 3) := by decide +kernel
theorem dX4_readBlock_100 : decode cX4_readBlock 100 = .ok (.iconst 0, 1) := by decide +kernel
theorem dX4_readBlock_101 : decode cX4_readBlock 101 = .ok (.ireturn, 1) := by decide +kernel
theorem dX4_readBlock_102 : decode cX4_readBlock 102 = .ok (.iinc 4 1, 3) := by decide +kernel
theorem dX4_readBlock_105 : decode cX4_readBlock 105 = .ok (.goto (-83), 3) := by decide +kernel
theorem dX4_readBlock_108 : decode cX4_readBlock 108 = .ok (.aload_n 0, 1) := by decide +kernel
theorem dX4_readBlock_109 : decode cX4_readBlock 109 = .ok (.getstatic 138, 3) := by decide +kernel
theorem dX4_readBlock_112 : decode cX4_readBlock 112 = .ok (.invokevirtual 64, 3) := by decide +kernel
theorem dX4_readBlock_115 : decode cX4_readBlock 115 = .ok (.ireturn, 1) := by decide +kernel
theorem dX4_readAct_0 : decode cX4_readAct 0 = .ok (.aload_n 0, 1) := by decide +kernel
theorem dX4_readAct_1 : decode cX4_readAct 1 = .ok (.getfield 28, 3) := by decide +kernel
theorem dX4_readAct_4 : decode cX4_readAct 4 = .ok (.astore_n 3, 1) := by decide +kernel
theorem dX4_readAct_5 : decode cX4_readAct 5 = .ok (.getstatic 156, 3) := by decide +kernel
theorem dX4_readAct_8 : decode cX4_readAct 8 = .ok (.aload_n 3, 1) := by decide +kernel
theorem dX4_readAct_9 : decode cX4_readAct 9 = .ok (.invokevirtual 161, 3) := by decide +kernel
theorem dX4_readAct_12 : decode cX4_readAct 12 = .ok (.iaload, 1) := by decide +kernel
theorem dX4_readAct_13 : decode cX4_readAct 13 = .ok (.tableswitch 273 1 7 #[43, 101, 101, 101, 132, 163, 200], 43) := by decide +kernel
theorem dX4_readAct_56 : decode cX4_readAct 56 = .ok (.aload_n 0, 1) := by decide +kernel
theorem dX4_readAct_57 : decode cX4_readAct 57 = .ok (.aload_n 3, 1) := by decide +kernel
theorem dX4_readAct_58 : decode cX4_readAct 58 = .ok (.invokevirtual 64, 3) := by decide +kernel
theorem dX4_readAct_61 : decode cX4_readAct 61 = .ok (.ifCond .eq 51, 3) := by decide +kernel
theorem dX4_readAct_64 : decode cX4_readAct 64 = .ok (.aload_n 0, 1) := by decide +kernel
theorem dX4_readAct_65 : decode cX4_readAct 65 = .ok (.invokevirtual 165, 3) := by decide +kernel
theorem dX4_readAct_68 : decode cX4_readAct 68 = .ok (.ifCond .eq 44, 3) := by decide +kernel
theorem dX4_readAct_71 : decode cX4_readAct 71 = .ok (.aload_n 0, 1) := by decide +kernel
theorem dX4_readAct_72 : decode cX4_readAct 72 = .ok (.getfield 28, 3) := by decide +kernel
theorem dX4_readAct_75 : decode cX4_readAct 75 = .ok (.getstatic 168, 3) := by decide +kernel
theorem dX4_readAct_78 : decode cX4_readAct 78 = .ok (.if_acmp .ne 20, 3) := by decide +kernel
theorem dX4_readAct_81 : decode cX4_readAct 81 = .ok (.aload_n 0, 1) := by decide +kernel
theorem dX4_readAct_82 : decode cX4_readAct 82 = .ok (.getstatic 168, 3) := by decide +kernel
theorem dX4_readAct_85 : decode cX4_readAct 85 = .ok (.invokevirtual 64, 3) := by decide +kernel
theorem dX4_readAct_88 : decode cX4_readAct 88 = .ok (.ifCond .eq 24, 3) := by decide +kernel
theorem dX4_readAct_91 : decode cX4_readAct 91 = .ok (.aload_n 0, 1) := by decide +kernel
theorem dX4_readAct_92 : decode cX4_readAct 92 = .ok (.invokevirtual 165, 3) := by decide +kernel
theorem dX4_readAct_95 : decode cX4_readAct 95 = .ok (.ifCond .eq 17, 3) := by decide +kernel
theorem dX4_readAct_98 : decode cX4_readAct 98 = .ok (.aload_n 0, 1) := by decide +kernel
theorem dX4_readAct_99 : decode cX4_readAct 99 = .ok (.getstatic 85, 3) := by decide +kernel
theorem dX4_readAct_102 : decode cX4_readAct 102 = .ok (.invokevirtual 64, 3) := by decide +kernel
theorem dX4_readAct_105 : decode cX4_readAct 105 = .ok (.ifCond .eq 7, 3) := by decide +kernel
theorem dX4_readAct_108 : decode cX4_readAct 108 = .ok (.iconst 1, 1) := by decide +kernel
theorem dX4_readAct_109 : decode cX4_readAct 109 = .ok (.goto 4, 3) := by decide +kernel
theorem dX4_readAct_112 : decode cX4_readAct 112 = .ok (.iconst 0, 1) := by decide +kernel
theorem dX4_readAct_113 : decode cX4_readAct 113 = .ok (.ireturn, 1) := by decide +kernel
theorem dX4_readAct_114 : decode cX4_readAct 114 = .ok (.aload_n 0, 1) := by decide +kernel
theorem dX4_readAct_115 : decode cX4_readAct 115 = .ok (.aload_n 3, 1) := by decide +kernel
theorem dX4_readAct_116 : decode cX4_readAct 116 = .ok (.invokevirtual 64, 3) := by decide +kernel
theorem dX4_readAct_119 : decode cX4_readAct 119 = .ok (.ifCond .eq 24, 3) := by decide +kernel
