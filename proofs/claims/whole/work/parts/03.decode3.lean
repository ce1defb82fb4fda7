theorem dX9_teach_55 : decode cX9_teach 55 = .ok (.iload_n 1, 1) := by decide +kernel
theorem dX9_teach_56 : decode cX9_teach 56 = .ok (.invokevirtual 110, 3) := by decide +kernel
theorem dX9_teach_59 : decode cX9_teach 59 = .ok (.istore_n 2, 1) := by decide +kernel
theorem dX9_teach_60 : decode cX9_teach 60 = .ok (.aload_n 0, 1) := by decide +kernel
theorem dX9_teach_61 : decode cX9_teach 61 = .ok (.aload_n 0, 1) := by decide +kernel
theorem dX9_teach_62 : decode cX9_teach 62 = .ok (.getfield 31, 3) := by decide +kernel
theorem dX9_teach_65 : decode cX9_teach 65 = .ok (.invokevirtual 114, 3) := by decide +kernel
theorem dX9_teach_68 : decode cX9_teach 68 = .ok (.putfield 63, 3) := by decide +kernel
theorem dX9_teach_71 : decode cX9_teach 71 = .ok (.aload_n 0, 1) := by decide +kernel
theorem dX9_teach_72 : decode cX9_teach 72 = .ok (.getfield 10, 3) := by decide +kernel
theorem dX9_teach_75 : decode cX9_teach 75 = .ok (.iconst 0, 1) := by decide +kernel
theorem dX9_teach_76 : decode cX9_teach 76 = .ok (.putfield 88, 3) := by decide +kernel
theorem dX9_teach_79 : decode cX9_teach 79 = .ok (.iload_n 2, 1) := by decide +kernel
theorem dX9_teach_80 : decode cX9_teach 80 = .ok (.ifCond .ne 39, 3) := by decide +kernel
theorem dX9_teach_83 : decode cX9_teach 83 = .ok (.aload_n 0, 1) := by decide +kernel
theorem dX9_teach_84 : decode cX9_teach 84 = .ok (.getfield 19, 3) := by decide +kernel
theorem dX9_teach_87 : decode cX9_teach 87 = .ok (.astore_n 3, 1) := by decide +kernel
theorem dX9_teach_88 : decode cX9_teach 88 = .ok (.aload_n 0, 1) := by decide +kernel
theorem dX9_teach_89 : decode cX9_teach 89 = .ok (.aload_n 0, 1) := by decide +kernel
theorem dX9_teach_90 : decode cX9_teach 90 = .ok (.getfield 23, 3) := by decide +kernel
theorem dX9_teach_93 : decode cX9_teach 93 = .ok (.putfield 19, 3) := by decide +kernel
theorem dX9_teach_96 : decode cX9_teach 96 = .ok (.aload_n 0, 1) := by decide +kernel
theorem dX9_teach_97 : decode cX9_teach 97 = .ok (.aload_n 3, 1) := by decide +kernel
theorem dX9_teach_98 : decode cX9_teach 98 = .ok (.putfield 23, 3) := by decide +kernel
theorem dX9_teach_101 : decode cX9_teach 101 = .ok (.aload_n 0, 1) := by decide +kernel
theorem dX9_teach_102 : decode cX9_teach 102 = .ok (.getfield 38, 3) := by decide +kernel
theorem dX9_teach_105 : decode cX9_teach 105 = .ok (.aload_n 0, 1) := by decide +kernel
theorem dX9_teach_106 : decode cX9_teach 106 = .ok (.getfield 19, 3) := by decide +kernel
theorem dX9_teach_109 : decode cX9_teach 109 = .ok (.invokevirtual 70, 3) := by decide +kernel
theorem dX9_teach_112 : decode cX9_teach 112 = .ok (.aload_n 0, 1) := by decide +kernel
theorem dX9_teach_113 : decode cX9_teach 113 = .ok (.getfield 59, 3) := by decide +kernel
theorem dX9_teach_116 : decode cX9_teach 116 = .ok (.invokevirtual 117, 3) := by decide +kernel
theorem dX9_teach_119 : decode cX9_teach 119 = .ok (.iload_n 2, 1) := by decide +kernel
theorem dX9_teach_120 : decode cX9_teach 120 = .ok (.ireturn, 1) := by decide +kernel
theorem dX9_errorAt_0 : decode cX9_errorAt 0 = .ok (.aload_n 0, 1) := by decide +kernel
theorem dX9_errorAt_1 : decode cX9_errorAt 1 = .ok (.getfield 63, 3) := by decide +kernel
theorem dX9_errorAt_4 : decode cX9_errorAt 4 = .ok (.ireturn, 1) := by decide +kernel
theorem dX9_walkers_0 : decode cX9_walkers 0 = .ok (.aload_n 0, 1) := by decide +kernel
theorem dX9_walkers_1 : decode cX9_walkers 1 = .ok (.getfield 38, 3) := by decide +kernel
theorem dX9_walkers_4 : decode cX9_walkers 4 = .ok (.getfield 120, 3) := by decide +kernel
theorem dX9_walkers_7 : decode cX9_walkers 7 = .ok (.ireturn, 1) := by decide +kernel
theorem dX9_planks_0 : decode cX9_planks 0 = .ok (.aload_n 0, 1) := by decide +kernel
theorem dX9_planks_1 : decode cX9_planks 1 = .ok (.getfield 38, 3) := by decide +kernel
theorem dX9_planks_4 : decode cX9_planks 4 = .ok (.getfield 123, 3) := by decide +kernel
theorem dX9_planks_7 : decode cX9_planks 7 = .ok (.ireturn, 1) := by decide +kernel
theorem dX9_plans_0 : decode cX9_plans 0 = .ok (.aload_n 0, 1) := by decide +kernel
theorem dX9_plans_1 : decode cX9_plans 1 = .ok (.getfield 19, 3) := by decide +kernel
theorem dX9_plans_4 : decode cX9_plans 4 = .ok (.getfield 126, 3) := by decide +kernel
theorem dX9_plans_7 : decode cX9_plans 7 = .ok (.ireturn, 1) := by decide +kernel
theorem dX9_weightOf_0 : decode cX9_weightOf 0 = .ok (.aload_n 0, 1) := by decide +kernel
theorem dX9_weightOf_1 : decode cX9_weightOf 1 = .ok (.iload_n 1, 1) := by decide +kernel
theorem dX9_weightOf_2 : decode cX9_weightOf 2 = .ok (.invokevirtual 129, 3) := by decide +kernel
theorem dX9_weightOf_5 : decode cX9_weightOf 5 = .ok (.aload_n 0, 1) := by decide +kernel
theorem dX9_weightOf_6 : decode cX9_weightOf 6 = .ok (.getfield 38, 3) := by decide +kernel
theorem dX9_weightOf_9 : decode cX9_weightOf 9 = .ok (.getfield 132, 3) := by decide +kernel
theorem dX9_weightOf_12 : decode cX9_weightOf 12 = .ok (.iload_n 1, 1) := by decide +kernel
theorem dX9_weightOf_13 : decode cX9_weightOf 13 = .ok (.iaload, 1) := by decide +kernel
theorem dX9_weightOf_14 : decode cX9_weightOf 14 = .ok (.ireturn, 1) := by decide +kernel
theorem dX9_minutesOf_0 : decode cX9_minutesOf 0 = .ok (.aload_n 0, 1) := by decide +kernel
theorem dX9_minutesOf_1 : decode cX9_minutesOf 1 = .ok (.iload_n 1, 1) := by decide +kernel
theorem dX9_minutesOf_2 : decode cX9_minutesOf 2 = .ok (.invokevirtual 129, 3) := by decide +kernel
theorem dX9_minutesOf_5 : decode cX9_minutesOf 5 = .ok (.aload_n 0, 1) := by decide +kernel
theorem dX9_minutesOf_6 : decode cX9_minutesOf 6 = .ok (.getfield 38, 3) := by decide +kernel
theorem dX9_minutesOf_9 : decode cX9_minutesOf 9 = .ok (.getfield 136, 3) := by decide +kernel
theorem dX9_minutesOf_12 : decode cX9_minutesOf 12 = .ok (.iload_n 1, 1) := by decide +kernel
theorem dX9_minutesOf_13 : decode cX9_minutesOf 13 = .ok (.iaload, 1) := by decide +kernel
theorem dX9_minutesOf_14 : decode cX9_minutesOf 14 = .ok (.ireturn, 1) := by decide +kernel
theorem dX9_isNear_0 : decode cX9_isNear 0 = .ok (.aload_n 0, 1) := by decide +kernel
theorem dX9_isNear_1 : decode cX9_isNear 1 = .ok (.iload_n 1, 1) := by decide +kernel
theorem dX9_isNear_2 : decode cX9_isNear 2 = .ok (.invokevirtual 129, 3) := by decide +kernel
theorem dX9_isNear_5 : decode cX9_isNear 5 = .ok (.aload_n 0, 1) := by decide +kernel
theorem dX9_isNear_6 : decode cX9_isNear 6 = .ok (.getfield 38, 3) := by decide +kernel
theorem dX9_isNear_9 : decode cX9_isNear 9 = .ok (.iload_n 1, 1) := by decide +kernel
theorem dX9_isNear_10 : decode cX9_isNear 10 = .ok (.invokevirtual 139, 3) := by decide +kernel
theorem dX9_isNear_13 : decode cX9_isNear 13 = .ok (.ireturn, 1) := by decide +kernel
theorem dX9_walkersNear_0 : decode cX9_walkersNear 0 = .ok (.aload_n 0, 1) := by decide +kernel
theorem dX9_walkersNear_1 : decode cX9_walkersNear 1 = .ok (.getfield 38, 3) := by decide +kernel
theorem dX9_walkersNear_4 : decode cX9_walkersNear 4 = .ok (.invokevirtual 142, 3) := by decide +kernel
theorem dX9_walkersNear_7 : decode cX9_walkersNear 7 = .ok (.ireturn, 1) := by decide +kernel
theorem dX9_strengthOf_0 : decode cX9_strengthOf 0 = .ok (.aload_n 0, 1) := by decide +kernel
theorem dX9_strengthOf_1 : decode cX9_strengthOf 1 = .ok (.iload_n 1, 1) := by decide +kernel
theorem dX9_strengthOf_2 : decode cX9_strengthOf 2 = .ok (.invokevirtual 145, 3) := by decide +kernel
theorem dX9_strengthOf_5 : decode cX9_strengthOf 5 = .ok (.aload_n 0, 1) := by decide +kernel
theorem dX9_strengthOf_6 : decode cX9_strengthOf 6 = .ok (.getfield 38, 3) := by decide +kernel
theorem dX9_strengthOf_9 : decode cX9_strengthOf 9 = .ok (.getfield 148, 3) := by decide +kernel
theorem dX9_strengthOf_12 : decode cX9_strengthOf 12 = .ok (.iload_n 1, 1) := by decide +kernel
theorem dX9_strengthOf_13 : decode cX9_strengthOf 13 = .ok (.iaload, 1) := by decide +kernel
theorem dX9_strengthOf_14 : decode cX9_strengthOf 14 = .ok (.ireturn, 1) := by decide +kernel
theorem dX9_bears_0 : decode cX9_bears 0 = .ok (.aload_n 0, 1) := by decide +kernel
theorem dX9_bears_1 : decode cX9_bears 1 = .ok (.iload_n 1, 1) := by decide +kernel
theorem dX9_bears_2 : decode cX9_bears 2 = .ok (.invokevirtual 145, 3) := by decide +kernel
theorem dX9_bears_5 : decode cX9_bears 5 = .ok (.aload_n 0, 1) := by decide +kernel
theorem dX9_bears_6 : decode cX9_bears 6 = .ok (.getfield 38, 3) := by decide +kernel
theorem dX9_bears_9 : decode cX9_bears 9 = .ok (.iload_n 1, 1) := by decide +kernel
theorem dX9_bears_10 : decode cX9_bears 10 = .ok (.invokevirtual 151, 3) := by decide +kernel
theorem dX9_bears_13 : decode cX9_bears 13 = .ok (.ireturn, 1) := by decide +kernel
theorem dX9_isRotten_0 : decode cX9_isRotten 0 = .ok (.aload_n 0, 1) := by decide +kernel
theorem dX9_isRotten_1 : decode cX9_isRotten 1 = .ok (.iload_n 1, 1) := by decide +kernel
theorem dX9_isRotten_2 : decode cX9_isRotten 2 = .ok (.invokevirtual 145, 3) := by decide +kernel
theorem dX9_isRotten_5 : decode cX9_isRotten 5 = .ok (.aload_n 0, 1) := by decide +kernel
theorem dX9_isRotten_6 : decode cX9_isRotten 6 = .ok (.getfield 38, 3) := by decide +kernel
theorem dX9_isRotten_9 : decode cX9_isRotten 9 = .ok (.getfield 155, 3) := by decide +kernel
theorem dX9_isRotten_12 : decode cX9_isRotten 12 = .ok (.iload_n 1, 1) := by decide +kernel
theorem dX9_isRotten_13 : decode cX9_isRotten 13 = .ok (.baload, 1) := by decide +kernel
theorem dX9_isRotten_14 : decode cX9_isRotten 14 = .ok (.ireturn, 1) := by decide +kernel
theorem dX9_missingPlanks_0 : decode cX9_missingPlanks 0 = .ok (.aload_n 0, 1) := by decide +kernel
theorem dX9_missingPlanks_1 : decode cX9_missingPlanks 1 = .ok (.getfield 38, 3) := by decide +kernel
theorem dX9_missingPlanks_4 : decode cX9_missingPlanks 4 = .ok (.invokevirtual 159, 3) := by decide +kernel
theorem dX9_missingPlanks_7 : decode cX9_missingPlanks 7 = .ok (.ireturn, 1) := by decide +kernel
theorem dX9_weakestPlank_0 : decode cX9_weakestPlank 0 = .ok (.aload_n 0, 1) := by decide +kernel
theorem dX9_weakestPlank_1 : decode cX9_weakestPlank 1 = .ok (.invokevirtual 162, 3) := by decide +kernel
theorem dX9_weakestPlank_4 : decode cX9_weakestPlank 4 = .ok (.aload_n 0, 1) := by decide +kernel
theorem dX9_weakestPlank_5 : decode cX9_weakestPlank 5 = .ok (.getfield 38, 3) := by decide +kernel
theorem dX9_weakestPlank_8 : decode cX9_weakestPlank 8 = .ok (.iconst 1, 1) := by decide +kernel
theorem dX9_weakestPlank_9 : decode cX9_weakestPlank 9 = .ok (.invokevirtual 165, 3) := by decide +kernel
theorem dX9_weakestPlank_12 : decode cX9_weakestPlank 12 = .ok (.ireturn, 1) := by decide +kernel
theorem dX9_isPassable_0 : decode cX9_isPassable 0 = .ok (.aload_n 0, 1) := by decide +kernel
theorem dX9_isPassable_1 : decode cX9_isPassable 1 = .ok (.getfield 38, 3) := by decide +kernel
theorem dX9_isPassable_4 : decode cX9_isPassable 4 = .ok (.invokevirtual 168, 3) := by decide +kernel
theorem dX9_isPassable_7 : decode cX9_isPassable 7 = .ok (.ireturn, 1) := by decide +kernel
theorem dX9_heaviestLoad_0 : decode cX9_heaviestLoad 0 = .ok (.aload_n 0, 1) := by decide +kernel
theorem dX9_heaviestLoad_1 : decode cX9_heaviestLoad 1 = .ok (.invokevirtual 162, 3) := by decide +kernel
theorem dX9_heaviestLoad_4 : decode cX9_heaviestLoad 4 = .ok (.aload_n 0, 1) := by decide +kernel
theorem dX9_heaviestLoad_5 : decode cX9_heaviestLoad 5 = .ok (.getfield 38, 3) := by decide +kernel
theorem dX9_heaviestLoad_8 : decode cX9_heaviestLoad 8 = .ok (.aload_n 0, 1) := by decide +kernel
theorem dX9_heaviestLoad_9 : decode cX9_heaviestLoad 9 = .ok (.getfield 38, 3) := by decide +kernel
theorem dX9_heaviestLoad_12 : decode cX9_heaviestLoad 12 = .ok (.iconst 1, 1) := by decide +kernel
theorem dX9_heaviestLoad_13 : decode cX9_heaviestLoad 13 = .ok (.invokevirtual 165, 3) := by decide +kernel
theorem dX9_heaviestLoad_16 : decode cX9_heaviestLoad 16 = .ok (.invokevirtual 151, 3) := by decide +kernel
theorem dX9_heaviestLoad_19 : decode cX9_heaviestLoad 19 = .ok (.ireturn, 1) := by decide +kernel
theorem dX9_isLampNear_0 : decode cX9_isLampNear 0 = .ok (.aload_n 0, 1) := by decide +kernel
theorem dX9_isLampNear_1 : decode cX9_isLampNear 1 = .ok (.getfield 38, 3) := by decide +kernel
theorem dX9_isLampNear_4 : decode cX9_isLampNear 4 = .ok (.getfield 171, 3) := by decide +kernel
theorem dX9_isLampNear_7 : decode cX9_isLampNear 7 = .ok (.ireturn, 1) := by decide +kernel
theorem dX9_oilLeft_0 : decode cX9_oilLeft 0 = .ok (.aload_n 0, 1) := by decide +kernel
theorem dX9_oilLeft_1 : decode cX9_oilLeft 1 = .ok (.getfield 38, 3) := by decide +kernel
theorem dX9_oilLeft_4 : decode cX9_oilLeft 4 = .ok (.getfield 175, 3) := by decide +kernel
theorem dX9_oilLeft_7 : decode cX9_oilLeft 7 = .ok (.ireturn, 1) := by decide +kernel
theorem dX9_night_0 : decode cX9_night 0 = .ok (.aload_n 0, 1) := by decide +kernel
theorem dX9_night_1 : decode cX9_night 1 = .ok (.getfield 38, 3) := by decide +kernel
theorem dX9_night_4 : decode cX9_night 4 = .ok (.getfield 178, 3) := by decide +kernel
theorem dX9_night_7 : decode cX9_night 7 = .ok (.ireturn, 1) := by decide +kernel
theorem dX9_minute_0 : decode cX9_minute 0 = .ok (.aload_n 0, 1) := by decide +kernel
theorem dX9_minute_1 : decode cX9_minute 1 = .ok (.getfield 38, 3) := by decide +kernel
theorem dX9_minute_4 : decode cX9_minute 4 = .ok (.getfield 181, 3) := by decide +kernel
theorem dX9_minute_7 : decode cX9_minute 7 = .ok (.ireturn, 1) := by decide +kernel
theorem dX9_isWeakNight_0 : decode cX9_isWeakNight 0 = .ok (.aload_n 0, 1) := by decide +kernel
theorem dX9_isWeakNight_1 : decode cX9_isWeakNight 1 = .ok (.getfield 38, 3) := by decide +kernel
theorem dX9_isWeakNight_4 : decode cX9_isWeakNight 4 = .ok (.invokevirtual 184, 3) := by decide +kernel
theorem dX9_isWeakNight_7 : decode cX9_isWeakNight 7 = .ok (.ireturn, 1) := by decide +kernel
theorem dX9_crossAlone_0 : decode cX9_crossAlone 0 = .ok (.aload_n 0, 1) := by decide +kernel
theorem dX9_crossAlone_1 : decode cX9_crossAlone 1 = .ok (.iload_n 1, 1) := by decide +kernel
theorem dX9_crossAlone_2 : decode cX9_crossAlone 2 = .ok (.invokevirtual 129, 3) := by decide +kernel
theorem dX9_crossAlone_5 : decode cX9_crossAlone 5 = .ok (.aload_n 0, 1) := by decide +kernel
theorem dX9_crossAlone_6 : decode cX9_crossAlone 6 = .ok (.iload_n 1, 1) := by decide +kernel
theorem dX9_crossAlone_7 : decode cX9_crossAlone 7 = .ok (.iconst (-1), 1) := by decide +kernel
theorem dX9_crossAlone_8 : decode cX9_crossAlone 8 = .ok (.invokevirtual 187, 3) := by decide +kernel
theorem dX9_crossAlone_11 : decode cX9_crossAlone 11 = .ok (.ireturn, 1) := by decide +kernel
theorem dX9_crossTogether_0 : decode cX9_crossTogether 0 = .ok (.aload_n 0, 1) := by decide +kernel
theorem dX9_crossTogether_1 : decode cX9_crossTogether 1 = .ok (.iload_n 1, 1) := by decide +kernel
theorem dX9_crossTogether_2 : decode cX9_crossTogether 2 = .ok (.iload_n 2, 1) := by decide +kernel
theorem dX9_crossTogether_3 : decode cX9_crossTogether 3 = .ok (.invokevirtual 191, 3) := by decide +kernel
theorem dX9_crossTogether_6 : decode cX9_crossTogether 6 = .ok (.aload_n 0, 1) := by decide +kernel
theorem dX9_crossTogether_7 : decode cX9_crossTogether 7 = .ok (.iload_n 1, 1) := by decide +kernel
theorem dX9_crossTogether_8 : decode cX9_crossTogether 8 = .ok (.iload_n 2, 1) := by decide +kernel
theorem dX9_crossTogether_9 : decode cX9_crossTogether 9 = .ok (.invokevirtual 187, 3) := by decide +kernel
theorem dX9_crossTogether_12 : decode cX9_crossTogether 12 = .ok (.ireturn, 1) := by decide +kernel
theorem dX9_rest_0 : decode cX9_rest 0 = .ok (.iload_n 1, 1) := by decide +kernel
theorem dX9_rest_1 : decode cX9_rest 1 = .ok (.iconst 1, 1) := by decide +kernel
theorem dX9_rest_2 : decode cX9_rest 2 = .ok (.if_icmp .lt 10, 3) := by decide +kernel
theorem dX9_rest_5 : decode cX9_rest 5 = .ok (.iload_n 1, 1) := by decide +kernel
theorem dX9_rest_6 : decode cX9_rest 6 = .ok (.sipush 600, 3) := by decide +kernel
theorem dX9_rest_9 : decode cX9_rest 9 = .ok (.if_icmp .le 13, 3) := by decide +kernel
theorem dX9_rest_12 : decode cX9_rest 12 = .ok (.new 91, 3) := by decide +kernel
theorem dX9_rest_15 : decode cX9_rest 15 = .ok (.dup, 1) := by decide +kernel
theorem dX9_rest_16 : decode cX9_rest 16 = .ok (.ldc 195, 2) := by decide +kernel
theorem dX9_rest_18 : decode cX9_rest 18 = .ok (.invokespecial 95, 3) := by decide +kernel
theorem dX9_rest_21 : decode cX9_rest 21 = .ok (.athrow, 1) := by decide +kernel
theorem dX9_rest_22 : decode cX9_rest 22 = .ok (.aload_n 0, 1) := by decide +kernel
theorem dX9_rest_23 : decode cX9_rest 23 = .ok (.getfield 38, 3) := by decide +kernel
theorem dX9_rest_26 : decode cX9_rest 26 = .ok (.iload_n 1, 1) := by decide +kernel
theorem dX9_rest_27 : decode cX9_rest 27 = .ok (.invokevirtual 197, 3) := by decide +kernel
theorem dX9_rest_30 : decode cX9_rest 30 = .ok (.ireturn, 1) := by decide +kernel
theorem dX9_layPlank_0 : decode cX9_layPlank 0 = .ok (.aload_n 0, 1) := by decide +kernel
theorem dX9_layPlank_1 : decode cX9_layPlank 1 = .ok (.iload_n 1, 1) := by decide +kernel
theorem dX9_layPlank_2 : decode cX9_layPlank 2 = .ok (.invokevirtual 145, 3) := by decide +kernel
theorem dX9_layPlank_5 : decode cX9_layPlank 5 = .ok (.iload_n 2, 1) := by decide +kernel
theorem dX9_layPlank_6 : decode cX9_layPlank 6 = .ok (.iconst 1, 1) := by decide +kernel
theorem dX9_layPlank_7 : decode cX9_layPlank 7 = .ok (.if_icmp .lt 9, 3) := by decide +kernel
theorem dX9_layPlank_10 : decode cX9_layPlank 10 = .ok (.iload_n 2, 1) := by decide +kernel
theorem dX9_layPlank_11 : decode cX9_layPlank 11 = .ok (.bipush 30, 2) := by decide +kernel
theorem dX9_layPlank_13 : decode cX9_layPlank 13 = .ok (.if_icmp .le 13, 3) := by decide +kernel
theorem dX9_layPlank_16 : decode cX9_layPlank 16 = .ok (.new 91, 3) := by decide +kernel
theorem dX9_layPlank_19 : decode cX9_layPlank 19 = .ok (.dup, 1) := by decide +kernel
theorem dX9_layPlank_20 : decode cX9_layPlank 20 = .ok (.ldc 200, 2) := by decide +kernel
theorem dX9_layPlank_22 : decode cX9_layPlank 22 = .ok (.invokespecial 95, 3) := by decide +kernel
theorem dX9_layPlank_25 : decode cX9_layPlank 25 = .ok (.athrow, 1) := by decide +kernel
theorem dX9_layPlank_26 : decode cX9_layPlank 26 = .ok (.aload_n 0, 1) := by decide +kernel
theorem dX9_layPlank_27 : decode cX9_layPlank 27 = .ok (.getfield 38, 3) := by decide +kernel
theorem dX9_layPlank_30 : decode cX9_layPlank 30 = .ok (.getfield 148, 3) := by decide +kernel
theorem dX9_layPlank_33 : decode cX9_layPlank 33 = .ok (.iload_n 1, 1) := by decide +kernel
theorem dX9_layPlank_34 : decode cX9_layPlank 34 = .ok (.iaload, 1) := by decide +kernel
theorem dX9_layPlank_35 : decode cX9_layPlank 35 = .ok (.istore_n 3, 1) := by decide +kernel
theorem dX9_layPlank_36 : decode cX9_layPlank 36 = .ok (.aload_n 0, 1) := by decide +kernel
theorem dX9_layPlank_37 : decode cX9_layPlank 37 = .ok (.getfield 38, 3) := by decide +kernel
theorem dX9_layPlank_40 : decode cX9_layPlank 40 = .ok (.iload_n 1, 1) := by decide +kernel
theorem dX9_layPlank_41 : decode cX9_layPlank 41 = .ok (.iload_n 2, 1) := by decide +kernel
theorem dX9_layPlank_42 : decode cX9_layPlank 42 = .ok (.invokevirtual 202, 3) := by decide +kernel
theorem dX9_layPlank_45 : decode cX9_layPlank 45 = .ok (.iload_n 3, 1) := by decide +kernel
theorem dX9_layPlank_46 : decode cX9_layPlank 46 = .ok (.ireturn, 1) := by decide +kernel
theorem dX9_runPlan_0 : decode cX9_runPlan 0 = .ok (.aload_n 0, 1) := by decide +kernel
theorem dX9_runPlan_1 : decode cX9_runPlan 1 = .ok (.iload_n 1, 1) := by decide +kernel
theorem dX9_runPlan_2 : decode cX9_runPlan 2 = .ok (.invokevirtual 205, 3) := by decide +kernel
theorem dX9_runPlan_5 : decode cX9_runPlan 5 = .ok (.aload_n 0, 1) := by decide +kernel
theorem dX9_runPlan_6 : decode cX9_runPlan 6 = .ok (.getfield 50, 3) := by decide +kernel
theorem dX9_runPlan_9 : decode cX9_runPlan 9 = .ok (.aload_n 0, 1) := by decide +kernel
theorem dX9_runPlan_10 : decode cX9_runPlan 10 = .ok (.getfield 19, 3) := by decide +kernel
theorem dX9_runPlan_13 : decode cX9_runPlan 13 = .ok (.aload_n 0, 1) := by decide +kernel
theorem dX9_runPlan_14 : decode cX9_runPlan 14 = .ok (.getfield 38, 3) := by decide +kernel
theorem dX9_runPlan_17 : decode cX9_runPlan 17 = .ok (.iload_n 1, 1) := by decide +kernel
theorem dX9_runPlan_18 : decode cX9_runPlan 18 = .ok (.invokevirtual 208, 3) := by decide +kernel
theorem dX9_runPlan_21 : decode cX9_runPlan 21 = .ok (.ireturn, 1) := by decide +kernel
theorem dX9_crossings_0 : decode cX9_crossings 0 = .ok (.aload_n 0, 1) := by decide +kernel
theorem dX9_crossings_1 : decode cX9_crossings 1 = .ok (.getfield 38, 3) := by decide +kernel
theorem dX9_crossings_4 : decode cX9_crossings 4 = .ok (.getfield 212, 3) := by decide +kernel
theorem dX9_crossings_7 : decode cX9_crossings 7 = .ok (.ireturn, 1) := by decide +kernel
theorem dX9_falls_0 : decode cX9_falls 0 = .ok (.aload_n 0, 1) := by decide +kernel
theorem dX9_falls_1 : decode cX9_falls 1 = .ok (.getfield 38, 3) := by decide +kernel
theorem dX9_falls_4 : decode cX9_falls 4 = .ok (.getfield 215, 3) := by decide +kernel
theorem dX9_falls_7 : decode cX9_falls 7 = .ok (.ireturn, 1) := by decide +kernel
theorem dX9_notes_0 : decode cX9_notes 0 = .ok (.aload_n 0, 1) := by decide +kernel
theorem dX9_notes_1 : decode cX9_notes 1 = .ok (.getfield 38, 3) := by decide +kernel
theorem dX9_notes_4 : decode cX9_notes 4 = .ok (.getfield 218, 3) := by decide +kernel
theorem dX9_notes_7 : decode cX9_notes 7 = .ok (.ireturn, 1) := by decide +kernel
theorem dX9_noteOf_0 : decode cX9_noteOf 0 = .ok (.iload_n 1, 1) := by decide +kernel
theorem dX9_noteOf_1 : decode cX9_noteOf 1 = .ok (.ifCond .lt 20, 3) := by decide +kernel
theorem dX9_noteOf_4 : decode cX9_noteOf 4 = .ok (.iload_n 1, 1) := by decide +kernel
theorem dX9_noteOf_5 : decode cX9_noteOf 5 = .ok (.bipush 10, 2) := by decide +kernel
theorem dX9_noteOf_7 : decode cX9_noteOf 7 = .ok (.if_icmp .ge 14, 3) := by decide +kernel
theorem dX9_noteOf_10 : decode cX9_noteOf 10 = .ok (.iload_n 1, 1) := by decide +kernel
theorem dX9_noteOf_11 : decode cX9_noteOf 11 = .ok (.aload_n 0, 1) := by decide +kernel
theorem dX9_noteOf_12 : decode cX9_noteOf 12 = .ok (.getfield 38, 3) := by decide +kernel
theorem dX9_noteOf_15 : decode cX9_noteOf 15 = .ok (.getfield 218, 3) := by decide +kernel
theorem dX9_noteOf_18 : decode cX9_noteOf 18 = .ok (.if_icmp .lt 13, 3) := by decide +kernel
theorem dX9_noteOf_21 : decode cX9_noteOf 21 = .ok (.new 221, 3) := by decide +kernel
theorem dX9_noteOf_24 : decode cX9_noteOf 24 = .ok (.dup, 1) := by decide +kernel
theorem dX9_noteOf_25 : decode cX9_noteOf 25 = .ok (.ldc 223, 2) := by decide +kernel
theorem dX9_noteOf_27 : decode cX9_noteOf 27 = .ok (.invokespecial 225, 3) := by decide +kernel
theorem dX9_noteOf_30 : decode cX9_noteOf 30 = .ok (.athrow, 1) := by decide +kernel
theorem dX9_noteOf_31 : decode cX9_noteOf 31 = .ok (.aload_n 0, 1) := by decide +kernel
theorem dX9_noteOf_32 : decode cX9_noteOf 32 = .ok (.getfield 38, 3) := by decide +kernel
theorem dX9_noteOf_35 : decode cX9_noteOf 35 = .ok (.iload_n 1, 1) := by decide +kernel
theorem dX9_noteOf_36 : decode cX9_noteOf 36 = .ok (.invokevirtual 226, 3) := by decide +kernel
theorem dX9_noteOf_39 : decode cX9_noteOf 39 = .ok (.ireturn, 1) := by decide +kernel
theorem dX9_canCrossAlone_0 : decode cX9_canCrossAlone 0 = .ok (.aload_n 0, 1) := by decide +kernel
theorem dX9_canCrossAlone_1 : decode cX9_canCrossAlone 1 = .ok (.iload_n 1, 1) := by decide +kernel
theorem dX9_canCrossAlone_2 : decode cX9_canCrossAlone 2 = .ok (.invokevirtual 129, 3) := by decide +kernel
theorem dX9_canCrossAlone_5 : decode cX9_canCrossAlone 5 = .ok (.aload_n 0, 1) := by decide +kernel
theorem dX9_canCrossAlone_6 : decode cX9_canCrossAlone 6 = .ok (.iload_n 1, 1) := by decide +kernel
theorem dX9_canCrossAlone_7 : decode cX9_canCrossAlone 7 = .ok (.iconst (-1), 1) := by decide +kernel
theorem dX9_canCrossAlone_8 : decode cX9_canCrossAlone 8 = .ok (.invokevirtual 229, 3) := by decide +kernel
theorem dX9_canCrossAlone_11 : decode cX9_canCrossAlone 11 = .ok (.ireturn, 1) := by decide +kernel
theorem dX9_canCrossTogether_0 : decode cX9_canCrossTogether 0 = .ok (.aload_n 0, 1) := by decide +kernel
theorem dX9_canCrossTogether_1 : decode cX9_canCrossTogether 1 = .ok (.iload_n 1, 1) := by decide +kernel
theorem dX9_canCrossTogether_2 : decode cX9_canCrossTogether 2 = .ok (.iload_n 2, 1) := by decide +kernel
theorem dX9_canCrossTogether_3 : decode cX9_canCrossTogether 3 = .ok (.invokevirtual 191, 3) := by decide +kernel
theorem dX9_canCrossTogether_6 : decode cX9_canCrossTogether 6 = .ok (.aload_n 0, 1) := by decide +kernel
theorem dX9_canCrossTogether_7 : decode cX9_canCrossTogether 7 = .ok (.iload_n 1, 1) := by decide +kernel
theorem dX9_canCrossTogether_8 : decode cX9_canCrossTogether 8 = .ok (.iload_n 2, 1) := by decide +kernel
theorem dX9_canCrossTogether_9 : decode cX9_canCrossTogether 9 = .ok (.invokevirtual 229, 3) := by decide +kernel
theorem dX9_canCrossTogether_12 : decode cX9_canCrossTogether 12 = .ok (.ireturn, 1) := by decide +kernel
theorem dX9_fewestMinutes_0 : decode cX9_fewestMinutes 0 = .ok (.aload_n 0, 1) := by decide +kernel
theorem dX9_fewestMinutes_1 : decode cX9_fewestMinutes 1 = .ok (.getfield 59, 3) := by decide +kernel
theorem dX9_fewestMinutes_4 : decode cX9_fewestMinutes 4 = .ok (.invokevirtual 232, 3) := by decide +kernel
theorem dX9_fewestMinutes_7 : decode cX9_fewestMinutes 7 = .ok (.ireturn, 1) := by decide +kernel
theorem dX9_firstToCross_0 : decode cX9_firstToCross 0 = .ok (.aload_n 0, 1) := by decide +kernel
theorem dX9_firstToCross_1 : decode cX9_firstToCross 1 = .ok (.invokevirtual 235, 3) := by decide +kernel
theorem dX9_firstToCross_4 : decode cX9_firstToCross 4 = .ok (.aload_n 0, 1) := by decide +kernel
theorem dX9_firstToCross_5 : decode cX9_firstToCross 5 = .ok (.getfield 59, 3) := by decide +kernel
theorem dX9_firstToCross_8 : decode cX9_firstToCross 8 = .ok (.invokevirtual 238, 3) := by decide +kernel
theorem dX9_firstToCross_11 : decode cX9_firstToCross 11 = .ok (.ireturn, 1) := by decide +kernel
theorem dX9_secondToCross_0 : decode cX9_secondToCross 0 = .ok (.aload_n 0, 1) := by decide +kernel
theorem dX9_secondToCross_1 : decode cX9_secondToCross 1 = .ok (.invokevirtual 235, 3) := by decide +kernel
theorem dX9_secondToCross_4 : decode cX9_secondToCross 4 = .ok (.aload_n 0, 1) := by decide +kernel
theorem dX9_secondToCross_5 : decode cX9_secondToCross 5 = .ok (.getfield 59, 3) := by decide +kernel
theorem dX9_secondToCross_8 : decode cX9_secondToCross 8 = .ok (.aload_n 0, 1) := by decide +kernel
theorem dX9_secondToCross_9 : decode cX9_secondToCross 9 = .ok (.getfield 59, 3) := by decide +kernel
theorem dX9_secondToCross_12 : decode cX9_secondToCross 12 = .ok (.invokevirtual 238, 3) := by decide +kernel
theorem dX9_secondToCross_15 : decode cX9_secondToCross 15 = .ok (.invokevirtual 241, 3) := by decide +kernel
theorem dX9_secondToCross_18 : decode cX9_secondToCross 18 = .ok (.ireturn, 1) := by decide +kernel
theorem dX9_actsOfPlan_0 : decode cX9_actsOfPlan 0 = .ok (.aload_n 0, 1) := by decide +kernel
theorem dX9_actsOfPlan_1 : decode cX9_actsOfPlan 1 = .ok (.iload_n 1, 1) := by decide +kernel
theorem dX9_actsOfPlan_2 : decode cX9_actsOfPlan 2 = .ok (.invokevirtual 205, 3) := by decide +kernel
theorem dX9_actsOfPlan_5 : decode cX9_actsOfPlan 5 = .ok (.aload_n 0, 1) := by decide +kernel
theorem dX9_actsOfPlan_6 : decode cX9_actsOfPlan 6 = .ok (.getfield 42, 3) := by decide +kernel
theorem dX9_actsOfPlan_9 : decode cX9_actsOfPlan 9 = .ok (.aload_n 0, 1) := by decide +kernel
theorem dX9_actsOfPlan_10 : decode cX9_actsOfPlan 10 = .ok (.getfield 38, 3) := by decide +kernel
theorem dX9_actsOfPlan_13 : decode cX9_actsOfPlan 13 = .ok (.invokevirtual 244, 3) := by decide +kernel
theorem dX9_actsOfPlan_16 : decode cX9_actsOfPlan 16 = .ok (.aload_n 0, 1) := by decide +kernel
theorem dX9_actsOfPlan_17 : decode cX9_actsOfPlan 17 = .ok (.getfield 50, 3) := by decide +kernel
theorem dX9_actsOfPlan_20 : decode cX9_actsOfPlan 20 = .ok (.aload_n 0, 1) := by decide +kernel
theorem dX9_actsOfPlan_21 : decode cX9_actsOfPlan 21 = .ok (.getfield 19, 3) := by decide +kernel
theorem dX9_actsOfPlan_24 : decode cX9_actsOfPlan 24 = .ok (.aload_n 0, 1) := by decide +kernel
theorem dX9_actsOfPlan_25 : decode cX9_actsOfPlan 25 = .ok (.getfield 42, 3) := by decide +kernel
theorem dX9_actsOfPlan_28 : decode cX9_actsOfPlan 28 = .ok (.iload_n 1, 1) := by decide +kernel
theorem dX9_actsOfPlan_29 : decode cX9_actsOfPlan 29 = .ok (.invokevirtual 208, 3) := by decide +kernel
theorem dX9_actsOfPlan_32 : decode cX9_actsOfPlan 32 = .ok (.ireturn, 1) := by decide +kernel
theorem dX9_farBehindPlan_0 : decode cX9_farBehindPlan 0 = .ok (.aload_n 0, 1) := by decide +kernel
theorem dX9_farBehindPlan_1 : decode cX9_farBehindPlan 1 = .ok (.iload_n 1, 1) := by decide +kernel
theorem dX9_farBehindPlan_2 : decode cX9_farBehindPlan 2 = .ok (.invokevirtual 205, 3) := by decide +kernel
theorem dX9_farBehindPlan_5 : decode cX9_farBehindPlan 5 = .ok (.aload_n 0, 1) := by decide +kernel
theorem dX9_farBehindPlan_6 : decode cX9_farBehindPlan 6 = .ok (.getfield 42, 3) := by decide +kernel
theorem dX9_farBehindPlan_9 : decode cX9_farBehindPlan 9 = .ok (.aload_n 0, 1) := by decide +kernel
theorem dX9_farBehindPlan_10 : decode cX9_farBehindPlan 10 = .ok (.getfield 38, 3) := by decide +kernel
theorem dX9_farBehindPlan_13 : decode cX9_farBehindPlan 13 = .ok (.invokevirtual 244, 3) := by decide +kernel
theorem dX9_farBehindPlan_16 : decode cX9_farBehindPlan 16 = .ok (.aload_n 0, 1) := by decide +kernel
theorem dX9_farBehindPlan_17 : decode cX9_farBehindPlan 17 = .ok (.getfield 50, 3) := by decide +kernel
theorem dX9_farBehindPlan_20 : decode cX9_farBehindPlan 20 = .ok (.aload_n 0, 1) := by decide +kernel
theorem dX9_farBehindPlan_21 : decode cX9_farBehindPlan 21 = .ok (.getfield 19, 3) := by decide +kernel
theorem dX9_farBehindPlan_24 : decode cX9_farBehindPlan 24 = .ok (.aload_n 0, 1) := by decide +kernel
theorem dX9_farBehindPlan_25 : decode cX9_farBehindPlan 25 = .ok (.getfield 42, 3) := by decide +kernel
theorem dX9_farBehindPlan_28 : decode cX9_farBehindPlan 28 = .ok (.iload_n 1, 1) := by decide +kernel
theorem dX9_farBehindPlan_29 : decode cX9_farBehindPlan 29 = .ok (.invokevirtual 208, 3) := by decide +kernel
theorem dX9_farBehindPlan_32 : decode cX9_farBehindPlan 32 = .ok (.pop, 1) := by decide +kernel
theorem dX9_farBehindPlan_33 : decode cX9_farBehindPlan 33 = .ok (.aload_n 0, 1) := by decide +kernel
theorem dX9_farBehindPlan_34 : decode cX9_farBehindPlan 34 = .ok (.getfield 42, 3) := by decide +kernel
theorem dX9_farBehindPlan_37 : decode cX9_farBehindPlan 37 = .ok (.invokevirtual 247, 3) := by decide +kernel
theorem dX9_farBehindPlan_40 : decode cX9_farBehindPlan 40 = .ok (.ireturn, 1) := by decide +kernel
theorem dX9_minutesOfPlan_0 : decode cX9_minutesOfPlan 0 = .ok (.aload_n 0, 1) := by decide +kernel
theorem dX9_minutesOfPlan_1 : decode cX9_minutesOfPlan 1 = .ok (.iload_n 1, 1) := by decide +kernel
theorem dX9_minutesOfPlan_2 : decode cX9_minutesOfPlan 2 = .ok (.invokevirtual 205, 3) := by decide +kernel
theorem dX9_minutesOfPlan_5 : decode cX9_minutesOfPlan 5 = .ok (.aload_n 0, 1) := by decide +kernel
theorem dX9_minutesOfPlan_6 : decode cX9_minutesOfPlan 6 = .ok (.getfield 42, 3) := by decide +kernel
theorem dX9_minutesOfPlan_9 : decode cX9_minutesOfPlan 9 = .ok (.aload_n 0, 1) := by decide +kernel
theorem dX9_minutesOfPlan_10 : decode cX9_minutesOfPlan 10 = .ok (.getfield 38, 3) := by decide +kernel
theorem dX9_minutesOfPlan_13 : decode cX9_minutesOfPlan 13 = .ok (.invokevirtual 244, 3) := by decide +kernel
theorem dX9_minutesOfPlan_16 : decode cX9_minutesOfPlan 16 = .ok (.aload_n 0, 1) := by decide +kernel
theorem dX9_minutesOfPlan_17 : decode cX9_minutesOfPlan 17 = .ok (.getfield 50, 3) := by decide +kernel
theorem dX9_minutesOfPlan_20 : decode cX9_minutesOfPlan 20 = .ok (.aload_n 0, 1) := by decide +kernel
theorem dX9_minutesOfPlan_21 : decode cX9_minutesOfPlan 21 = .ok (.getfield 19, 3) := by decide +kernel
theorem dX9_minutesOfPlan_24 : decode cX9_minutesOfPlan 24 = .ok (.aload_n 0, 1) := by decide +kernel
theorem dX9_minutesOfPlan_25 : decode cX9_minutesOfPlan 25 = .ok (.getfield 42, 3) := by decide +kernel
theorem dX9_minutesOfPlan_28 : decode cX9_minutesOfPlan 28 = .ok (.iload_n 1, 1) := by decide +kernel
theorem dX9_minutesOfPlan_29 : decode cX9_minutesOfPlan 29 = .ok (.invokevirtual 208, 3) := by decide +kernel
theorem dX9_minutesOfPlan_32 : decode cX9_minutesOfPlan 32 = .ok (.pop, 1) := by decide +kernel
theorem dX9_minutesOfPlan_33 : decode cX9_minutesOfPlan 33 = .ok (.aload_n 0, 1) := by decide +kernel
theorem dX9_minutesOfPlan_34 : decode cX9_minutesOfPlan 34 = .ok (.getfield 42, 3) := by decide +kernel
theorem dX9_minutesOfPlan_37 : decode cX9_minutesOfPlan 37 = .ok (.invokevirtual 250, 3) := by decide +kernel
theorem dX9_minutesOfPlan_40 : decode cX9_minutesOfPlan 40 = .ok (.aload_n 0, 1) := by decide +kernel
theorem dX9_minutesOfPlan_41 : decode cX9_minutesOfPlan 41 = .ok (.getfield 38, 3) := by decide +kernel
theorem dX9_minutesOfPlan_44 : decode cX9_minutesOfPlan 44 = .ok (.invokevirtual 250, 3) := by decide +kernel
theorem dX9_minutesOfPlan_47 : decode cX9_minutesOfPlan 47 = .ok (.isub, 1) := by decide +kernel
theorem dX9_minutesOfPlan_48 : decode cX9_minutesOfPlan 48 = .ok (.ireturn, 1) := by decide +kernel
theorem dX9_bestPlan_0 : decode cX9_bestPlan 0 = .ok (.aload_n 0, 1) := by decide +kernel
theorem dX9_bestPlan_1 : decode cX9_bestPlan 1 = .ok (.getfield 19, 3) := by decide +kernel
theorem dX9_bestPlan_4 : decode cX9_bestPlan 4 = .ok (.getfield 126, 3) := by decide +kernel
theorem dX9_bestPlan_7 : decode cX9_bestPlan 7 = .ok (.ifCond .ne 13, 3) := by decide +kernel
theorem dX9_bestPlan_10 : decode cX9_bestPlan 10 = .ok (.new 77, 3) := by decide +kernel
theorem dX9_bestPlan_13 : decode cX9_bestPlan 13 = .ok (.dup, 1) := by decide +kernel
theorem dX9_bestPlan_14 : decode cX9_bestPlan 14 = .ok (.ldc 253, 2) := by decide +kernel
theorem dX9_bestPlan_16 : decode cX9_bestPlan 16 = .ok (.invokespecial 81, 3) := by decide +kernel
theorem dX9_bestPlan_19 : decode cX9_bestPlan 19 = .ok (.athrow, 1) := by decide +kernel
theorem dX9_bestPlan_20 : decode cX9_bestPlan 20 = .ok (.iconst 0, 1) := by decide +kernel
theorem dX9_bestPlan_21 : decode cX9_bestPlan 21 = .ok (.istore_n 1, 1) := by decide +kernel
theorem dX9_bestPlan_22 : decode cX9_bestPlan 22 = .ok (.iconst (-1), 1) := by decide +kernel
theorem dX9_bestPlan_23 : decode cX9_bestPlan 23 = .ok (.istore_n 2, 1) := by decide +kernel
theorem dX9_bestPlan_24 : decode cX9_bestPlan 24 = .ok (.iconst 0, 1) := by decide +kernel
theorem dX9_bestPlan_25 : decode cX9_bestPlan 25 = .ok (.istore_n 3, 1) := by decide +kernel
theorem dX9_bestPlan_26 : decode cX9_bestPlan 26 = .ok (.iconst 0, 1) := by decide +kernel
theorem dX9_bestPlan_27 : decode cX9_bestPlan 27 = .ok (.istore 4, 2) := by decide +kernel
theorem dX9_bestPlan_29 : decode cX9_bestPlan 29 = .ok (.iload 4, 2) := by decide +kernel
theorem dX9_bestPlan_31 : decode cX9_bestPlan 31 = .ok (.aload_n 0, 1) := by decide +kernel
theorem dX9_bestPlan_32 : decode cX9_bestPlan 32 = .ok (.getfield 19, 3) := by decide +kernel
theorem dX9_bestPlan_35 : decode cX9_bestPlan 35 = .ok (.getfield 126, 3) := by decide +kernel
theorem dX9_bestPlan_38 : decode cX9_bestPlan 38 = .ok (.if_icmp .ge 91, 3) := by decide +kernel
theorem dX9_bestPlan_41 : decode cX9_bestPlan 41 = .ok (.aload_n 0, 1) := by decide +kernel
theorem dX9_bestPlan_42 : decode cX9_bestPlan 42 = .ok (.getfield 42, 3) := by decide +kernel
theorem dX9_bestPlan_45 : decode cX9_bestPlan 45 = .ok (.aload_n 0, 1) := by decide +kernel
theorem dX9_bestPlan_46 : decode cX9_bestPlan 46 = .ok (.getfield 38, 3) := by decide +kernel
theorem dX9_bestPlan_49 : decode cX9_bestPlan 49 = .ok (.invokevirtual 244, 3) := by decide +kernel
theorem dX9_bestPlan_52 : decode cX9_bestPlan 52 = .ok (.aload_n 0, 1) := by decide +kernel
theorem dX9_bestPlan_53 : decode cX9_bestPlan 53 = .ok (.getfield 50, 3) := by decide +kernel
theorem dX9_bestPlan_56 : decode cX9_bestPlan 56 = .ok (.aload_n 0, 1) := by decide +kernel
theorem dX9_bestPlan_57 : decode cX9_bestPlan 57 = .ok (.getfield 19, 3) := by decide +kernel
theorem dX9_bestPlan_60 : decode cX9_bestPlan 60 = .ok (.aload_n 0, 1) := by decide +kernel
theorem dX9_bestPlan_61 : decode cX9_bestPlan 61 = .ok (.getfield 42, 3) := by decide +kernel
theorem dX9_bestPlan_64 : decode cX9_bestPlan 64 = .ok (.iload 4, 2) := by decide +kernel
theorem dX9_bestPlan_66 : decode cX9_bestPlan 66 = .ok (.invokevirtual 208, 3) := by decide +kernel
theorem dX9_bestPlan_69 : decode cX9_bestPlan 69 = .ok (.pop, 1) := by decide +kernel
theorem dX9_bestPlan_70 : decode cX9_bestPlan 70 = .ok (.aload_n 0, 1) := by decide +kernel
theorem dX9_bestPlan_71 : decode cX9_bestPlan 71 = .ok (.getfield 42, 3) := by decide +kernel
theorem dX9_bestPlan_74 : decode cX9_bestPlan 74 = .ok (.invokevirtual 247, 3) := by decide +kernel
theorem dX9_bestPlan_77 : decode cX9_bestPlan 77 = .ok (.istore 5, 2) := by decide +kernel
theorem dX9_bestPlan_79 : decode cX9_bestPlan 79 = .ok (.aload_n 0, 1) := by decide +kernel
theorem dX9_bestPlan_80 : decode cX9_bestPlan 80 = .ok (.getfield 42, 3) := by decide +kernel
theorem dX9_bestPlan_83 : decode cX9_bestPlan 83 = .ok (.invokevirtual 250, 3) := by decide +kernel
theorem dX9_bestPlan_86 : decode cX9_bestPlan 86 = .ok (.aload_n 0, 1) := by decide +kernel
theorem dX9_bestPlan_87 : decode cX9_bestPlan 87 = .ok (.getfield 38, 3) := by decide +kernel
theorem dX9_bestPlan_90 : decode cX9_bestPlan 90 = .ok (.invokevirtual 250, 3) := by decide +kernel
theorem dX9_bestPlan_93 : decode cX9_bestPlan 93 = .ok (.isub, 1) := by decide +kernel
theorem dX9_bestPlan_94 : decode cX9_bestPlan 94 = .ok (.istore 6, 2) := by decide +kernel
theorem dX9_bestPlan_96 : decode cX9_bestPlan 96 = .ok (.iload 5, 2) := by decide +kernel
theorem dX9_bestPlan_98 : decode cX9_bestPlan 98 = .ok (.iload_n 2, 1) := by decide +kernel
theorem dX9_bestPlan_99 : decode cX9_bestPlan 99 = .ok (.if_icmp .gt 15, 3) := by decide +kernel
theorem dX9_bestPlan_102 : decode cX9_bestPlan 102 = .ok (.iload 5, 2) := by decide +kernel
theorem dX9_bestPlan_104 : decode cX9_bestPlan 104 = .ok (.iload_n 2, 1) := by decide +kernel
theorem dX9_bestPlan_105 : decode cX9_bestPlan 105 = .ok (.if_icmp .ne 18, 3) := by decide +kernel
theorem dX9_bestPlan_108 : decode cX9_bestPlan 108 = .ok (.iload 6, 2) := by decide +kernel
theorem dX9_bestPlan_110 : decode cX9_bestPlan 110 = .ok (.iload_n 3, 1) := by decide +kernel
theorem dX9_bestPlan_111 : decode cX9_bestPlan 111 = .ok (.if_icmp .ge 12, 3) := by decide +kernel
theorem dX9_bestPlan_114 : decode cX9_bestPlan 114 = .ok (.iload 4, 2) := by decide +kernel
theorem dX9_bestPlan_116 : decode cX9_bestPlan 116 = .ok (.istore_n 1, 1) := by decide +kernel
theorem dX9_bestPlan_117 : decode cX9_bestPlan 117 = .ok (.iload 5, 2) := by decide +kernel
theorem dX9_bestPlan_119 : decode cX9_bestPlan 119 = .ok (.istore_n 2, 1) := by decide +kernel
theorem dX9_bestPlan_120 : decode cX9_bestPlan 120 = .ok (.iload 6, 2) := by decide +kernel
theorem dX9_bestPlan_122 : decode cX9_bestPlan 122 = .ok (.istore_n 3, 1) := by decide +kernel
theorem dX9_bestPlan_123 : decode cX9_bestPlan 123 = .ok (.iinc 4 1, 3) := by decide +kernel
theorem dX9_bestPlan_126 : decode cX9_bestPlan 126 = .ok (.goto (-97), 3) := by decide +kernel
theorem dX9_bestPlan_129 : decode cX9_bestPlan 129 = .ok (.iload_n 1, 1) := by decide +kernel
theorem dX9_bestPlan_130 : decode cX9_bestPlan 130 = .ok (.ireturn, 1) := by decide +kernel
theorem dX9_meanStrength_0 : decode cX9_meanStrength 0 = .ok (.iconst 0, 1) := by decide +kernel
theorem dX9_meanStrength_1 : decode cX9_meanStrength 1 = .ok (.istore_n 1, 1) := by decide +kernel
theorem dX9_meanStrength_2 : decode cX9_meanStrength 2 = .ok (.iconst 0, 1) := by decide +kernel
theorem dX9_meanStrength_3 : decode cX9_meanStrength 3 = .ok (.istore_n 2, 1) := by decide +kernel
theorem dX9_meanStrength_4 : decode cX9_meanStrength 4 = .ok (.iload_n 2, 1) := by decide +kernel
theorem dX9_meanStrength_5 : decode cX9_meanStrength 5 = .ok (.aload_n 0, 1) := by decide +kernel
theorem dX9_meanStrength_6 : decode cX9_meanStrength 6 = .ok (.getfield 38, 3) := by decide +kernel
theorem dX9_meanStrength_9 : decode cX9_meanStrength 9 = .ok (.getfield 123, 3) := by decide +kernel
theorem dX9_meanStrength_12 : decode cX9_meanStrength 12 = .ok (.if_icmp .ge 21, 3) := by decide +kernel
theorem dX9_meanStrength_15 : decode cX9_meanStrength 15 = .ok (.iload_n 1, 1) := by decide +kernel
theorem dX9_meanStrength_16 : decode cX9_meanStrength 16 = .ok (.aload_n 0, 1) := by decide +kernel
theorem dX9_meanStrength_17 : decode cX9_meanStrength 17 = .ok (.getfield 38, 3) := by decide +kernel
theorem dX9_meanStrength_20 : decode cX9_meanStrength 20 = .ok (.getfield 148, 3) := by decide +kernel
theorem dX9_meanStrength_23 : decode cX9_meanStrength 23 = .ok (.iload_n 2, 1) := by decide +kernel
theorem dX9_meanStrength_24 : decode cX9_meanStrength 24 = .ok (.iaload, 1) := by decide +kernel
theorem dX9_meanStrength_25 : decode cX9_meanStrength 25 = .ok (.iadd, 1) := by decide +kernel
theorem dX9_meanStrength_26 : decode cX9_meanStrength 26 = .ok (.istore_n 1, 1) := by decide +kernel
theorem dX9_meanStrength_27 : decode cX9_meanStrength 27 = .ok (.iinc 2 1, 3) := by decide +kernel
theorem dX9_meanStrength_30 : decode cX9_meanStrength 30 = .ok (.goto (-26), 3) := by decide +kernel
theorem dX9_meanStrength_33 : decode cX9_meanStrength 33 = .ok (.aload_n 0, 1) := by decide +kernel
theorem dX9_meanStrength_34 : decode cX9_meanStrength 34 = .ok (.getfield 38, 3) := by decide +kernel
theorem dX9_meanStrength_37 : decode cX9_meanStrength 37 = .ok (.getfield 123, 3) := by decide +kernel
theorem dX9_meanStrength_40 : decode cX9_meanStrength 40 = .ok (.ifCond .le 17, 3) := by decide +kernel
theorem dX9_meanStrength_43 : decode cX9_meanStrength 43 = .ok (.iload_n 1, 1) := by decide +kernel
theorem dX9_meanStrength_44 : decode cX9_meanStrength 44 = .ok (.i2d, 1) := by decide +kernel
theorem dX9_meanStrength_45 : decode cX9_meanStrength 45 = .ok (.aload_n 0, 1) := by decide +kernel
theorem dX9_meanStrength_46 : decode cX9_meanStrength 46 = .ok (.getfield 38, 3) := by decide +kernel
theorem dX9_meanStrength_49 : decode cX9_meanStrength 49 = .ok (.getfield 123, 3) := by decide +kernel
theorem dX9_meanStrength_52 : decode cX9_meanStrength 52 = .ok (.i2d, 1) := by decide +kernel
theorem dX9_meanStrength_53 : decode cX9_meanStrength 53 = .ok (.ddiv, 1) := by decide +kernel
theorem dX9_meanStrength_54 : decode cX9_meanStrength 54 = .ok (.goto 4, 3) := by decide +kernel
theorem dX9_meanStrength_57 : decode cX9_meanStrength 57 = .ok (.dconst 0, 1) := by decide +kernel
theorem dX9_meanStrength_58 : decode cX9_meanStrength 58 = .ok (.dreturn, 1) := by decide +kernel
theorem dX9_digest_0 : decode cX9_digest 0 = .ok (.ldc2_w 255, 3) := by decide +kernel
theorem dX9_digest_3 : decode cX9_digest 3 = .ok (.lstore_n 1, 1) := by decide +kernel
theorem dX9_digest_4 : decode cX9_digest 4 = .ok (.lload_n 1, 1) := by decide +kernel
theorem dX9_digest_5 : decode cX9_digest 5 = .ok (.ldc2_w 257, 3) := by decide +kernel
theorem dX9_digest_8 : decode cX9_digest 8 = .ok (.lmul, 1) := by decide +kernel
theorem dX9_digest_9 : decode cX9_digest 9 = .ok (.aload_n 0, 1) := by decide +kernel
theorem dX9_digest_10 : decode cX9_digest 10 = .ok (.getfield 38, 3) := by decide +kernel
theorem dX9_digest_13 : decode cX9_digest 13 = .ok (.getfield 120, 3) := by decide +kernel
theorem dX9_digest_16 : decode cX9_digest 16 = .ok (.i2l, 1) := by decide +kernel
theorem dX9_digest_17 : decode cX9_digest 17 = .ok (.ladd, 1) := by decide +kernel
theorem dX9_digest_18 : decode cX9_digest 18 = .ok (.lstore_n 1, 1) := by decide +kernel
theorem dX9_digest_19 : decode cX9_digest 19 = .ok (.lload_n 1, 1) := by decide +kernel
theorem dX9_digest_20 : decode cX9_digest 20 = .ok (.ldc2_w 257, 3) := by decide +kernel
theorem dX9_digest_23 : decode cX9_digest 23 = .ok (.lmul, 1) := by decide +kernel
theorem dX9_digest_24 : decode cX9_digest 24 = .ok (.aload_n 0, 1) := by decide +kernel
theorem dX9_digest_25 : decode cX9_digest 25 = .ok (.getfield 38, 3) := by decide +kernel
theorem dX9_digest_28 : decode cX9_digest 28 = .ok (.getfield 123, 3) := by decide +kernel
theorem dX9_digest_31 : decode cX9_digest 31 = .ok (.i2l, 1) := by decide +kernel
theorem dX9_digest_32 : decode cX9_digest 32 = .ok (.ladd, 1) := by decide +kernel
theorem dX9_digest_33 : decode cX9_digest 33 = .ok (.lstore_n 1, 1) := by decide +kernel
theorem dX9_digest_34 : decode cX9_digest 34 = .ok (.lload_n 1, 1) := by decide +kernel
theorem dX9_digest_35 : decode cX9_digest 35 = .ok (.ldc2_w 257, 3) := by decide +kernel
theorem dX9_digest_38 : decode cX9_digest 38 = .ok (.lmul, 1) := by decide +kernel
theorem dX9_digest_39 : decode cX9_digest 39 = .ok (.aload_n 0, 1) := by decide +kernel
theorem dX9_digest_40 : decode cX9_digest 40 = .ok (.getfield 19, 3) := by decide +kernel
theorem dX9_digest_43 : decode cX9_digest 43 = .ok (.getfield 126, 3) := by decide +kernel
theorem dX9_digest_46 : decode cX9_digest 46 = .ok (.i2l, 1) := by decide +kernel
theorem dX9_digest_47 : decode cX9_digest 47 = .ok (.ladd, 1) := by decide +kernel
theorem dX9_digest_48 : decode cX9_digest 48 = .ok (.lstore_n 1, 1) := by decide +kernel
theorem dX9_digest_49 : decode cX9_digest 49 = .ok (.lload_n 1, 1) := by decide +kernel
theorem dX9_digest_50 : decode cX9_digest 50 = .ok (.ldc2_w 257, 3) := by decide +kernel
theorem dX9_digest_53 : decode cX9_digest 53 = .ok (.lmul, 1) := by decide +kernel
theorem dX9_digest_54 : decode cX9_digest 54 = .ok (.aload_n 0, 1) := by decide +kernel
theorem dX9_digest_55 : decode cX9_digest 55 = .ok (.getfield 38, 3) := by decide +kernel
theorem dX9_digest_58 : decode cX9_digest 58 = .ok (.getfield 171, 3) := by decide +kernel
theorem dX9_digest_61 : decode cX9_digest 61 = .ok (.invokestatic 259, 3) := by decide +kernel
theorem dX9_digest_64 : decode cX9_digest 64 = .ok (.i2l, 1) := by decide +kernel
theorem dX9_digest_65 : decode cX9_digest 65 = .ok (.ladd, 1) := by decide +kernel
theorem dX9_digest_66 : decode cX9_digest 66 = .ok (.lstore_n 1, 1) := by decide +kernel
theorem dX9_digest_67 : decode cX9_digest 67 = .ok (.lload_n 1, 1) := by decide +kernel
theorem dX9_digest_68 : decode cX9_digest 68 = .ok (.ldc2_w 257, 3) := by decide +kernel
theorem dX9_digest_71 : decode cX9_digest 71 = .ok (.lmul, 1) := by decide +kernel
theorem dX9_digest_72 : decode cX9_digest 72 = .ok (.aload_n 0, 1) := by decide +kernel
theorem dX9_digest_73 : decode cX9_digest 73 = .ok (.getfield 38, 3) := by decide +kernel
theorem dX9_digest_76 : decode cX9_digest 76 = .ok (.getfield 175, 3) := by decide +kernel
theorem dX9_digest_79 : decode cX9_digest 79 = .ok (.i2l, 1) := by decide +kernel
theorem dX9_digest_80 : decode cX9_digest 80 = .ok (.ladd, 1) := by decide +kernel
theorem dX9_digest_81 : decode cX9_digest 81 = .ok (.lstore_n 1, 1) := by decide +kernel
theorem dX9_digest_82 : decode cX9_digest 82 = .ok (.lload_n 1, 1) := by decide +kernel
theorem dX9_digest_83 : decode cX9_digest 83 = .ok (.ldc2_w 257, 3) := by decide +kernel
theorem dX9_digest_86 : decode cX9_digest 86 = .ok (.lmul, 1) := by decide +kernel
theorem dX9_digest_87 : decode cX9_digest 87 = .ok (.aload_n 0, 1) := by decide +kernel
theorem dX9_digest_88 : decode cX9_digest 88 = .ok (.getfield 38, 3) := by decide +kernel
theorem dX9_digest_91 : decode cX9_digest 91 = .ok (.getfield 178, 3) := by decide +kernel
theorem dX9_digest_94 : decode cX9_digest 94 = .ok (.i2l, 1) := by decide +kernel
theorem dX9_digest_95 : decode cX9_digest 95 = .ok (.ladd, 1) := by decide +kernel
theorem dX9_digest_96 : decode cX9_digest 96 = .ok (.lstore_n 1, 1) := by decide +kernel
theorem dX9_digest_97 : decode cX9_digest 97 = .ok (.lload_n 1, 1) := by decide +kernel
theorem dX9_digest_98 : decode cX9_digest 98 = .ok (.ldc2_w 257, 3) := by decide +kernel
theorem dX9_digest_101 : decode cX9_digest 101 = .ok (.lmul, 1) := by decide +kernel
theorem dX9_digest_102 : decode cX9_digest 102 = .ok (.aload_n 0, 1) := by decide +kernel
theorem dX9_digest_103 : decode cX9_digest 103 = .ok (.getfield 38, 3) := by decide +kernel
theorem dX9_digest_106 : decode cX9_digest 106 = .ok (.getfield 181, 3) := by decide +kernel
theorem dX9_digest_109 : decode cX9_digest 109 = .ok (.i2l, 1) := by decide +kernel
theorem dX9_digest_110 : decode cX9_digest 110 = .ok (.ladd, 1) := by decide +kernel
theorem dX9_digest_111 : decode cX9_digest 111 = .ok (.lstore_n 1, 1) := by decide +kernel
theorem dX9_digest_112 : decode cX9_digest 112 = .ok (.lload_n 1, 1) := by decide +kernel
theorem dX9_digest_113 : decode cX9_digest 113 = .ok (.ldc2_w 257, 3) := by decide +kernel
theorem dX9_digest_116 : decode cX9_digest 116 = .ok (.lmul, 1) := by decide +kernel
theorem dX9_digest_117 : decode cX9_digest 117 = .ok (.aload_n 0, 1) := by decide +kernel
theorem dX9_digest_118 : decode cX9_digest 118 = .ok (.getfield 38, 3) := by decide +kernel
theorem dX9_digest_121 : decode cX9_digest 121 = .ok (.getfield 212, 3) := by decide +kernel
theorem dX9_digest_124 : decode cX9_digest 124 = .ok (.i2l, 1) := by decide +kernel
theorem dX9_digest_125 : decode cX9_digest 125 = .ok (.ladd, 1) := by decide +kernel
theorem dX9_digest_126 : decode cX9_digest 126 = .ok (.lstore_n 1, 1) := by decide +kernel
theorem dX9_digest_127 : decode cX9_digest 127 = .ok (.lload_n 1, 1) := by decide +kernel
theorem dX9_digest_128 : decode cX9_digest 128 = .ok (.ldc2_w 257, 3) := by decide +kernel
theorem dX9_digest_131 : decode cX9_digest 131 = .ok (.lmul, 1) := by decide +kernel
theorem dX9_digest_132 : decode cX9_digest 132 = .ok (.aload_n 0, 1) := by decide +kernel
theorem dX9_digest_133 : decode cX9_digest 133 = .ok (.getfield 38, 3) := by decide +kernel
theorem dX9_digest_136 : decode cX9_digest 136 = .ok (.getfield 215, 3) := by decide +kernel
theorem dX9_digest_139 : decode cX9_digest 139 = .ok (.i2l, 1) := by decide +kernel
theorem dX9_digest_140 : decode cX9_digest 140 = .ok (.ladd, 1) := by decide +kernel
theorem dX9_digest_141 : decode cX9_digest 141 = .ok (.lstore_n 1, 1) := by decide +kernel
theorem dX9_digest_142 : decode cX9_digest 142 = .ok (.lload_n 1, 1) := by decide +kernel
theorem dX9_digest_143 : decode cX9_digest 143 = .ok (.ldc2_w 257, 3) := by decide +kernel
theorem dX9_digest_146 : decode cX9_digest 146 = .ok (.lmul, 1) := by decide +kernel
theorem dX9_digest_147 : decode cX9_digest 147 = .ok (.aload_n 0, 1) := by decide +kernel
theorem dX9_digest_148 : decode cX9_digest 148 = .ok (.getfield 38, 3) := by decide +kernel
theorem dX9_digest_151 : decode cX9_digest 151 = .ok (.getfield 218, 3) := by decide +kernel
theorem dX9_digest_154 : decode cX9_digest 154 = .ok (.i2l, 1) := by decide +kernel
theorem dX9_digest_155 : decode cX9_digest 155 = .ok (.ladd, 1) := by decide +kernel
theorem dX9_digest_156 : decode cX9_digest 156 = .ok (.lstore_n 1, 1) := by decide +kernel
theorem dX9_digest_157 : decode cX9_digest 157 = .ok (.lload_n 1, 1) := by decide +kernel
theorem dX9_digest_158 : decode cX9_digest 158 = .ok (.ldc2_w 257, 3) := by decide +kernel
theorem dX9_digest_161 : decode cX9_digest 161 = .ok (.lmul, 1) := by decide +kernel
theorem dX9_digest_162 : decode cX9_digest 162 = .ok (.aload_n 0, 1) := by decide +kernel
theorem dX9_digest_163 : decode cX9_digest 163 = .ok (.getfield 38, 3) := by decide +kernel
theorem dX9_digest_166 : decode cX9_digest 166 = .ok (.invokevirtual 159, 3) := by decide +kernel
theorem dX9_digest_169 : decode cX9_digest 169 = .ok (.i2l, 1) := by decide +kernel
theorem dX9_digest_170 : decode cX9_digest 170 = .ok (.ladd, 1) := by decide +kernel
theorem dX9_digest_171 : decode cX9_digest 171 = .ok (.lstore_n 1, 1) := by decide +kernel
theorem dX9_digest_172 : decode cX9_digest 172 = .ok (.lload_n 1, 1) := by decide +kernel
theorem dX9_digest_173 : decode cX9_digest 173 = .ok (.ldc2_w 257, 3) := by decide +kernel
theorem dX9_digest_176 : decode cX9_digest 176 = .ok (.lmul, 1) := by decide +kernel
theorem dX9_digest_177 : decode cX9_digest 177 = .ok (.aload_n 0, 1) := by decide +kernel
theorem dX9_digest_178 : decode cX9_digest 178 = .ok (.getfield 38, 3) := by decide +kernel
theorem dX9_digest_181 : decode cX9_digest 181 = .ok (.invokevirtual 168, 3) := by decide +kernel
theorem dX9_digest_184 : decode cX9_digest 184 = .ok (.invokestatic 259, 3) := by decide +kernel
theorem dX9_digest_187 : decode cX9_digest 187 = .ok (.i2l, 1) := by decide +kernel
theorem dX9_digest_188 : decode cX9_digest 188 = .ok (.ladd, 1) := by decide +kernel
theorem dX9_digest_189 : decode cX9_digest 189 = .ok (.lstore_n 1, 1) := by decide +kernel
theorem dX9_digest_190 : decode cX9_digest 190 = .ok (.lload_n 1, 1) := by decide +kernel
theorem dX9_digest_191 : decode cX9_digest 191 = .ok (.ldc2_w 257, 3) := by decide +kernel
theorem dX9_digest_194 : decode cX9_digest 194 = .ok (.lmul, 1) := by decide +kernel
theorem dX9_digest_195 : decode cX9_digest 195 = .ok (.aload_n 0, 1) := by decide +kernel
theorem dX9_digest_196 : decode cX9_digest 196 = .ok (.getfield 59, 3) := by decide +kernel
theorem dX9_digest_199 : decode cX9_digest 199 = .ok (.invokevirtual 232, 3) := by decide +kernel
theorem dX9_digest_202 : decode cX9_digest 202 = .ok (.i2l, 1) := by decide +kernel
theorem dX9_digest_203 : decode cX9_digest 203 = .ok (.ladd, 1) := by decide +kernel
theorem dX9_digest_204 : decode cX9_digest 204 = .ok (.lstore_n 1, 1) := by decide +kernel
theorem dX9_digest_205 : decode cX9_digest 205 = .ok (.aload_n 0, 1) := by decide +kernel
theorem dX9_digest_206 : decode cX9_digest 206 = .ok (.lload_n 1, 1) := by decide +kernel
theorem dX9_digest_207 : decode cX9_digest 207 = .ok (.invokevirtual 262, 3) := by decide +kernel
theorem dX9_digest_210 : decode cX9_digest 210 = .ok (.lreturn, 1) := by decide +kernel
theorem dX9_digestRows_0 : decode cX9_digestRows 0 = .ok (.lload_n 1, 1) := by decide +kernel
theorem dX9_digestRows_1 : decode cX9_digestRows 1 = .ok (.lstore_n 3, 1) := by decide +kernel
theorem dX9_digestRows_2 : decode cX9_digestRows 2 = .ok (.iconst 0, 1) := by decide +kernel
theorem dX9_digestRows_3 : decode cX9_digestRows 3 = .ok (.istore 5, 2) := by decide +kernel
theorem dX9_digestRows_5 : decode cX9_digestRows 5 = .ok (.iload 5, 2) := by decide +kernel
theorem dX9_digestRows_7 : decode cX9_digestRows 7 = .ok (.aload_n 0, 1) := by decide +kernel
theorem dX9_digestRows_8 : decode cX9_digestRows 8 = .ok (.getfield 38, 3) := by decide +kernel
theorem dX9_digestRows_11 : decode cX9_digestRows 11 = .ok (.getfield 120, 3) := by decide +kernel
theorem dX9_digestRows_14 : decode cX9_digestRows 14 = .ok (.if_icmp .ge 65, 3) := by decide +kernel
theorem dX9_digestRows_17 : decode cX9_digestRows 17 = .ok (.lload_n 3, 1) := by decide +kernel
theorem dX9_digestRows_18 : decode cX9_digestRows 18 = .ok (.ldc2_w 257, 3) := by decide +kernel
theorem dX9_digestRows_21 : decode cX9_digestRows 21 = .ok (.lmul, 1) := by decide +kernel
theorem dX9_digestRows_22 : decode cX9_digestRows 22 = .ok (.aload_n 0, 1) := by decide +kernel
theorem dX9_digestRows_23 : decode cX9_digestRows 23 = .ok (.getfield 38, 3) := by decide +kernel
theorem dX9_digestRows_26 : decode cX9_digestRows 26 = .ok (.getfield 132, 3) := by decide +kernel
theorem dX9_digestRows_29 : decode cX9_digestRows 29 = .ok (.iload 5, 2) := by decide +kernel
theorem dX9_digestRows_31 : decode cX9_digestRows 31 = .ok (.iaload, 1) := by decide +kernel
theorem dX9_digestRows_32 : decode cX9_digestRows 32 = .ok (.i2l, 1) := by decide +kernel
theorem dX9_digestRows_33 : decode cX9_digestRows 33 = .ok (.ladd, 1) := by decide +kernel
theorem dX9_digestRows_34 : decode cX9_digestRows 34 = .ok (.lstore_n 3, 1) := by decide +kernel
theorem dX9_digestRows_35 : decode cX9_digestRows 35 = .ok (.lload_n 3, 1) := by decide +kernel
theorem dX9_digestRows_36 : decode cX9_digestRows 36 = .ok (.ldc2_w 257, 3) := by decide +kernel
theorem dX9_digestRows_39 : decode cX9_digestRows 39 = .ok (.lmul, 1) := by decide +kernel
theorem dX9_digestRows_40 : decode cX9_digestRows 40 = .ok (.aload_n 0, 1) := by decide +kernel
theorem dX9_digestRows_41 : decode cX9_digestRows 41 = .ok (.getfield 38, 3) := by decide +kernel
theorem dX9_digestRows_44 : decode cX9_digestRows 44 = .ok (.getfield 136, 3) := by decide +kernel
theorem dX9_digestRows_47 : decode cX9_digestRows 47 = .ok (.iload 5, 2) := by decide +kernel
theorem dX9_digestRows_49 : decode cX9_digestRows 49 = .ok (.iaload, 1) := by decide +kernel
theorem dX9_digestRows_50 : decode cX9_digestRows 50 = .ok (.i2l, 1) := by decide +kernel
theorem dX9_digestRows_51 : decode cX9_digestRows 51 = .ok (.ladd, 1) := by decide +kernel
theorem dX9_digestRows_52 : decode cX9_digestRows 52 = .ok (.lstore_n 3, 1) := by decide +kernel
theorem dX9_digestRows_53 : decode cX9_digestRows 53 = .ok (.lload_n 3, 1) := by decide +kernel
theorem dX9_digestRows_54 : decode cX9_digestRows 54 = .ok (.ldc2_w 257, 3) := by decide +kernel
theorem dX9_digestRows_57 : decode cX9_digestRows 57 = .ok (.lmul, 1) := by decide +kernel
theorem dX9_digestRows_58 : decode cX9_digestRows 58 = .ok (.aload_n 0, 1) := by decide +kernel
theorem dX9_digestRows_59 : decode cX9_digestRows 59 = .ok (.getfield 38, 3) := by decide +kernel
theorem dX9_digestRows_62 : decode cX9_digestRows 62 = .ok (.iload 5, 2) := by decide +kernel
theorem dX9_digestRows_64 : decode cX9_digestRows 64 = .ok (.invokevirtual 139, 3) := by decide +kernel
theorem dX9_digestRows_67 : decode cX9_digestRows 67 = .ok (.invokestatic 259, 3) := by decide +kernel
theorem dX9_digestRows_70 : decode cX9_digestRows 70 = .ok (.i2l, 1) := by decide +kernel
theorem dX9_digestRows_71 : decode cX9_digestRows 71 = .ok (.ladd, 1) := by decide +kernel
theorem dX9_digestRows_72 : decode cX9_digestRows 72 = .ok (.lstore_n 3, 1) := by decide +kernel
theorem dX9_digestRows_73 : decode cX9_digestRows 73 = .ok (.iinc 5 1, 3) := by decide +kernel
theorem dX9_digestRows_76 : decode cX9_digestRows 76 = .ok (.goto (-71), 3) := by decide +kernel
theorem dX9_digestRows_79 : decode cX9_digestRows 79 = .ok (.iconst 0, 1) := by decide +kernel
theorem dX9_digestRows_80 : decode cX9_digestRows 80 = .ok (.istore 5, 2) := by decide +kernel
theorem dX9_digestRows_82 : decode cX9_digestRows 82 = .ok (.iload 5, 2) := by decide +kernel
theorem dX9_digestRows_84 : decode cX9_digestRows 84 = .ok (.aload_n 0, 1) := by decide +kernel
theorem dX9_digestRows_85 : decode cX9_digestRows 85 = .ok (.getfield 38, 3) := by decide +kernel
theorem dX9_digestRows_88 : decode cX9_digestRows 88 = .ok (.getfield 123, 3) := by decide +kernel
theorem dX9_digestRows_91 : decode cX9_digestRows 91 = .ok (.if_icmp .ge 65, 3) := by decide +kernel
theorem dX9_digestRows_94 : decode cX9_digestRows 94 = .ok (.lload_n 3, 1) := by decide +kernel
theorem dX9_digestRows_95 : decode cX9_digestRows 95 = .ok (.ldc2_w 257, 3) := by decide +kernel
theorem dX9_digestRows_98 : decode cX9_digestRows 98 = .ok (.lmul, 1) := by decide +kernel
theorem dX9_digestRows_99 : decode cX9_digestRows 99 = .ok (.aload_n 0, 1) := by decide +kernel
theorem dX9_digestRows_100 : decode cX9_digestRows 100 = .ok (.getfield 38, 3) := by decide +kernel
theorem dX9_digestRows_103 : decode cX9_digestRows 103 = .ok (.getfield 148, 3) := by decide +kernel
theorem dX9_digestRows_106 : decode cX9_digestRows 106 = .ok (.iload 5, 2) := by decide +kernel
theorem dX9_digestRows_108 : decode cX9_digestRows 108 = .ok (.iaload, 1) := by decide +kernel
theorem dX9_digestRows_109 : decode cX9_digestRows 109 = .ok (.i2l, 1) := by decide +kernel
theorem dX9_digestRows_110 : decode cX9_digestRows 110 = .ok (.ladd, 1) := by decide +kernel
theorem dX9_digestRows_111 : decode cX9_digestRows 111 = .ok (.lstore_n 3, 1) := by decide +kernel
theorem dX9_digestRows_112 : decode cX9_digestRows 112 = .ok (.lload_n 3, 1) := by decide +kernel
theorem dX9_digestRows_113 : decode cX9_digestRows 113 = .ok (.ldc2_w 257, 3) := by decide +kernel
theorem dX9_digestRows_116 : decode cX9_digestRows 116 = .ok (.lmul, 1) := by decide +kernel
theorem dX9_digestRows_117 : decode cX9_digestRows 117 = .ok (.aload_n 0, 1) := by decide +kernel
theorem dX9_digestRows_118 : decode cX9_digestRows 118 = .ok (.getfield 38, 3) := by decide +kernel
theorem dX9_digestRows_121 : decode cX9_digestRows 121 = .ok (.iload 5, 2) := by decide +kernel
theorem dX9_digestRows_123 : decode cX9_digestRows 123 = .ok (.invokevirtual 151, 3) := by decide +kernel
theorem dX9_digestRows_126 : decode cX9_digestRows 126 = .ok (.i2l, 1) := by decide +kernel
theorem dX9_digestRows_127 : decode cX9_digestRows 127 = .ok (.ladd, 1) := by decide +kernel
theorem dX9_digestRows_128 : decode cX9_digestRows 128 = .ok (.lstore_n 3, 1) := by decide +kernel
theorem dX9_digestRows_129 : decode cX9_digestRows 129 = .ok (.lload_n 3, 1) := by decide +kernel
theorem dX9_digestRows_130 : decode cX9_digestRows 130 = .ok (.ldc2_w 257, 3) := by decide +kernel
theorem dX9_digestRows_133 : decode cX9_digestRows 133 = .ok (.lmul, 1) := by decide +kernel
theorem dX9_digestRows_134 : decode cX9_digestRows 134 = .ok (.aload_n 0, 1) := by decide +kernel
theorem dX9_digestRows_135 : decode cX9_digestRows 135 = .ok (.getfield 38, 3) := by decide +kernel
theorem dX9_digestRows_138 : decode cX9_digestRows 138 = .ok (.getfield 155, 3) := by decide +kernel
theorem dX9_digestRows_141 : decode cX9_digestRows 141 = .ok (.iload 5, 2) := by decide +kernel
theorem dX9_digestRows_143 : decode cX9_digestRows 143 = .ok (.baload, 1) := by decide +kernel
theorem dX9_digestRows_144 : decode cX9_digestRows 144 = .ok (.invokestatic 259, 3) := by decide +kernel
theorem dX9_digestRows_147 : decode cX9_digestRows 147 = .ok (.i2l, 1) := by decide +kernel
theorem dX9_digestRows_148 : decode cX9_digestRows 148 = .ok (.ladd, 1) := by decide +kernel
theorem dX9_digestRows_149 : decode cX9_digestRows 149 = .ok (.lstore_n 3, 1) := by decide +kernel
theorem dX9_digestRows_150 : decode cX9_digestRows 150 = .ok (.iinc 5 1, 3) := by decide +kernel
theorem dX9_digestRows_153 : decode cX9_digestRows 153 = .ok (.goto (-71), 3) := by decide +kernel
theorem dX9_digestRows_156 : decode cX9_digestRows 156 = .ok (.iconst 0, 1) := by decide +kernel
theorem dX9_digestRows_157 : decode cX9_digestRows 157 = .ok (.istore 5, 2) := by decide +kernel
theorem dX9_digestRows_159 : decode cX9_digestRows 159 = .ok (.iload 5, 2) := by decide +kernel
theorem dX9_digestRows_161 : decode cX9_digestRows 161 = .ok (.bipush 10, 2) := by decide +kernel
theorem dX9_digestRows_163 : decode cX9_digestRows 163 = .ok (.if_icmp .ge 38, 3) := by decide +kernel
theorem dX9_digestRows_166 : decode cX9_digestRows 166 = .ok (.iload 5, 2) := by decide +kernel
theorem dX9_digestRows_168 : decode cX9_digestRows 168 = .ok (.aload_n 0, 1) := by decide +kernel
theorem dX9_digestRows_169 : decode cX9_digestRows 169 = .ok (.getfield 38, 3) := by decide +kernel
theorem dX9_digestRows_172 : decode cX9_digestRows 172 = .ok (.getfield 218, 3) := by decide +kernel
theorem dX9_digestRows_175 : decode cX9_digestRows 175 = .ok (.if_icmp .ge 26, 3) := by decide +kernel
theorem dX9_digestRows_178 : decode cX9_digestRows 178 = .ok (.lload_n 3, 1) := by decide +kernel
theorem dX9_digestRows_179 : decode cX9_digestRows 179 = .ok (.ldc2_w 257, 3) := by decide +kernel
theorem dX9_digestRows_182 : decode cX9_digestRows 182 = .ok (.lmul, 1) := by decide +kernel
theorem dX9_digestRows_183 : decode cX9_digestRows 183 = .ok (.aload_n 0, 1) := by decide +kernel
theorem dX9_digestRows_184 : decode cX9_digestRows 184 = .ok (.getfield 38, 3) := by decide +kernel
theorem dX9_digestRows_187 : decode cX9_digestRows 187 = .ok (.iload 5, 2) := by decide +kernel
theorem dX9_digestRows_189 : decode cX9_digestRows 189 = .ok (.invokevirtual 226, 3) := by decide +kernel
theorem dX9_digestRows_192 : decode cX9_digestRows 192 = .ok (.i2l, 1) := by decide +kernel
theorem dX9_digestRows_193 : decode cX9_digestRows 193 = .ok (.ladd, 1) := by decide +kernel
theorem dX9_digestRows_194 : decode cX9_digestRows 194 = .ok (.lstore_n 3, 1) := by decide +kernel
theorem dX9_digestRows_195 : decode cX9_digestRows 195 = .ok (.iinc 5 1, 3) := by decide +kernel
theorem dX9_digestRows_198 : decode cX9_digestRows 198 = .ok (.goto (-39), 3) := by decide +kernel
theorem dX9_digestRows_201 : decode cX9_digestRows 201 = .ok (.lload_n 3, 1) := by decide +kernel
theorem dX9_digestRows_202 : decode cX9_digestRows 202 = .ok (.lreturn, 1) := by decide +kernel
theorem dX9_oneIf_0 : decode cX9_oneIf 0 = .ok (.iload_n 0, 1) := by decide +kernel
theorem dX9_oneIf_1 : decode cX9_oneIf 1 = .ok (.ifCond .eq 7, 3) := by decide +kernel
theorem dX9_oneIf_4 : decode cX9_oneIf 4 = .ok (.iconst 1, 1) := by decide +kernel
theorem dX9_oneIf_5 : decode cX9_oneIf 5 = .ok (.goto 4, 3) := by decide +kernel
theorem dX9_oneIf_8 : decode cX9_oneIf 8 = .ok (.iconst 0, 1) := by decide +kernel
theorem dX9_oneIf_9 : decode cX9_oneIf 9 = .ok (.ireturn, 1) := by decide +kernel
theorem dX9_crossNow_0 : decode cX9_crossNow 0 = .ok (.aload_n 0, 1) := by decide +kernel
theorem dX9_crossNow_1 : decode cX9_crossNow 1 = .ok (.getfield 38, 3) := by decide +kernel
theorem dX9_crossNow_4 : decode cX9_crossNow 4 = .ok (.iload_n 1, 1) := by decide +kernel
theorem dX9_crossNow_5 : decode cX9_crossNow 5 = .ok (.iload_n 2, 1) := by decide +kernel
theorem dX9_crossNow_6 : decode cX9_crossNow 6 = .ok (.invokevirtual 266, 3) := by decide +kernel
theorem dX9_crossNow_9 : decode cX9_crossNow 9 = .ok (.ifCond .ne 14, 3) := by decide +kernel
theorem dX9_crossNow_12 : decode cX9_crossNow 12 = .ok (.new 77, 3) := by decide +kernel
theorem dX9_crossNow_15 : decode cX9_crossNow 15 = .ok (.dup, 1) := by decide +kernel
theorem dX9_crossNow_16 : decode cX9_crossNow 16 = .ok (.ldc_w 269, 3) := by decide +kernel
theorem dX9_crossNow_19 : decode cX9_crossNow 19 = .ok (.invokespecial 81, 3) := by decide +kernel
theorem dX9_crossNow_22 : decode cX9_crossNow 22 = .ok (.athrow, 1) := by decide +kernel
theorem dX9_crossNow_23 : decode cX9_crossNow 23 = .ok (.aload_n 0, 1) := by decide +kernel
theorem dX9_crossNow_24 : decode cX9_crossNow 24 = .ok (.getfield 38, 3) := by decide +kernel
theorem dX9_crossNow_27 : decode cX9_crossNow 27 = .ok (.iload_n 1, 1) := by decide +kernel
theorem dX9_crossNow_28 : decode cX9_crossNow 28 = .ok (.iload_n 2, 1) := by decide +kernel
theorem dX9_crossNow_29 : decode cX9_crossNow 29 = .ok (.invokevirtual 271, 3) := by decide +kernel
theorem dX9_crossNow_32 : decode cX9_crossNow 32 = .ok (.ireturn, 1) := by decide +kernel
theorem dX9_wouldCross_0 : decode cX9_wouldCross 0 = .ok (.aload_n 0, 1) := by decide +kernel
theorem dX9_wouldCross_1 : decode cX9_wouldCross 1 = .ok (.getfield 38, 3) := by decide +kernel
theorem dX9_wouldCross_4 : decode cX9_wouldCross 4 = .ok (.iload_n 1, 1) := by decide +kernel
theorem dX9_wouldCross_5 : decode cX9_wouldCross 5 = .ok (.iload_n 2, 1) := by decide +kernel
theorem dX9_wouldCross_6 : decode cX9_wouldCross 6 = .ok (.invokevirtual 266, 3) := by decide +kernel
theorem dX9_wouldCross_9 : decode cX9_wouldCross 9 = .ok (.ifCond .ne 5, 3) := by decide +kernel
theorem dX9_wouldCross_12 : decode cX9_wouldCross 12 = .ok (.iconst 0, 1) := by decide +kernel
theorem dX9_wouldCross_13 : decode cX9_wouldCross 13 = .ok (.ireturn, 1) := by decide +kernel
theorem dX9_wouldCross_14 : decode cX9_wouldCross 14 = .ok (.aload_n 0, 1) := by decide +kernel
theorem dX9_wouldCross_15 : decode cX9_wouldCross 15 = .ok (.getfield 42, 3) := by decide +kernel
theorem dX9_wouldCross_18 : decode cX9_wouldCross 18 = .ok (.aload_n 0, 1) := by decide +kernel
theorem dX9_wouldCross_19 : decode cX9_wouldCross 19 = .ok (.getfield 38, 3) := by decide +kernel
theorem dX9_wouldCross_22 : decode cX9_wouldCross 22 = .ok (.invokevirtual 244, 3) := by decide +kernel
theorem dX9_wouldCross_25 : decode cX9_wouldCross 25 = .ok (.aload_n 0, 1) := by decide +kernel
theorem dX9_wouldCross_26 : decode cX9_wouldCross 26 = .ok (.getfield 42, 3) := by decide +kernel
theorem dX9_wouldCross_29 : decode cX9_wouldCross 29 = .ok (.iload_n 1, 1) := by decide +kernel
theorem dX9_wouldCross_30 : decode cX9_wouldCross 30 = .ok (.iload_n 2, 1) := by decide +kernel
theorem dX9_wouldCross_31 : decode cX9_wouldCross 31 = .ok (.invokevirtual 271, 3) := by decide +kernel
theorem dX9_wouldCross_34 : decode cX9_wouldCross 34 = .ok (.ireturn, 1) := by decide +kernel
theorem dX9_requireWalker_0 : decode cX9_requireWalker 0 = .ok (.iload_n 1, 1) := by decide +kernel
theorem dX9_requireWalker_1 : decode cX9_requireWalker 1 = .ok (.ifCond .lt 14, 3) := by decide +kernel
theorem dX9_requireWalker_4 : decode cX9_requireWalker 4 = .ok (.iload_n 1, 1) := by decide +kernel
theorem dX9_requireWalker_5 : decode cX9_requireWalker 5 = .ok (.aload_n 0, 1) := by decide +kernel
theorem dX9_requireWalker_6 : decode cX9_requireWalker 6 = .ok (.getfield 38, 3) := by decide +kernel
theorem dX9_requireWalker_9 : decode cX9_requireWalker 9 = .ok (.getfield 120, 3) := by decide +kernel
theorem dX9_requireWalker_12 : decode cX9_requireWalker 12 = .ok (.if_icmp .lt 14, 3) := by decide +kernel
theorem dX9_requireWalker_15 : decode cX9_requireWalker 15 = .ok (.new 221, 3) := by decide +kernel
theorem dX9_requireWalker_18 : decode cX9_requireWalker 18 = .ok (.dup, 1) := by decide +kernel
theorem dX9_requireWalker_19 : decode cX9_requireWalker 19 = .ok (.ldc_w 274, 3) := by decide +kernel
theorem dX9_requireWalker_22 : decode cX9_requireWalker 22 = .ok (.invokespecial 225, 3) := by decide +kernel
theorem dX9_requireWalker_25 : decode cX9_requireWalker 25 = .ok (.athrow, 1) := by decide +kernel
theorem dX9_requireWalker_26 : decode cX9_requireWalker 26 = .ok (.return_, 1) := by decide +kernel
theorem dX9_requireTwo_0 : decode cX9_requireTwo 0 = .ok (.aload_n 0, 1) := by decide +kernel
theorem dX9_requireTwo_1 : decode cX9_requireTwo 1 = .ok (.iload_n 1, 1) := by decide +kernel
theorem dX9_requireTwo_2 : decode cX9_requireTwo 2 = .ok (.invokevirtual 129, 3) := by decide +kernel
theorem dX9_requireTwo_5 : decode cX9_requireTwo 5 = .ok (.aload_n 0, 1) := by decide +kernel
theorem dX9_requireTwo_6 : decode cX9_requireTwo 6 = .ok (.iload_n 2, 1) := by decide +kernel
theorem dX9_requireTwo_7 : decode cX9_requireTwo 7 = .ok (.invokevirtual 129, 3) := by decide +kernel
theorem dX9_requireTwo_10 : decode cX9_requireTwo 10 = .ok (.iload_n 1, 1) := by decide +kernel
theorem dX9_requireTwo_11 : decode cX9_requireTwo 11 = .ok (.iload_n 2, 1) := by decide +kernel
theorem dX9_requireTwo_12 : decode cX9_requireTwo 12 = .ok (.if_icmp .ne 14, 3) := by decide +kernel
theorem dX9_requireTwo_15 : decode cX9_requireTwo 15 = .ok (.new 91, 3) := by decide +kernel
theorem dX9_requireTwo_18 : decode cX9_requireTwo 18 = .ok (.dup, 1) := by decide +kernel
theorem dX9_requireTwo_19 : decode cX9_requireTwo 19 = .ok (.ldc_w 276, 3) := by decide +kernel
theorem dX9_requireTwo_22 : decode cX9_requireTwo 22 = .ok (.invokespecial 95, 3) := by decide +kernel
theorem dX9_requireTwo_25 : decode cX9_requireTwo 25 = .ok (.athrow, 1) := by decide +kernel
theorem dX9_requireTwo_26 : decode cX9_requireTwo 26 = .ok (.return_, 1) := by decide +kernel
theorem dX9_requirePlank_0 : decode cX9_requirePlank 0 = .ok (.iload_n 1, 1) := by decide +kernel
theorem dX9_requirePlank_1 : decode cX9_requirePlank 1 = .ok (.ifCond .lt 14, 3) := by decide +kernel
theorem dX9_requirePlank_4 : decode cX9_requirePlank 4 = .ok (.iload_n 1, 1) := by decide +kernel
theorem dX9_requirePlank_5 : decode cX9_requirePlank 5 = .ok (.aload_n 0, 1) := by decide +kernel
theorem dX9_requirePlank_6 : decode cX9_requirePlank 6 = .ok (.getfield 38, 3) := by decide +kernel
theorem dX9_requirePlank_9 : decode cX9_requirePlank 9 = .ok (.getfield 123, 3) := by decide +kernel
theorem dX9_requirePlank_12 : decode cX9_requirePlank 12 = .ok (.if_icmp .lt 14, 3) := by decide +kernel
theorem dX9_requirePlank_15 : decode cX9_requirePlank 15 = .ok (.new 221, 3) := by decide +kernel
theorem dX9_requirePlank_18 : decode cX9_requirePlank 18 = .ok (.dup, 1) := by decide +kernel
theorem dX9_requirePlank_19 : decode cX9_requirePlank 19 = .ok (.ldc_w 278, 3) := by decide +kernel
theorem dX9_requirePlank_22 : decode cX9_requirePlank 22 = .ok (.invokespecial 225, 3) := by decide +kernel
theorem dX9_requirePlank_25 : decode cX9_requirePlank 25 = .ok (.athrow, 1) := by decide +kernel
theorem dX9_requirePlank_26 : decode cX9_requirePlank 26 = .ok (.return_, 1) := by decide +kernel
theorem dX9_requireSomePlank_0 : decode cX9_requireSomePlank 0 = .ok (.aload_n 0, 1) := by decide +kernel
theorem dX9_requireSomePlank_1 : decode cX9_requireSomePlank 1 = .ok (.getfield 38, 3) := by decide +kernel
theorem dX9_requireSomePlank_4 : decode cX9_requireSomePlank 4 = .ok (.iconst 1, 1) := by decide +kernel
theorem dX9_requireSomePlank_5 : decode cX9_requireSomePlank 5 = .ok (.invokevirtual 165, 3) := by decide +kernel
theorem dX9_requireSomePlank_8 : decode cX9_requireSomePlank 8 = .ok (.iconst (-1), 1) := by decide +kernel
theorem dX9_requireSomePlank_9 : decode cX9_requireSomePlank 9 = .ok (.if_icmp .ne 14, 3) := by decide +kernel
theorem dX9_requireSomePlank_12 : decode cX9_requireSomePlank 12 = .ok (.new 77, 3) := by decide +kernel
theorem dX9_requireSomePlank_15 : decode cX9_requireSomePlank 15 = .ok (.dup, 1) := by decide +kernel
theorem dX9_requireSomePlank_16 : decode cX9_requireSomePlank 16 = .ok (.ldc_w 280, 3) := by decide +kernel
theorem dX9_requireSomePlank_19 : decode cX9_requireSomePlank 19 = .ok (.invokespecial 81, 3) := by decide +kernel
theorem dX9_requireSomePlank_22 : decode cX9_requireSomePlank 22 = .ok (.athrow, 1) := by decide +kernel
theorem dX9_requireSomePlank_23 : decode cX9_requireSomePlank 23 = .ok (.return_, 1) := by decide +kernel
theorem dX9_requirePlan_0 : decode cX9_requirePlan 0 = .ok (.iload_n 1, 1) := by decide +kernel
theorem dX9_requirePlan_1 : decode cX9_requirePlan 1 = .ok (.ifCond .lt 14, 3) := by decide +kernel
theorem dX9_requirePlan_4 : decode cX9_requirePlan 4 = .ok (.iload_n 1, 1) := by decide +kernel
theorem dX9_requirePlan_5 : decode cX9_requirePlan 5 = .ok (.aload_n 0, 1) := by decide +kernel
theorem dX9_requirePlan_6 : decode cX9_requirePlan 6 = .ok (.getfield 19, 3) := by decide +kernel
theorem dX9_requirePlan_9 : decode cX9_requirePlan 9 = .ok (.getfield 126, 3) := by decide +kernel
theorem dX9_requirePlan_12 : decode cX9_requirePlan 12 = .ok (.if_icmp .lt 14, 3) := by decide +kernel
theorem dX9_requirePlan_15 : decode cX9_requirePlan 15 = .ok (.new 221, 3) := by decide +kernel
theorem dX9_requirePlan_18 : decode cX9_requirePlan 18 = .ok (.dup, 1) := by decide +kernel
theorem dX9_requirePlan_19 : decode cX9_requirePlan 19 = .ok (.ldc_w 282, 3) := by decide +kernel
theorem dX9_requirePlan_22 : decode cX9_requirePlan 22 = .ok (.invokespecial 225, 3) := by decide +kernel
theorem dX9_requirePlan_25 : decode cX9_requirePlan 25 = .ok (.athrow, 1) := by decide +kernel
theorem dX9_requirePlan_26 : decode cX9_requirePlan 26 = .ok (.return_, 1) := by decide +kernel
theorem dX9_requireSomebodyNear_0 : decode cX9_requireSomebodyNear 0 = .ok (.aload_n 0, 1) := by decide +kernel
theorem dX9_requireSomebodyNear_1 : decode cX9_requireSomebodyNear 1 = .ok (.getfield 38, 3) := by decide +kernel
theorem dX9_requireSomebodyNear_4 : decode cX9_requireSomebodyNear 4 = .ok (.getfield 284, 3) := by decide +kernel
theorem dX9_requireSomebodyNear_7 : decode cX9_requireSomebodyNear 7 = .ok (.ifCond .ne 14, 3) := by decide +kernel
theorem dX9_requireSomebodyNear_10 : decode cX9_requireSomebodyNear 10 = .ok (.new 77, 3) := by decide +kernel
theorem dX9_requireSomebodyNear_13 : decode cX9_requireSomebodyNear 13 = .ok (.dup, 1) := by decide +kernel
theorem dX9_requireSomebodyNear_14 : decode cX9_requireSomebodyNear 14 = .ok (.ldc_w 287, 3) := by decide +kernel
theorem dX9_requireSomebodyNear_17 : decode cX9_requireSomebodyNear 17 = .ok (.invokespecial 81, 3) := by decide +kernel
theorem dX9_requireSomebodyNear_20 : decode cX9_requireSomebodyNear 20 = .ok (.athrow, 1) := by decide +kernel
theorem dX9_requireSomebodyNear_21 : decode cX9_requireSomebodyNear 21 = .ok (.return_, 1) := by decide +kernel
theorem dX10_init_0 : decode cX10_init 0 = .ok (.aload_n 0, 1) := by decide +kernel
theorem dX10_init_1 : decode cX10_init 1 = .ok (.invokespecial 3, 3) := by decide +kernel
theorem dX10_init_4 : decode cX10_init 4 = .ok (.aload_n 0, 1) := by decide +kernel
theorem dX10_init_5 : decode cX10_init 5 = .ok (.bipush 9, 2) := by decide +kernel
theorem dX10_init_7 : decode cX10_init 7 = .ok (.newarray .int, 2) := by decide +kernel
theorem dX10_init_9 : decode cX10_init 9 = .ok (.putfield 9, 3) := by decide +kernel
theorem dX10_init_12 : decode cX10_init 12 = .ok (.aload_n 0, 1) := by decide +kernel
theorem dX10_init_13 : decode cX10_init 13 = .ok (.bipush 9, 2) := by decide +kernel
theorem dX10_init_15 : decode cX10_init 15 = .ok (.newarray .int, 2) := by decide +kernel
theorem dX10_init_17 : decode cX10_init 17 = .ok (.putfield 15, 3) := by decide +kernel
theorem dX10_init_20 : decode cX10_init 20 = .ok (.aload_n 0, 1) := by decide +kernel
theorem dX10_init_21 : decode cX10_init 21 = .ok (.bipush 13, 2) := by decide +kernel
theorem dX10_init_23 : decode cX10_init 23 = .ok (.newarray .int, 2) := by decide +kernel
theorem dX10_init_25 : decode cX10_init 25 = .ok (.putfield 18, 3) := by decide +kernel
theorem dX10_init_28 : decode cX10_init 28 = .ok (.aload_n 0, 1) := by decide +kernel
theorem dX10_init_29 : decode cX10_init 29 = .ok (.bipush 7, 2) := by decide +kernel
theorem dX10_init_31 : decode cX10_init 31 = .ok (.newarray .int, 2) := by decide +kernel
theorem dX10_init_33 : decode cX10_init 33 = .ok (.putfield 21, 3) := by decide +kernel
theorem dX10_init_36 : decode cX10_init 36 = .ok (.aload_n 0, 1) := by decide +kernel
theorem dX10_init_37 : decode cX10_init 37 = .ok (.sipush 1600, 3) := by decide +kernel
theorem dX10_init_40 : decode cX10_init 40 = .ok (.newarray .int, 2) := by decide +kernel
theorem dX10_init_42 : decode cX10_init 42 = .ok (.putfield 24, 3) := by decide +kernel
theorem dX10_init_45 : decode cX10_init 45 = .ok (.aload_n 0, 1) := by decide +kernel
theorem dX10_init_46 : decode cX10_init 46 = .ok (.sipush 1600, 3) := by decide +kernel
theorem dX10_init_49 : decode cX10_init 49 = .ok (.newarray .int, 2) := by decide +kernel
theorem dX10_init_51 : decode cX10_init 51 = .ok (.putfield 27, 3) := by decide +kernel
theorem dX10_init_54 : decode cX10_init 54 = .ok (.return_, 1) := by decide +kernel
theorem dX10_put_0 : decode cX10_put 0 = .ok (.iconst 4, 1) := by decide +kernel
theorem dX10_put_1 : decode cX10_put 1 = .ok (.aload_n 0, 1) := by decide +kernel
theorem dX10_put_2 : decode cX10_put 2 = .ok (.getfield 30, 3) := by decide +kernel
theorem dX10_put_5 : decode cX10_put 5 = .ok (.imul, 1) := by decide +kernel
theorem dX10_put_6 : decode cX10_put 6 = .ok (.istore 4, 2) := by decide +kernel
theorem dX10_put_8 : decode cX10_put 8 = .ok (.aload_n 0, 1) := by decide +kernel
theorem dX10_put_9 : decode cX10_put 9 = .ok (.getfield 24, 3) := by decide +kernel
theorem dX10_put_12 : decode cX10_put 12 = .ok (.iload 4, 2) := by decide +kernel
theorem dX10_put_14 : decode cX10_put 14 = .ok (.iconst 0, 1) := by decide +kernel
theorem dX10_put_15 : decode cX10_put 15 = .ok (.iadd, 1) := by decide +kernel
theorem dX10_put_16 : decode cX10_put 16 = .ok (.iload_n 1, 1) := by decide +kernel
theorem dX10_put_17 : decode cX10_put 17 = .ok (.iastore, 1) := by decide +kernel
theorem dX10_put_18 : decode cX10_put 18 = .ok (.aload_n 0, 1) := by decide +kernel
theorem dX10_put_19 : decode cX10_put 19 = .ok (.getfield 24, 3) := by decide +kernel
theorem dX10_put_22 : decode cX10_put 22 = .ok (.iload 4, 2) := by decide +kernel
theorem dX10_put_24 : decode cX10_put 24 = .ok (.iconst 1, 1) := by decide +kernel
theorem dX10_put_25 : decode cX10_put 25 = .ok (.iadd, 1) := by decide +kernel
theorem dX10_put_26 : decode cX10_put 26 = .ok (.iload_n 2, 1) := by decide +kernel
theorem dX10_put_27 : decode cX10_put 27 = .ok (.iastore, 1) := by decide +kernel
theorem dX10_put_28 : decode cX10_put 28 = .ok (.aload_n 0, 1) := by decide +kernel
theorem dX10_put_29 : decode cX10_put 29 = .ok (.getfield 24, 3) := by decide +kernel
theorem dX10_put_32 : decode cX10_put 32 = .ok (.iload 4, 2) := by decide +kernel
theorem dX10_put_34 : decode cX10_put 34 = .ok (.iconst 2, 1) := by decide +kernel
theorem dX10_put_35 : decode cX10_put 35 = .ok (.iadd, 1) := by decide +kernel
theorem dX10_put_36 : decode cX10_put 36 = .ok (.iload_n 3, 1) := by decide +kernel
theorem dX10_put_37 : decode cX10_put 37 = .ok (.iastore, 1) := by decide +kernel
theorem dX10_put_38 : decode cX10_put 38 = .ok (.aload_n 0, 1) := by decide +kernel
theorem dX10_put_39 : decode cX10_put 39 = .ok (.dup, 1) := by decide +kernel
theorem dX10_put_40 : decode cX10_put 40 = .ok (.getfield 30, 3) := by decide +kernel
theorem dX10_put_43 : decode cX10_put 43 = .ok (.iconst 1, 1) := by decide +kernel
theorem dX10_put_44 : decode cX10_put 44 = .ok (.iadd, 1) := by decide +kernel
theorem dX10_put_45 : decode cX10_put 45 = .ok (.putfield 30, 3) := by decide +kernel
theorem dX10_put_48 : decode cX10_put 48 = .ok (.aload_n 0, 1) := by decide +kernel
theorem dX10_put_49 : decode cX10_put 49 = .ok (.getfield 30, 3) := by decide +kernel
theorem dX10_put_52 : decode cX10_put 52 = .ok (.iconst 1, 1) := by decide +kernel
theorem dX10_put_53 : decode cX10_put 53 = .ok (.isub, 1) := by decide +kernel
theorem dX10_put_54 : decode cX10_put 54 = .ok (.ireturn, 1) := by decide +kernel
theorem dX11_init_0 : decode cX11_init 0 = .ok (.aload_n 0, 1) := by decide +kernel
theorem dX11_init_1 : decode cX11_init 1 = .ok (.aload_n 1, 1) := by decide +kernel
theorem dX11_init_2 : decode cX11_init 2 = .ok (.putfield 3, 3) := by decide +kernel
theorem dX11_init_5 : decode cX11_init 5 = .ok (.aload_n 0, 1) := by decide +kernel
theorem dX11_init_6 : decode cX11_init 6 = .ok (.invokespecial 9, 3) := by decide +kernel
theorem dX11_init_9 : decode cX11_init 9 = .ok (.aload_n 0, 1) := by decide +kernel
theorem dX11_init_10 : decode cX11_init 10 = .ok (.new 15, 3) := by decide +kernel
theorem dX11_init_13 : decode cX11_init 13 = .ok (.dup, 1) := by decide +kernel
theorem dX11_init_14 : decode cX11_init 14 = .ok (.invokespecial 17, 3) := by decide +kernel
theorem dX11_init_17 : decode cX11_init 17 = .ok (.putfield 18, 3) := by decide +kernel
theorem dX11_init_20 : decode cX11_init 20 = .ok (.aload_n 0, 1) := by decide +kernel
theorem dX11_init_21 : decode cX11_init 21 = .ok (.bipush 16, 2) := by decide +kernel
theorem dX11_init_23 : decode cX11_init 23 = .ok (.newarray .long, 2) := by decide +kernel
theorem dX11_init_25 : decode cX11_init 25 = .ok (.putfield 22, 3) := by decide +kernel
theorem dX11_init_28 : decode cX11_init 28 = .ok (.aload_n 0, 1) := by decide +kernel
theorem dX11_init_29 : decode cX11_init 29 = .ok (.iconst (-1), 1) := by decide +kernel
theorem dX11_init_30 : decode cX11_init 30 = .ok (.putfield 26, 3) := by decide +kernel
theorem dX11_init_33 : decode cX11_init 33 = .ok (.aload_n 0, 1) := by decide +kernel
theorem dX11_init_34 : decode cX11_init 34 = .ok (.iconst (-1), 1) := by decide +kernel
theorem dX11_init_35 : decode cX11_init 35 = .ok (.putfield 30, 3) := by decide +kernel
theorem dX11_init_38 : decode cX11_init 38 = .ok (.return_, 1) := by decide +kernel
theorem dX11_note_0 : decode cX11_note 0 = .ok (.aload_n 0, 1) := by decide +kernel
theorem dX11_note_1 : decode cX11_note 1 = .ok (.getfield 33, 3) := by decide +kernel
theorem dX11_note_4 : decode cX11_note 4 = .ok (.ifCond .eq 23, 3) := by decide +kernel
theorem dX11_note_7 : decode cX11_note 7 = .ok (.aload_n 0, 1) := by decide +kernel
theorem dX11_note_8 : decode cX11_note 8 = .ok (.getfield 26, 3) := by decide +kernel
theorem dX11_note_11 : decode cX11_note 11 = .ok (.aload_n 0, 1) := by decide +kernel
theorem dX11_note_12 : decode cX11_note 12 = .ok (.getfield 36, 3) := by decide +kernel
theorem dX11_note_15 : decode cX11_note 15 = .ok (.if_icmp .lt 11, 3) := by decide +kernel
theorem dX11_note_18 : decode cX11_note 18 = .ok (.aload_n 0, 1) := by decide +kernel
theorem dX11_note_19 : decode cX11_note 19 = .ok (.getfield 33, 3) := by decide +kernel
theorem dX11_note_22 : decode cX11_note 22 = .ok (.iload_n 1, 1) := by decide +kernel
theorem dX11_note_23 : decode cX11_note 23 = .ok (.if_icmp .ge 4, 3) := by decide +kernel
theorem dX11_note_26 : decode cX11_note 26 = .ok (.return_, 1) := by decide +kernel
theorem dX11_note_27 : decode cX11_note 27 = .ok (.aload_n 0, 1) := by decide +kernel
theorem dX11_note_28 : decode cX11_note 28 = .ok (.iload_n 1, 1) := by decide +kernel
theorem dX11_note_29 : decode cX11_note 29 = .ok (.putfield 33, 3) := by decide +kernel
theorem dX11_note_32 : decode cX11_note 32 = .ok (.aload_n 0, 1) := by decide +kernel
theorem dX11_note_33 : decode cX11_note 33 = .ok (.aload_n 0, 1) := by decide +kernel
theorem dX11_note_34 : decode cX11_note 34 = .ok (.getfield 36, 3) := by decide +kernel
theorem dX11_note_37 : decode cX11_note 37 = .ok (.putfield 26, 3) := by decide +kernel
theorem dX11_note_40 : decode cX11_note 40 = .ok (.return_, 1) := by decide +kernel
theorem dX11_wrong_0 : decode cX11_wrong 0 = .ok (.aload_n 0, 1) := by decide +kernel
theorem dX11_wrong_1 : decode cX11_wrong 1 = .ok (.aload_n 0, 1) := by decide +kernel
theorem dX11_wrong_2 : decode cX11_wrong 2 = .ok (.getfield 36, 3) := by decide +kernel
theorem dX11_wrong_5 : decode cX11_wrong 5 = .ok (.putfield 30, 3) := by decide +kernel
theorem dX11_wrong_8 : decode cX11_wrong 8 = .ok (.iconst 0, 1) := by decide +kernel
theorem dX11_wrong_9 : decode cX11_wrong 9 = .ok (.ireturn, 1) := by decide +kernel
theorem dX11_isLetter_0 : decode cX11_isLetter 0 = .ok (.iload_n 1, 1) := by decide +kernel
theorem dX11_isLetter_1 : decode cX11_isLetter 1 = .ok (.aload_n 0, 1) := by decide +kernel
theorem dX11_isLetter_2 : decode cX11_isLetter 2 = .ok (.getfield 3, 3) := by decide +kernel
theorem dX11_isLetter_5 : decode cX11_isLetter 5 = .ok (.getfield 39, 3) := by decide +kernel
theorem dX11_isLetter_8 : decode cX11_isLetter 8 = .ok (.if_icmp .ge 35, 3) := by decide +kernel
theorem dX11_isLetter_11 : decode cX11_isLetter 11 = .ok (.aload_n 0, 1) := by decide +kernel
theorem dX11_isLetter_12 : decode cX11_isLetter 12 = .ok (.getfield 3, 3) := by decide +kernel
theorem dX11_isLetter_15 : decode cX11_isLetter 15 = .ok (.getfield 42, 3) := by decide +kernel
theorem dX11_isLetter_18 : decode cX11_isLetter 18 = .ok (.iload_n 1, 1) := by decide +kernel
theorem dX11_isLetter_19 : decode cX11_isLetter 19 = .ok (.baload, 1) := by decide +kernel
theorem dX11_isLetter_20 : decode cX11_isLetter 20 = .ok (.bipush 97, 2) := by decide +kernel
theorem dX11_isLetter_22 : decode cX11_isLetter 22 = .ok (.if_icmp .lt 21, 3) := by decide +kernel
theorem dX11_isLetter_25 : decode cX11_isLetter 25 = .ok (.aload_n 0, 1) := by decide +kernel
theorem dX11_isLetter_26 : decode cX11_isLetter 26 = .ok (.getfield 3, 3) := by decide +kernel
theorem dX11_isLetter_29 : decode cX11_isLetter 29 = .ok (.getfield 42, 3) := by decide +kernel
theorem dX11_isLetter_32 : decode cX11_isLetter 32 = .ok (.iload_n 1, 1) := by decide +kernel
theorem dX11_isLetter_33 : decode cX11_isLetter 33 = .ok (.baload, 1) := by decide +kernel
theorem dX11_isLetter_34 : decode cX11_isLetter 34 = .ok (.bipush 122, 2) := by decide +kernel
theorem dX11_isLetter_36 : decode cX11_isLetter 36 = .ok (.if_icmp .gt 7, 3) := by decide +kernel
theorem dX11_isLetter_39 : decode cX11_isLetter 39 = .ok (.iconst 1, 1) := by decide +kernel
theorem dX11_isLetter_40 : decode cX11_isLetter 40 = .ok (.goto 4, 3) := by decide +kernel
theorem dX11_isLetter_43 : decode cX11_isLetter 43 = .ok (.iconst 0, 1) := by decide +kernel
theorem dX11_isLetter_44 : decode cX11_isLetter 44 = .ok (.ireturn, 1) := by decide +kernel
theorem dX11_isDigit_0 : decode cX11_isDigit 0 = .ok (.iload_n 1, 1) := by decide +kernel
theorem dX11_isDigit_1 : decode cX11_isDigit 1 = .ok (.aload_n 0, 1) := by decide +kernel
theorem dX11_isDigit_2 : decode cX11_isDigit 2 = .ok (.getfield 3, 3) := by decide +kernel
theorem dX11_isDigit_5 : decode cX11_isDigit 5 = .ok (.getfield 39, 3) := by decide +kernel
theorem dX11_isDigit_8 : decode cX11_isDigit 8 = .ok (.if_icmp .ge 35, 3) := by decide +kernel
theorem dX11_isDigit_11 : decode cX11_isDigit 11 = .ok (.aload_n 0, 1) := by decide +kernel
theorem dX11_isDigit_12 : decode cX11_isDigit 12 = .ok (.getfield 3, 3) := by decide +kernel
theorem dX11_isDigit_15 : decode cX11_isDigit 15 = .ok (.getfield 42, 3) := by decide +kernel
theorem dX11_isDigit_18 : decode cX11_isDigit 18 = .ok (.iload_n 1, 1) := by decide +kernel
theorem dX11_isDigit_19 : decode cX11_isDigit 19 = .ok (.baload, 1) := by decide +kernel
theorem dX11_isDigit_20 : decode cX11_isDigit 20 = .ok (.bipush 48, 2) := by decide +kernel
theorem dX11_isDigit_22 : decode cX11_isDigit 22 = .ok (.if_icmp .lt 21, 3) := by decide +kernel
theorem dX11_isDigit_25 : decode cX11_isDigit 25 = .ok (.aload_n 0, 1) := by decide +kernel
theorem dX11_isDigit_26 : decode cX11_isDigit 26 = .ok (.getfield 3, 3) := by decide +kernel
theorem dX11_isDigit_29 : decode cX11_isDigit 29 = .ok (.getfield 42, 3) := by decide +kernel
theorem dX11_isDigit_32 : decode cX11_isDigit 32 = .ok (.iload_n 1, 1) := by decide +kernel
theorem dX11_isDigit_33 : decode cX11_isDigit 33 = .ok (.baload, 1) := by decide +kernel
theorem dX11_isDigit_34 : decode cX11_isDigit 34 = .ok (.bipush 57, 2) := by decide +kernel
theorem dX11_isDigit_36 : decode cX11_isDigit 36 = .ok (.if_icmp .gt 7, 3) := by decide +kernel
theorem dX11_isDigit_39 : decode cX11_isDigit 39 = .ok (.iconst 1, 1) := by decide +kernel
theorem dX11_isDigit_40 : decode cX11_isDigit 40 = .ok (.goto 4, 3) := by decide +kernel
theorem dX11_isDigit_43 : decode cX11_isDigit 43 = .ok (.iconst 0, 1) := by decide +kernel
theorem dX11_isDigit_44 : decode cX11_isDigit 44 = .ok (.ireturn, 1) := by decide +kernel
theorem dX11_next_0 : decode cX11_next 0 = .ok (.aload_n 0, 1) := by decide +kernel
theorem dX11_next_1 : decode cX11_next 1 = .ok (.getfield 46, 3) := by decide +kernel
theorem dX11_next_4 : decode cX11_next 4 = .ok (.aload_n 0, 1) := by decide +kernel
theorem dX11_next_5 : decode cX11_next 5 = .ok (.getfield 3, 3) := by decide +kernel
theorem dX11_next_8 : decode cX11_next 8 = .ok (.getfield 39, 3) := by decide +kernel
theorem dX11_next_11 : decode cX11_next 11 = .ok (.if_icmp .ge 50, 3) := by decide +kernel
theorem dX11_next_14 : decode cX11_next 14 = .ok (.aload_n 0, 1) := by decide +kernel
theorem dX11_next_15 : decode cX11_next 15 = .ok (.getfield 3, 3) := by decide +kernel
theorem dX11_next_18 : decode cX11_next 18 = .ok (.getfield 42, 3) := by decide +kernel
theorem dX11_next_21 : decode cX11_next 21 = .ok (.aload_n 0, 1) := by decide +kernel
theorem dX11_next_22 : decode cX11_next 22 = .ok (.getfield 46, 3) := by decide +kernel
theorem dX11_next_25 : decode cX11_next 25 = .ok (.baload, 1) := by decide +kernel
theorem dX11_next_26 : decode cX11_next 26 = .ok (.bipush 32, 2) := by decide +kernel
theorem dX11_next_28 : decode cX11_next 28 = .ok (.if_icmp .eq 20, 3) := by decide +kernel
theorem dX11_next_31 : decode cX11_next 31 = .ok (.aload_n 0, 1) := by decide +kernel
theorem dX11_next_32 : decode cX11_next 32 = .ok (.getfield 3, 3) := by decide +kernel
theorem dX11_next_35 : decode cX11_next 35 = .ok (.getfield 42, 3) := by decide +kernel
theorem dX11_next_38 : decode cX11_next 38 = .ok (.aload_n 0, 1) := by decide +kernel
theorem dX11_next_39 : decode cX11_next 39 = .ok (.getfield 46, 3) := by decide +kernel
theorem dX11_next_42 : decode cX11_next 42 = .ok (.baload, 1) := by decide +kernel
theorem dX11_next_43 : decode cX11_next 43 = .ok (.bipush 10, 2) := by decide +kernel
theorem dX11_next_45 : decode cX11_next 45 = .ok (.if_icmp .ne 16, 3) := by decide +kernel
theorem dX11_next_48 : decode cX11_next 48 = .ok (.aload_n 0, 1) := by decide +kernel
theorem dX11_next_49 : decode cX11_next 49 = .ok (.dup, 1) := by decide +kernel
theorem dX11_next_50 : decode cX11_next 50 = .ok (.getfield 46, 3) := by decide +kernel
theorem dX11_next_53 : decode cX11_next 53 = .ok (.iconst 1, 1) := by decide +kernel
theorem dX11_next_54 : decode cX11_next 54 = .ok (.iadd, 1) := by decide +kernel
theorem dX11_next_55 : decode cX11_next 55 = .ok (.putfield 46, 3) := by decide +kernel
theorem dX11_next_58 : decode cX11_next 58 = .ok (.goto (-58), 3) := by decide +kernel
theorem dX11_next_61 : decode cX11_next 61 = .ok (.aload_n 0, 1) := by decide +kernel
theorem dX11_next_62 : decode cX11_next 62 = .ok (.aload_n 0, 1) := by decide +kernel
theorem dX11_next_63 : decode cX11_next 63 = .ok (.getfield 46, 3) := by decide +kernel
theorem dX11_next_66 : decode cX11_next 66 = .ok (.putfield 36, 3) := by decide +kernel
theorem dX11_next_69 : decode cX11_next 69 = .ok (.aload_n 0, 1) := by decide +kernel
theorem dX11_next_70 : decode cX11_next 70 = .ok (.aload_n 0, 1) := by decide +kernel
theorem dX11_next_71 : decode cX11_next 71 = .ok (.invokevirtual 49, 3) := by decide +kernel
theorem dX11_next_74 : decode cX11_next 74 = .ok (.putfield 53, 3) := by decide +kernel
theorem dX11_next_77 : decode cX11_next 77 = .ok (.aload_n 0, 1) := by decide +kernel
theorem dX11_next_78 : decode cX11_next 78 = .ok (.getfield 53, 3) := by decide +kernel
theorem dX11_next_81 : decode cX11_next 81 = .ok (.ifCond .eq 18, 3) := by decide +kernel
theorem dX11_next_84 : decode cX11_next 84 = .ok (.aload_n 0, 1) := by decide +kernel
theorem dX11_next_85 : decode cX11_next 85 = .ok (.getfield 56, 3) := by decide +kernel
theorem dX11_next_88 : decode cX11_next 88 = .ok (.sipush 400, 3) := by decide +kernel
theorem dX11_next_91 : decode cX11_next 91 = .ok (.if_icmp .ne 8, 3) := by decide +kernel
theorem dX11_next_94 : decode cX11_next 94 = .ok (.aload_n 0, 1) := by decide +kernel
theorem dX11_next_95 : decode cX11_next 95 = .ok (.iconst 1, 1) := by decide +kernel
theorem dX11_next_96 : decode cX11_next 96 = .ok (.putfield 53, 3) := by decide +kernel
theorem dX11_next_99 : decode cX11_next 99 = .ok (.aload_n 0, 1) := by decide +kernel
theorem dX11_next_100 : decode cX11_next 100 = .ok (.dup, 1) := by decide +kernel
theorem dX11_next_101 : decode cX11_next 101 = .ok (.getfield 56, 3) := by decide +kernel
theorem dX11_next_104 : decode cX11_next 104 = .ok (.iconst 1, 1) := by decide +kernel
theorem dX11_next_105 : decode cX11_next 105 = .ok (.iadd, 1) := by decide +kernel
theorem dX11_next_106 : decode cX11_next 106 = .ok (.putfield 56, 3) := by decide +kernel
theorem dX11_next_109 : decode cX11_next 109 = .ok (.return_, 1) := by decide +kernel
theorem dX11_token_0 : decode cX11_token 0 = .ok (.aload_n 0, 1) := by decide +kernel
theorem dX11_token_1 : decode cX11_token 1 = .ok (.getfield 46, 3) := by decide +kernel
theorem dX11_token_4 : decode cX11_token 4 = .ok (.aload_n 0, 1) := by decide +kernel
theorem dX11_token_5 : decode cX11_token 5 = .ok (.getfield 3, 3) := by decide +kernel
theorem dX11_token_8 : decode cX11_token 8 = .ok (.getfield 39, 3) := by decide +kernel
theorem dX11_token_11 : decode cX11_token 11 = .ok (.if_icmp .lt 5, 3) := by decide +kernel
theorem dX11_token_14 : decode cX11_token 14 = .ok (.iconst 0, 1) := by decide +kernel
theorem dX11_token_15 : decode cX11_token 15 = .ok (.ireturn, 1) := by decide +kernel
theorem dX11_token_16 : decode cX11_token 16 = .ok (.aload_n 0, 1) := by decide +kernel
theorem dX11_token_17 : decode cX11_token 17 = .ok (.aload_n 0, 1) := by decide +kernel
theorem dX11_token_18 : decode cX11_token 18 = .ok (.getfield 46, 3) := by decide +kernel
theorem dX11_token_21 : decode cX11_token 21 = .ok (.invokevirtual 59, 3) := by decide +kernel
theorem dX11_token_24 : decode cX11_token 24 = .ok (.ifCond .eq 8, 3) := by decide +kernel
theorem dX11_token_27 : decode cX11_token 27 = .ok (.aload_n 0, 1) := by decide +kernel
theorem dX11_token_28 : decode cX11_token 28 = .ok (.invokevirtual 63, 3) := by decide +kernel
theorem dX11_token_31 : decode cX11_token 31 = .ok (.ireturn, 1) := by decide +kernel
theorem dX11_token_32 : decode cX11_token 32 = .ok (.aload_n 0, 1) := by decide +kernel
theorem dX11_token_33 : decode cX11_token 33 = .ok (.aload_n 0, 1) := by decide +kernel
theorem dX11_token_34 : decode cX11_token 34 = .ok (.getfield 46, 3) := by decide +kernel
theorem dX11_token_37 : decode cX11_token 37 = .ok (.invokevirtual 66, 3) := by decide +kernel
theorem dX11_token_40 : decode cX11_token 40 = .ok (.ifCond .eq 91, 3) := by decide +kernel
theorem dX11_token_43 : decode cX11_token 43 = .ok (.aload_n 0, 1) := by decide +kernel
theorem dX11_token_44 : decode cX11_token 44 = .ok (.iconst 0, 1) := by decide +kernel
theorem dX11_token_45 : decode cX11_token 45 = .ok (.putfield 69, 3) := by decide +kernel
theorem dX11_token_48 : decode cX11_token 48 = .ok (.aload_n 0, 1) := by decide +kernel
theorem dX11_token_49 : decode cX11_token 49 = .ok (.aload_n 0, 1) := by decide +kernel
theorem dX11_token_50 : decode cX11_token 50 = .ok (.getfield 46, 3) := by decide +kernel
theorem dX11_token_53 : decode cX11_token 53 = .ok (.invokevirtual 66, 3) := by decide +kernel
theorem dX11_token_56 : decode cX11_token 56 = .ok (.ifCond .eq 56, 3) := by decide +kernel
theorem dX11_token_59 : decode cX11_token 59 = .ok (.aload_n 0, 1) := by decide +kernel
theorem dX11_token_60 : decode cX11_token 60 = .ok (.getfield 46, 3) := by decide +kernel
theorem dX11_token_63 : decode cX11_token 63 = .ok (.aload_n 0, 1) := by decide +kernel
theorem dX11_token_64 : decode cX11_token 64 = .ok (.getfield 36, 3) := by decide +kernel
theorem dX11_token_67 : decode cX11_token 67 = .ok (.isub, 1) := by decide +kernel
theorem dX11_token_68 : decode cX11_token 68 = .ok (.iconst 4, 1) := by decide +kernel
theorem dX11_token_69 : decode cX11_token 69 = .ok (.if_icmp .ge 43, 3) := by decide +kernel
theorem dX11_token_72 : decode cX11_token 72 = .ok (.aload_n 0, 1) := by decide +kernel
theorem dX11_token_73 : decode cX11_token 73 = .ok (.bipush 10, 2) := by decide +kernel
theorem dX11_token_75 : decode cX11_token 75 = .ok (.aload_n 0, 1) := by decide +kernel
theorem dX11_token_76 : decode cX11_token 76 = .ok (.getfield 69, 3) := by decide +kernel
theorem dX11_token_79 : decode cX11_token 79 = .ok (.imul, 1) := by decide +kernel
theorem dX11_token_80 : decode cX11_token 80 = .ok (.aload_n 0, 1) := by decide +kernel
theorem dX11_token_81 : decode cX11_token 81 = .ok (.getfield 3, 3) := by decide +kernel
theorem dX11_token_84 : decode cX11_token 84 = .ok (.getfield 42, 3) := by decide +kernel
theorem dX11_token_87 : decode cX11_token 87 = .ok (.aload_n 0, 1) := by decide +kernel
theorem dX11_token_88 : decode cX11_token 88 = .ok (.getfield 46, 3) := by decide +kernel
theorem dX11_token_91 : decode cX11_token 91 = .ok (.baload, 1) := by decide +kernel
theorem dX11_token_92 : decode cX11_token 92 = .ok (.iadd, 1) := by decide +kernel
theorem dX11_token_93 : decode cX11_token 93 = .ok (.bipush 48, 2) := by decide +kernel
theorem dX11_token_95 : decode cX11_token 95 = .ok (.isub, 1) := by decide +kernel
theorem dX11_token_96 : decode cX11_token 96 = .ok (.putfield 69, 3) := by decide +kernel
theorem dX11_token_99 : decode cX11_token 99 = .ok (.aload_n 0, 1) := by decide +kernel
theorem dX11_token_100 : decode cX11_token 100 = .ok (.dup, 1) := by decide +kernel
theorem dX11_token_101 : decode cX11_token 101 = .ok (.getfield 46, 3) := by decide +kernel
theorem dX11_token_104 : decode cX11_token 104 = .ok (.iconst 1, 1) := by decide +kernel
theorem dX11_token_105 : decode cX11_token 105 = .ok (.iadd, 1) := by decide +kernel
theorem dX11_token_106 : decode cX11_token 106 = .ok (.putfield 46, 3) := by decide +kernel
theorem dX11_token_109 : decode cX11_token 109 = .ok (.goto (-61), 3) := by decide +kernel
theorem dX11_token_112 : decode cX11_token 112 = .ok (.aload_n 0, 1) := by decide +kernel
theorem dX11_token_113 : decode cX11_token 113 = .ok (.getfield 46, 3) := by decide +kernel
theorem dX11_token_116 : decode cX11_token 116 = .ok (.aload_n 0, 1) := by decide +kernel
theorem dX11_token_117 : decode cX11_token 117 = .ok (.getfield 36, 3) := by decide +kernel
theorem dX11_token_120 : decode cX11_token 120 = .ok (.isub, 1) := by decide +kernel
theorem dX11_token_121 : decode cX11_token 121 = .ok (.iconst 3, 1) := by decide +kernel
theorem dX11_token_122 : decode cX11_token 122 = .ok (.if_icmp .le 7, 3) := by decide +kernel
theorem dX11_token_125 : decode cX11_token 125 = .ok (.iconst 1, 1) := by decide +kernel
theorem dX11_token_126 : decode cX11_token 126 = .ok (.goto 4, 3) := by decide +kernel
theorem dX11_token_129 : decode cX11_token 129 = .ok (.iconst 3, 1) := by decide +kernel
theorem dX11_token_130 : decode cX11_token 130 = .ok (.ireturn, 1) := by decide +kernel
theorem dX11_token_131 : decode cX11_token 131 = .ok (.aload_n 0, 1) := by decide +kernel
theorem dX11_token_132 : decode cX11_token 132 = .ok (.getfield 3, 3) := by decide +kernel
theorem dX11_token_135 : decode cX11_token 135 = .ok (.getfield 42, 3) := by decide +kernel
theorem dX11_token_138 : decode cX11_token 138 = .ok (.aload_n 0, 1) := by decide +kernel
theorem dX11_token_139 : decode cX11_token 139 = .ok (.getfield 46, 3) := by decide +kernel
theorem dX11_token_142 : decode cX11_token 142 = .ok (.baload, 1) := by decide +kernel
theorem dX11_token_143 : decode cX11_token 143 = .ok (.istore_n 1, 1) := by decide +kernel
theorem dX11_token_144 : decode cX11_token 144 = .ok (.aload_n 0, 1) := by decide +kernel
theorem dX11_token_145 : decode cX11_token 145 = .ok (.dup, 1) := by decide +kernel
theorem dX11_token_146 : decode cX11_token 146 = .ok (.getfield 46, 3) := by decide +kernel
theorem dX11_token_149 : decode cX11_token 149 = .ok (.iconst 1, 1) := by decide +kernel
theorem dX11_token_150 : decode cX11_token 150 = .ok (.iadd, 1) := by decide +kernel
theorem dX11_token_151 : decode cX11_token 151 = .ok (.putfield 46, 3) := by decide +kernel
theorem dX11_token_154 : decode cX11_token 154 = .ok (.iload_n 1, 1) := by decide +kernel
theorem dX11_token_155 : decode cX11_token 155 = .ok (.bipush 40, 2) := by decide +kernel
theorem dX11_token_157 : decode cX11_token 157 = .ok (.if_icmp .eq 39, 3) := by decide +kernel
theorem dX11_token_160 : decode cX11_token 160 = .ok (.iload_n 1, 1) := by decide +kernel
theorem dX11_token_161 : decode cX11_token 161 = .ok (.bipush 41, 2) := by decide +kernel
theorem dX11_token_163 : decode cX11_token 163 = .ok (.if_icmp .eq 33, 3) := by decide +kernel
theorem dX11_token_166 : decode cX11_token 166 = .ok (.iload_n 1, 1) := by decide +kernel
theorem dX11_token_167 : decode cX11_token 167 = .ok (.bipush 59, 2) := by decide +kernel
theorem dX11_token_169 : decode cX11_token 169 = .ok (.if_icmp .eq 27, 3) := by decide +kernel
theorem dX11_token_172 : decode cX11_token 172 = .ok (.iload_n 1, 1) := by decide +kernel
theorem dX11_token_173 : decode cX11_token 173 = .ok (.bipush 44, 2) := by decide +kernel
theorem dX11_token_175 : decode cX11_token 175 = .ok (.if_icmp .eq 21, 3) := by decide +kernel
theorem dX11_token_178 : decode cX11_token 178 = .ok (.iload_n 1, 1) := by decide +kernel
theorem dX11_token_179 : decode cX11_token 179 = .ok (.bipush 60, 2) := by decide +kernel
theorem dX11_token_181 : decode cX11_token 181 = .ok (.if_icmp .eq 15, 3) := by decide +kernel
theorem dX11_token_184 : decode cX11_token 184 = .ok (.iload_n 1, 1) := by decide +kernel
theorem dX11_token_185 : decode cX11_token 185 = .ok (.bipush 62, 2) := by decide +kernel
theorem dX11_token_187 : decode cX11_token 187 = .ok (.if_icmp .eq 9, 3) := by decide +kernel
theorem dX11_token_190 : decode cX11_token 190 = .ok (.iload_n 1, 1) := by decide +kernel
theorem dX11_token_191 : decode cX11_token 191 = .ok (.bipush 61, 2) := by decide +kernel
theorem dX11_token_193 : decode cX11_token 193 = .ok (.if_icmp .ne 7, 3) := by decide +kernel
theorem dX11_token_196 : decode cX11_token 196 = .ok (.iload_n 1, 1) := by decide +kernel
theorem dX11_token_197 : decode cX11_token 197 = .ok (.goto 4, 3) := by decide +kernel
theorem dX11_token_200 : decode cX11_token 200 = .ok (.iconst 1, 1) := by decide +kernel
theorem dX11_token_201 : decode cX11_token 201 = .ok (.ireturn, 1) := by decide +kernel
theorem dX11_word_0 : decode cX11_word 0 = .ok (.aload_n 0, 1) := by decide +kernel
theorem dX11_word_1 : decode cX11_word 1 = .ok (.lconst 0, 1) := by decide +kernel
theorem dX11_word_2 : decode cX11_word 2 = .ok (.putfield 72, 3) := by decide +kernel
theorem dX11_word_5 : decode cX11_word 5 = .ok (.aload_n 0, 1) := by decide +kernel
theorem dX11_word_6 : decode cX11_word 6 = .ok (.aload_n 0, 1) := by decide +kernel
theorem dX11_word_7 : decode cX11_word 7 = .ok (.getfield 46, 3) := by decide +kernel
theorem dX11_word_10 : decode cX11_word 10 = .ok (.invokevirtual 59, 3) := by decide +kernel
theorem dX11_word_13 : decode cX11_word 13 = .ok (.ifCond .eq 62, 3) := by decide +kernel
theorem dX11_word_16 : decode cX11_word 16 = .ok (.aload_n 0, 1) := by decide +kernel
theorem dX11_word_17 : decode cX11_word 17 = .ok (.getfield 46, 3) := by decide +kernel
theorem dX11_word_20 : decode cX11_word 20 = .ok (.aload_n 0, 1) := by decide +kernel
theorem dX11_word_21 : decode cX11_word 21 = .ok (.getfield 36, 3) := by decide +kernel
theorem dX11_word_24 : decode cX11_word 24 = .ok (.isub, 1) := by decide +kernel
theorem dX11_word_25 : decode cX11_word 25 = .ok (.bipush 9, 2) := by decide +kernel
theorem dX11_word_27 : decode cX11_word 27 = .ok (.if_icmp .ge 48, 3) := by decide +kernel
theorem dX11_word_30 : decode cX11_word 30 = .ok (.aload_n 0, 1) := by decide +kernel
theorem dX11_word_31 : decode cX11_word 31 = .ok (.ldc2_w 76, 3) := by decide +kernel
theorem dX11_word_34 : decode cX11_word 34 = .ok (.aload_n 0, 1) := by decide +kernel
theorem dX11_word_35 : decode cX11_word 35 = .ok (.getfield 72, 3) := by decide +kernel
theorem dX11_word_38 : decode cX11_word 38 = .ok (.lmul, 1) := by decide +kernel
theorem dX11_word_39 : decode cX11_word 39 = .ok (.aload_n 0, 1) := by decide +kernel
theorem dX11_word_40 : decode cX11_word 40 = .ok (.getfield 3, 3) := by decide +kernel
theorem dX11_word_43 : decode cX11_word 43 = .ok (.getfield 42, 3) := by decide +kernel
theorem dX11_word_46 : decode cX11_word 46 = .ok (.aload_n 0, 1) := by decide +kernel
theorem dX11_word_47 : decode cX11_word 47 = .ok (.getfield 46, 3) := by decide +kernel
theorem dX11_word_50 : decode cX11_word 50 = .ok (.baload, 1) := by decide +kernel
theorem dX11_word_51 : decode cX11_word 51 = .ok (.i2l, 1) := by decide +kernel
theorem dX11_word_52 : decode cX11_word 52 = .ok (.ladd, 1) := by decide +kernel
theorem dX11_word_53 : decode cX11_word 53 = .ok (.ldc2_w 78, 3) := by decide +kernel
theorem dX11_word_56 : decode cX11_word 56 = .ok (.lsub, 1) := by decide +kernel
theorem dX11_word_57 : decode cX11_word 57 = .ok (.lconst 1, 1) := by decide +kernel
theorem dX11_word_58 : decode cX11_word 58 = .ok (.ladd, 1) := by decide +kernel
theorem dX11_word_59 : decode cX11_word 59 = .ok (.putfield 72, 3) := by decide +kernel
theorem dX11_word_62 : decode cX11_word 62 = .ok (.aload_n 0, 1) := by decide +kernel
theorem dX11_word_63 : decode cX11_word 63 = .ok (.dup, 1) := by decide +kernel
theorem dX11_word_64 : decode cX11_word 64 = .ok (.getfield 46, 3) := by decide +kernel
theorem dX11_word_67 : decode cX11_word 67 = .ok (.iconst 1, 1) := by decide +kernel
theorem dX11_word_68 : decode cX11_word 68 = .ok (.iadd, 1) := by decide +kernel
theorem dX11_word_69 : decode cX11_word 69 = .ok (.putfield 46, 3) := by decide +kernel
theorem dX11_word_72 : decode cX11_word 72 = .ok (.goto (-67), 3) := by decide +kernel
theorem dX11_word_75 : decode cX11_word 75 = .ok (.aload_n 0, 1) := by decide +kernel
theorem dX11_word_76 : decode cX11_word 76 = .ok (.getfield 46, 3) := by decide +kernel
theorem dX11_word_79 : decode cX11_word 79 = .ok (.aload_n 0, 1) := by decide +kernel
theorem dX11_word_80 : decode cX11_word 80 = .ok (.getfield 36, 3) := by decide +kernel
theorem dX11_word_83 : decode cX11_word 83 = .ok (.isub, 1) := by decide +kernel
theorem dX11_word_84 : decode cX11_word 84 = .ok (.bipush 8, 2) := by decide +kernel
theorem dX11_word_86 : decode cX11_word 86 = .ok (.if_icmp .le 5, 3) := by decide +kernel
theorem dX11_word_89 : decode cX11_word 89 = .ok (.iconst 1, 1) := by decide +kernel
theorem dX11_word_90 : decode cX11_word 90 = .ok (.ireturn, 1) := by decide +kernel
theorem dX11_word_91 : decode cX11_word 91 = .ok (.iconst 0, 1) := by decide +kernel
theorem dX11_word_92 : decode cX11_word 92 = .ok (.istore_n 1, 1) := by decide +kernel
theorem dX11_word_93 : decode cX11_word 93 = .ok (.iload_n 1, 1) := by decide +kernel
theorem dX11_word_94 : decode cX11_word 94 = .ok (.getstatic 80, 3) := by decide +kernel
theorem dX11_word_97 : decode cX11_word 97 = .ok (.arraylength, 1) := by decide +kernel
theorem dX11_word_98 : decode cX11_word 98 = .ok (.if_icmp .ge 32, 3) := by decide +kernel
theorem dX11_word_101 : decode cX11_word 101 = .ok (.aload_n 0, 1) := by decide +kernel
theorem dX11_word_102 : decode cX11_word 102 = .ok (.getstatic 80, 3) := by decide +kernel
theorem dX11_word_105 : decode cX11_word 105 = .ok (.iload_n 1, 1) := by decide +kernel
theorem dX11_word_106 : decode cX11_word 106 = .ok (.aaload, 1) := by decide +kernel
theorem dX11_word_107 : decode cX11_word 107 = .ok (.invokevirtual 84, 3) := by decide +kernel
theorem dX11_word_110 : decode cX11_word 110 = .ok (.aload_n 0, 1) := by decide +kernel
theorem dX11_word_111 : decode cX11_word 111 = .ok (.getfield 72, 3) := by decide +kernel
theorem dX11_word_114 : decode cX11_word 114 = .ok (.lcmp, 1) := by decide +kernel
theorem dX11_word_115 : decode cX11_word 115 = .ok (.ifCond .ne 9, 3) := by decide +kernel
theorem dX11_word_118 : decode cX11_word 118 = .ok (.sipush 200, 3) := by decide +kernel
theorem dX11_word_121 : decode cX11_word 121 = .ok (.iload_n 1, 1) := by decide +kernel
theorem dX11_word_122 : decode cX11_word 122 = .ok (.iadd, 1) := by decide +kernel
theorem dX11_word_123 : decode cX11_word 123 = .ok (.ireturn, 1) := by decide +kernel
theorem dX11_word_124 : decode cX11_word 124 = .ok (.iinc 1 1, 3) := by decide +kernel
theorem dX11_word_127 : decode cX11_word 127 = .ok (.goto (-34), 3) := by decide +kernel
theorem dX11_word_130 : decode cX11_word 130 = .ok (.iconst 2, 1) := by decide +kernel
theorem dX11_word_131 : decode cX11_word 131 = .ok (.ireturn, 1) := by decide +kernel
theorem dX11_code_0 : decode cX11_code 0 = .ok (.lconst 0, 1) := by decide +kernel
theorem dX11_code_1 : decode cX11_code 1 = .ok (.lstore_n 2, 1) := by decide +kernel
theorem dX11_code_2 : decode cX11_code 2 = .ok (.iconst 0, 1) := by decide +kernel
theorem dX11_code_3 : decode cX11_code 3 = .ok (.istore 4, 2) := by decide +kernel
theorem dX11_code_5 : decode cX11_code 5 = .ok (.iload 4, 2) := by decide +kernel
theorem dX11_code_7 : decode cX11_code 7 = .ok (.aload_n 1, 1) := by decide +kernel
theorem dX11_code_8 : decode cX11_code 8 = .ok (.invokevirtual 88, 3) := by decide +kernel
theorem dX11_code_11 : decode cX11_code 11 = .ok (.if_icmp .ge 29, 3) := by decide +kernel
theorem dX11_code_14 : decode cX11_code 14 = .ok (.ldc2_w 76, 3) := by decide +kernel
theorem dX11_code_17 : decode cX11_code 17 = .ok (.lload_n 2, 1) := by decide +kernel
theorem dX11_code_18 : decode cX11_code 18 = .ok (.lmul, 1) := by decide +kernel
theorem dX11_code_19 : decode cX11_code 19 = .ok (.aload_n 1, 1) := by decide +kernel
theorem dX11_code_20 : decode cX11_code 20 = .ok (.iload 4, 2) := by decide +kernel
theorem dX11_code_22 : decode cX11_code 22 = .ok (.invokevirtual 93, 3) := by decide +kernel
theorem dX11_code_25 : decode cX11_code 25 = .ok (.i2l, 1) := by decide +kernel
theorem dX11_code_26 : decode cX11_code 26 = .ok (.ladd, 1) := by decide +kernel
theorem dX11_code_27 : decode cX11_code 27 = .ok (.ldc2_w 78, 3) := by decide +kernel
theorem dX11_code_30 : decode cX11_code 30 = .ok (.lsub, 1) := by decide +kernel
theorem dX11_code_31 : decode cX11_code 31 = .ok (.lconst 1, 1) := by decide +kernel
theorem dX11_code_32 : decode cX11_code 32 = .ok (.ladd, 1) := by decide +kernel
theorem dX11_code_33 : decode cX11_code 33 = .ok (.lstore_n 2, 1) := by decide +kernel
theorem dX11_code_34 : decode cX11_code 34 = .ok (.iinc 4 1, 3) := by decide +kernel
theorem dX11_code_37 : decode cX11_code 37 = .ok (.goto (-32), 3) := by decide +kernel
theorem dX11_code_40 : decode cX11_code 40 = .ok (.lload_n 2, 1) := by decide +kernel
theorem dX11_code_41 : decode cX11_code 41 = .ok (.lreturn, 1) := by decide +kernel
theorem dX11_take_0 : decode cX11_take 0 = .ok (.aload_n 0, 1) := by decide +kernel
theorem dX11_take_1 : decode cX11_take 1 = .ok (.getfield 53, 3) := by decide +kernel
theorem dX11_take_4 : decode cX11_take 4 = .ok (.iload_n 1, 1) := by decide +kernel
theorem dX11_take_5 : decode cX11_take 5 = .ok (.if_icmp .eq 8, 3) := by decide +kernel
theorem dX11_take_8 : decode cX11_take 8 = .ok (.aload_n 0, 1) := by decide +kernel
theorem dX11_take_9 : decode cX11_take 9 = .ok (.invokevirtual 97, 3) := by decide +kernel
theorem dX11_take_12 : decode cX11_take 12 = .ok (.ireturn, 1) := by decide +kernel
theorem dX11_take_13 : decode cX11_take 13 = .ok (.aload_n 0, 1) := by decide +kernel
theorem dX11_take_14 : decode cX11_take 14 = .ok (.invokevirtual 101, 3) := by decide +kernel
theorem dX11_take_17 : decode cX11_take 17 = .ok (.iconst 1, 1) := by decide +kernel
theorem dX11_take_18 : decode cX11_take 18 = .ok (.ireturn, 1) := by decide +kernel
theorem dX11_find_0 : decode cX11_find 0 = .ok (.iload_n 3, 1) := by decide +kernel
theorem dX11_find_1 : decode cX11_find 1 = .ok (.istore 5, 2) := by decide +kernel
theorem dX11_find_3 : decode cX11_find 3 = .ok (.iload 5, 2) := by decide +kernel
theorem dX11_find_5 : decode cX11_find 5 = .ok (.iload 4, 2) := by decide +kernel
theorem dX11_find_7 : decode cX11_find 7 = .ok (.if_icmp .ge 26, 3) := by decide +kernel
theorem dX11_find_10 : decode cX11_find 10 = .ok (.aload_n 0, 1) := by decide +kernel
theorem dX11_find_11 : decode cX11_find 11 = .ok (.getfield 22, 3) := by decide +kernel
theorem dX11_find_14 : decode cX11_find 14 = .ok (.iload 5, 2) := by decide +kernel
theorem dX11_find_16 : decode cX11_find 16 = .ok (.laload, 1) := by decide +kernel
theorem dX11_find_17 : decode cX11_find 17 = .ok (.lload_n 1, 1) := by decide +kernel
theorem dX11_find_18 : decode cX11_find 18 = .ok (.lcmp, 1) := by decide +kernel
theorem dX11_find_19 : decode cX11_find 19 = .ok (.ifCond .ne 8, 3) := by decide +kernel
theorem dX11_find_22 : decode cX11_find 22 = .ok (.iload 5, 2) := by decide +kernel
theorem dX11_find_24 : decode cX11_find 24 = .ok (.iload_n 3, 1) := by decide +kernel
theorem dX11_find_25 : decode cX11_find 25 = .ok (.isub, 1) := by decide +kernel
theorem dX11_find_26 : decode cX11_find 26 = .ok (.ireturn, 1) := by decide +kernel
theorem dX11_find_27 : decode cX11_find 27 = .ok (.iinc 5 1, 3) := by decide +kernel
theorem dX11_find_30 : decode cX11_find 30 = .ok (.goto (-27), 3) := by decide +kernel
theorem dX11_find_33 : decode cX11_find 33 = .ok (.iconst (-1), 1) := by decide +kernel
theorem dX11_find_34 : decode cX11_find 34 = .ok (.ireturn, 1) := by decide +kernel
theorem dX11_naming_0 : decode cX11_naming 0 = .ok (.aload_n 0, 1) := by decide +kernel
theorem dX11_naming_1 : decode cX11_naming 1 = .ok (.getfield 53, 3) := by decide +kernel
theorem dX11_naming_4 : decode cX11_naming 4 = .ok (.iconst 2, 1) := by decide +kernel
theorem dX11_naming_5 : decode cX11_naming 5 = .ok (.if_icmp .eq 8, 3) := by decide +kernel
theorem dX11_naming_8 : decode cX11_naming 8 = .ok (.aload_n 0, 1) := by decide +kernel
theorem dX11_naming_9 : decode cX11_naming 9 = .ok (.invokevirtual 97, 3) := by decide +kernel
theorem dX11_naming_12 : decode cX11_naming 12 = .ok (.ireturn, 1) := by decide +kernel
theorem dX11_naming_13 : decode cX11_naming 13 = .ok (.aload_n 0, 1) := by decide +kernel
theorem dX11_naming_14 : decode cX11_naming 14 = .ok (.aload_n 0, 1) := by decide +kernel
theorem dX11_naming_15 : decode cX11_naming 15 = .ok (.getfield 72, 3) := by decide +kernel
theorem dX11_naming_18 : decode cX11_naming 18 = .ok (.iconst 0, 1) := by decide +kernel
theorem dX11_naming_19 : decode cX11_naming 19 = .ok (.aload_n 0, 1) := by decide +kernel
theorem dX11_naming_20 : decode cX11_naming 20 = .ok (.getfield 104, 3) := by decide +kernel
theorem dX11_naming_23 : decode cX11_naming 23 = .ok (.invokevirtual 107, 3) := by decide +kernel
theorem dX11_naming_26 : decode cX11_naming 26 = .ok (.iconst (-1), 1) := by decide +kernel
theorem dX11_naming_27 : decode cX11_naming 27 = .ok (.if_icmp .eq 8, 3) := by decide +kernel
theorem dX11_naming_30 : decode cX11_naming 30 = .ok (.aload_n 0, 1) := by decide +kernel
theorem dX11_naming_31 : decode cX11_naming 31 = .ok (.iconst 2, 1) := by decide +kernel
theorem dX11_naming_32 : decode cX11_naming 32 = .ok (.invokevirtual 111, 3) := by decide +kernel
theorem dX11_naming_35 : decode cX11_naming 35 = .ok (.iload_n 1, 1) := by decide +kernel
theorem dX11_naming_36 : decode cX11_naming 36 = .ok (.ifCond .eq 8, 3) := by decide +kernel
theorem dX11_naming_39 : decode cX11_naming 39 = .ok (.aload_n 0, 1) := by decide +kernel
theorem dX11_naming_40 : decode cX11_naming 40 = .ok (.iconst 4, 1) := by decide +kernel
theorem dX11_naming_41 : decode cX11_naming 41 = .ok (.invokevirtual 111, 3) := by decide +kernel
theorem dX11_naming_44 : decode cX11_naming 44 = .ok (.aload_n 0, 1) := by decide +kernel
theorem dX11_naming_45 : decode cX11_naming 45 = .ok (.getfield 104, 3) := by decide +kernel
theorem dX11_naming_48 : decode cX11_naming 48 = .ok (.aload_n 0, 1) := by decide +kernel
theorem dX11_naming_49 : decode cX11_naming 49 = .ok (.getfield 22, 3) := by decide +kernel
theorem dX11_naming_52 : decode cX11_naming 52 = .ok (.arraylength, 1) := by decide +kernel
theorem dX11_naming_53 : decode cX11_naming 53 = .ok (.if_icmp .ge 16, 3) := by decide +kernel
theorem dX11_naming_56 : decode cX11_naming 56 = .ok (.aload_n 0, 1) := by decide +kernel
theorem dX11_naming_57 : decode cX11_naming 57 = .ok (.getfield 22, 3) := by decide +kernel
theorem dX11_naming_60 : decode cX11_naming 60 = .ok (.aload_n 0, 1) := by decide +kernel
theorem dX11_naming_61 : decode cX11_naming 61 = .ok (.getfield 104, 3) := by decide +kernel
theorem dX11_naming_64 : decode cX11_naming 64 = .ok (.aload_n 0, 1) := by decide +kernel
theorem dX11_naming_65 : decode cX11_naming 65 = .ok (.getfield 72, 3) := by decide +kernel
theorem dX11_naming_68 : decode cX11_naming 68 = .ok (.lastore, 1) := by decide +kernel
theorem dX11_naming_69 : decode cX11_naming 69 = .ok (.aload_n 0, 1) := by decide +kernel
theorem dX11_naming_70 : decode cX11_naming 70 = .ok (.getfield 104, 3) := by decide +kernel
theorem dX11_naming_73 : decode cX11_naming 73 = .ok (.aload_n 0, 1) := by decide +kernel
theorem dX11_naming_74 : decode cX11_naming 74 = .ok (.getfield 22, 3) := by decide +kernel
theorem dX11_naming_77 : decode cX11_naming 77 = .ok (.arraylength, 1) := by decide +kernel
theorem dX11_naming_78 : decode cX11_naming 78 = .ok (.if_icmp .ge 13, 3) := by decide +kernel
theorem dX11_naming_81 : decode cX11_naming 81 = .ok (.aload_n 0, 1) := by decide +kernel
theorem dX11_naming_82 : decode cX11_naming 82 = .ok (.dup, 1) := by decide +kernel
theorem dX11_naming_83 : decode cX11_naming 83 = .ok (.getfield 104, 3) := by decide +kernel
theorem dX11_naming_86 : decode cX11_naming 86 = .ok (.iconst 1, 1) := by decide +kernel
theorem dX11_naming_87 : decode cX11_naming 87 = .ok (.iadd, 1) := by decide +kernel
theorem dX11_naming_88 : decode cX11_naming 88 = .ok (.putfield 104, 3) := by decide +kernel
theorem dX11_naming_91 : decode cX11_naming 91 = .ok (.aload_n 0, 1) := by decide +kernel
theorem dX11_naming_92 : decode cX11_naming 92 = .ok (.invokevirtual 101, 3) := by decide +kernel
theorem dX11_naming_95 : decode cX11_naming 95 = .ok (.iconst 1, 1) := by decide +kernel
theorem dX11_naming_96 : decode cX11_naming 96 = .ok (.ireturn, 1) := by decide +kernel
theorem dX11_number_0 : decode cX11_number 0 = .ok (.aload_n 0, 1) := by decide +kernel
theorem dX11_number_1 : decode cX11_number 1 = .ok (.getfield 53, 3) := by decide +kernel
theorem dX11_number_4 : decode cX11_number 4 = .ok (.iconst 3, 1) := by decide +kernel
theorem dX11_number_5 : decode cX11_number 5 = .ok (.if_icmp .eq 8, 3) := by decide +kernel
theorem dX11_number_8 : decode cX11_number 8 = .ok (.aload_n 0, 1) := by decide +kernel
theorem dX11_number_9 : decode cX11_number 9 = .ok (.invokevirtual 97, 3) := by decide +kernel
theorem dX11_number_12 : decode cX11_number 12 = .ok (.ireturn, 1) := by decide +kernel
theorem dX11_number_13 : decode cX11_number 13 = .ok (.aload_n 0, 1) := by decide +kernel
theorem dX11_number_14 : decode cX11_number 14 = .ok (.getfield 69, 3) := by decide +kernel
theorem dX11_number_17 : decode cX11_number 17 = .ok (.iload_n 1, 1) := by decide +kernel
theorem dX11_number_18 : decode cX11_number 18 = .ok (.iload_n 2, 1) := by decide +kernel
theorem dX11_number_19 : decode cX11_number 19 = .ok (.invokestatic 115, 3) := by decide +kernel
theorem dX11_number_22 : decode cX11_number 22 = .ok (.ifCond .ne 8, 3) := by decide +kernel
theorem dX11_number_25 : decode cX11_number 25 = .ok (.aload_n 0, 1) := by decide +kernel
theorem dX11_number_26 : decode cX11_number 26 = .ok (.iconst 5, 1) := by decide +kernel
theorem dX11_number_27 : decode cX11_number 27 = .ok (.invokevirtual 111, 3) := by decide +kernel
theorem dX11_number_30 : decode cX11_number 30 = .ok (.iconst 1, 1) := by decide +kernel
theorem dX11_number_31 : decode cX11_number 31 = .ok (.ireturn, 1) := by decide +kernel
theorem dX11_book_0 : decode cX11_book 0 = .ok (.aload_n 0, 1) := by decide +kernel
theorem dX11_book_1 : decode cX11_book 1 = .ok (.invokevirtual 101, 3) := by decide +kernel
theorem dX11_book_4 : decode cX11_book 4 = .ok (.aload_n 0, 1) := by decide +kernel
theorem dX11_book_5 : decode cX11_book 5 = .ok (.getfield 53, 3) := by decide +kernel
theorem dX11_book_8 : decode cX11_book 8 = .ok (.sipush 200, 3) := by decide +kernel
theorem dX11_book_11 : decode cX11_book 11 = .ok (.if_icmp .ne 12, 3) := by decide +kernel
theorem dX11_book_14 : decode cX11_book 14 = .ok (.aload_n 0, 1) := by decide +kernel
theorem dX11_book_15 : decode cX11_book 15 = .ok (.invokevirtual 119, 3) := by decide +kernel
theorem dX11_book_18 : decode cX11_book 18 = .ok (.ifCond .ne (-14), 3) := by decide +kernel
theorem dX11_book_21 : decode cX11_book 21 = .ok (.iconst 0, 1) := by decide +kernel
theorem dX11_book_22 : decode cX11_book 22 = .ok (.ireturn, 1) := by decide +kernel
theorem dX11_book_23 : decode cX11_book 23 = .ok (.aload_n 0, 1) := by decide +kernel
theorem dX11_book_24 : decode cX11_book 24 = .ok (.aload_n 0, 1) := by decide +kernel
theorem dX11_book_25 : decode cX11_book 25 = .ok (.getfield 104, 3) := by decide +kernel
theorem dX11_book_28 : decode cX11_book 28 = .ok (.putfield 122, 3) := by decide +kernel
theorem dX11_book_31 : decode cX11_book 31 = .ok (.aload_n 0, 1) := by decide +kernel
theorem dX11_book_32 : decode cX11_book 32 = .ok (.invokevirtual 125, 3) := by decide +kernel
theorem dX11_book_35 : decode cX11_book 35 = .ok (.ifCond .ne 5, 3) := by decide +kernel
theorem dX11_book_38 : decode cX11_book 38 = .ok (.iconst 0, 1) := by decide +kernel
theorem dX11_book_39 : decode cX11_book 39 = .ok (.ireturn, 1) := by decide +kernel
theorem dX11_book_40 : decode cX11_book 40 = .ok (.aload_n 0, 1) := by decide +kernel
theorem dX11_book_41 : decode cX11_book 41 = .ok (.getfield 53, 3) := by decide +kernel
theorem dX11_book_44 : decode cX11_book 44 = .ok (.sipush 204, 3) := by decide +kernel
theorem dX11_book_47 : decode cX11_book 47 = .ok (.if_icmp .ne 12, 3) := by decide +kernel
theorem dX11_book_50 : decode cX11_book 50 = .ok (.aload_n 0, 1) := by decide +kernel
theorem dX11_book_51 : decode cX11_book 51 = .ok (.invokevirtual 128, 3) := by decide +kernel
theorem dX11_book_54 : decode cX11_book 54 = .ok (.ifCond .ne (-14), 3) := by decide +kernel
theorem dX11_book_57 : decode cX11_book 57 = .ok (.iconst 0, 1) := by decide +kernel
theorem dX11_book_58 : decode cX11_book 58 = .ok (.ireturn, 1) := by decide +kernel
theorem dX11_book_59 : decode cX11_book 59 = .ok (.aload_n 0, 1) := by decide +kernel
theorem dX11_book_60 : decode cX11_book 60 = .ok (.getfield 53, 3) := by decide +kernel
theorem dX11_book_63 : decode cX11_book 63 = .ok (.ifCond .eq 10, 3) := by decide +kernel
theorem dX11_book_66 : decode cX11_book 66 = .ok (.aload_n 0, 1) := by decide +kernel
theorem dX11_book_67 : decode cX11_book 67 = .ok (.invokevirtual 97, 3) := by decide +kernel
theorem dX11_book_70 : decode cX11_book 70 = .ok (.ifCond .eq 7, 3) := by decide +kernel
theorem dX11_book_73 : decode cX11_book 73 = .ok (.iconst 1, 1) := by decide +kernel
theorem dX11_book_74 : decode cX11_book 74 = .ok (.goto 4, 3) := by decide +kernel
theorem dX11_book_77 : decode cX11_book 77 = .ok (.iconst 0, 1) := by decide +kernel
theorem dX11_book_78 : decode cX11_book 78 = .ok (.ireturn, 1) := by decide +kernel
theorem dX11_walker_0 : decode cX11_walker 0 = .ok (.aload_n 0, 1) := by decide +kernel
theorem dX11_walker_1 : decode cX11_walker 1 = .ok (.invokevirtual 101, 3) := by decide +kernel
theorem dX11_walker_4 : decode cX11_walker 4 = .ok (.aload_n 0, 1) := by decide +kernel
theorem dX11_walker_5 : decode cX11_walker 5 = .ok (.getfield 18, 3) := by decide +kernel
theorem dX11_walker_8 : decode cX11_walker 8 = .ok (.getfield 131, 3) := by decide +kernel
theorem dX11_walker_11 : decode cX11_walker 11 = .ok (.bipush 8, 2) := by decide +kernel
theorem dX11_walker_13 : decode cX11_walker 13 = .ok (.if_icmp .ne 7, 3) := by decide +kernel
theorem dX11_walker_16 : decode cX11_walker 16 = .ok (.iconst 1, 1) := by decide +kernel
theorem dX11_walker_17 : decode cX11_walker 17 = .ok (.goto 4, 3) := by decide +kernel
theorem dX11_walker_20 : decode cX11_walker 20 = .ok (.iconst 0, 1) := by decide +kernel
theorem dX11_walker_21 : decode cX11_walker 21 = .ok (.istore_n 1, 1) := by decide +kernel
theorem dX11_walker_22 : decode cX11_walker 22 = .ok (.aload_n 0, 1) := by decide +kernel
theorem dX11_walker_23 : decode cX11_walker 23 = .ok (.iload_n 1, 1) := by decide +kernel
theorem dX11_walker_24 : decode cX11_walker 24 = .ok (.invokevirtual 134, 3) := by decide +kernel
theorem dX11_walker_27 : decode cX11_walker 27 = .ok (.ifCond .eq 23, 3) := by decide +kernel
theorem dX11_walker_30 : decode cX11_walker 30 = .ok (.aload_n 0, 1) := by decide +kernel
theorem dX11_walker_31 : decode cX11_walker 31 = .ok (.sipush 201, 3) := by decide +kernel
theorem dX11_walker_34 : decode cX11_walker 34 = .ok (.invokevirtual 138, 3) := by decide +kernel
theorem dX11_walker_37 : decode cX11_walker 37 = .ok (.ifCond .eq 13, 3) := by decide +kernel
theorem dX11_walker_40 : decode cX11_walker 40 = .ok (.aload_n 0, 1) := by decide +kernel
theorem dX11_walker_41 : decode cX11_walker 41 = .ok (.iconst 1, 1) := by decide +kernel
theorem dX11_walker_42 : decode cX11_walker 42 = .ok (.bipush 9, 2) := by decide +kernel
theorem dX11_walker_44 : decode cX11_walker 44 = .ok (.invokevirtual 141, 3) := by decide +kernel
theorem dX11_walker_47 : decode cX11_walker 47 = .ok (.ifCond .ne 5, 3) := by decide +kernel
theorem dX11_walker_50 : decode cX11_walker 50 = .ok (.iconst 0, 1) := by decide +kernel
theorem dX11_walker_51 : decode cX11_walker 51 = .ok (.ireturn, 1) := by decide +kernel
theorem dX11_walker_52 : decode cX11_walker 52 = .ok (.aload_n 0, 1) := by decide +kernel
theorem dX11_walker_53 : decode cX11_walker 53 = .ok (.getfield 18, 3) := by decide +kernel
theorem dX11_walker_56 : decode cX11_walker 56 = .ok (.getfield 144, 3) := by decide +kernel
theorem dX11_walker_59 : decode cX11_walker 59 = .ok (.aload_n 0, 1) := by decide +kernel
theorem dX11_walker_60 : decode cX11_walker 60 = .ok (.getfield 18, 3) := by decide +kernel
theorem dX11_walker_63 : decode cX11_walker 63 = .ok (.getfield 131, 3) := by decide +kernel
theorem dX11_walker_66 : decode cX11_walker 66 = .ok (.aload_n 0, 1) := by decide +kernel
theorem dX11_walker_67 : decode cX11_walker 67 = .ok (.getfield 69, 3) := by decide +kernel
theorem dX11_walker_70 : decode cX11_walker 70 = .ok (.iastore, 1) := by decide +kernel
theorem dX11_walker_71 : decode cX11_walker 71 = .ok (.aload_n 0, 1) := by decide +kernel
theorem dX11_walker_72 : decode cX11_walker 72 = .ok (.invokevirtual 101, 3) := by decide +kernel
theorem dX11_walker_75 : decode cX11_walker 75 = .ok (.aload_n 0, 1) := by decide +kernel
theorem dX11_walker_76 : decode cX11_walker 76 = .ok (.sipush 202, 3) := by decide +kernel
theorem dX11_walker_79 : decode cX11_walker 79 = .ok (.invokevirtual 138, 3) := by decide +kernel
theorem dX11_walker_82 : decode cX11_walker 82 = .ok (.ifCond .eq 13, 3) := by decide +kernel
theorem dX11_walker_85 : decode cX11_walker 85 = .ok (.aload_n 0, 1) := by decide +kernel
theorem dX11_walker_86 : decode cX11_walker 86 = .ok (.iconst 1, 1) := by decide +kernel
theorem dX11_walker_87 : decode cX11_walker 87 = .ok (.bipush 20, 2) := by decide +kernel
theorem dX11_walker_89 : decode cX11_walker 89 = .ok (.invokevirtual 141, 3) := by decide +kernel
theorem dX11_walker_92 : decode cX11_walker 92 = .ok (.ifCond .ne 5, 3) := by decide +kernel
theorem dX11_walker_95 : decode cX11_walker 95 = .ok (.iconst 0, 1) := by decide +kernel
theorem dX11_walker_96 : decode cX11_walker 96 = .ok (.ireturn, 1) := by decide +kernel
theorem dX11_walker_97 : decode cX11_walker 97 = .ok (.aload_n 0, 1) := by decide +kernel
theorem dX11_walker_98 : decode cX11_walker 98 = .ok (.getfield 18, 3) := by decide +kernel
theorem dX11_walker_101 : decode cX11_walker 101 = .ok (.getfield 148, 3) := by decide +kernel
theorem dX11_walker_104 : decode cX11_walker 104 = .ok (.aload_n 0, 1) := by decide +kernel
theorem dX11_walker_105 : decode cX11_walker 105 = .ok (.getfield 18, 3) := by decide +kernel
theorem dX11_walker_108 : decode cX11_walker 108 = .ok (.getfield 131, 3) := by decide +kernel
theorem dX11_walker_111 : decode cX11_walker 111 = .ok (.aload_n 0, 1) := by decide +kernel
theorem dX11_walker_112 : decode cX11_walker 112 = .ok (.getfield 69, 3) := by decide +kernel
theorem dX11_walker_115 : decode cX11_walker 115 = .ok (.iastore, 1) := by decide +kernel
theorem dX11_walker_116 : decode cX11_walker 116 = .ok (.iload_n 1, 1) := by decide +kernel
theorem dX11_walker_117 : decode cX11_walker 117 = .ok (.ifCond .ne 16, 3) := by decide +kernel
theorem dX11_walker_120 : decode cX11_walker 120 = .ok (.aload_n 0, 1) := by decide +kernel
theorem dX11_walker_121 : decode cX11_walker 121 = .ok (.getfield 18, 3) := by decide +kernel
theorem dX11_walker_124 : decode cX11_walker 124 = .ok (.dup, 1) := by decide +kernel
theorem dX11_walker_125 : decode cX11_walker 125 = .ok (.getfield 131, 3) := by decide +kernel
theorem dX11_walker_128 : decode cX11_walker 128 = .ok (.iconst 1, 1) := by decide +kernel
theorem dX11_walker_129 : decode cX11_walker 129 = .ok (.iadd, 1) := by decide +kernel
theorem dX11_walker_130 : decode cX11_walker 130 = .ok (.putfield 131, 3) := by decide +kernel
theorem dX11_walker_133 : decode cX11_walker 133 = .ok (.aload_n 0, 1) := by decide +kernel
theorem dX11_walker_134 : decode cX11_walker 134 = .ok (.invokevirtual 101, 3) := by decide +kernel
theorem dX11_walker_137 : decode cX11_walker 137 = .ok (.aload_n 0, 1) := by decide +kernel
theorem dX11_walker_138 : decode cX11_walker 138 = .ok (.bipush 59, 2) := by decide +kernel
theorem dX11_walker_140 : decode cX11_walker 140 = .ok (.invokevirtual 138, 3) := by decide +kernel
theorem dX11_walker_143 : decode cX11_walker 143 = .ok (.ireturn, 1) := by decide +kernel
theorem dX11_bridge_0 : decode cX11_bridge 0 = .ok (.aload_n 0, 1) := by decide +kernel
theorem dX11_bridge_1 : decode cX11_bridge 1 = .ok (.sipush 203, 3) := by decide +kernel
theorem dX11_bridge_4 : decode cX11_bridge 4 = .ok (.invokevirtual 138, 3) := by decide +kernel
theorem dX11_bridge_7 : decode cX11_bridge 7 = .ok (.ifCond .ne 5, 3) := by decide +kernel
theorem dX11_bridge_10 : decode cX11_bridge 10 = .ok (.iconst 0, 1) := by decide +kernel
theorem dX11_bridge_11 : decode cX11_bridge 11 = .ok (.ireturn, 1) := by decide +kernel
theorem dX11_bridge_12 : decode cX11_bridge 12 = .ok (.iconst 1, 1) := by decide +kernel
theorem dX11_bridge_13 : decode cX11_bridge 13 = .ok (.istore_n 1, 1) := by decide +kernel
theorem dX11_bridge_14 : decode cX11_bridge 14 = .ok (.iload_n 1, 1) := by decide +kernel
theorem dX11_bridge_15 : decode cX11_bridge 15 = .ok (.ifCond .eq 114, 3) := by decide +kernel
theorem dX11_bridge_18 : decode cX11_bridge 18 = .ok (.aload_n 0, 1) := by decide +kernel
theorem dX11_bridge_19 : decode cX11_bridge 19 = .ok (.getfield 53, 3) := by decide +kernel
theorem dX11_bridge_22 : decode cX11_bridge 22 = .ok (.iconst 3, 1) := by decide +kernel
theorem dX11_bridge_23 : decode cX11_bridge 23 = .ok (.if_icmp .ne 20, 3) := by decide +kernel
theorem dX11_bridge_26 : decode cX11_bridge 26 = .ok (.aload_n 0, 1) := by decide +kernel
theorem dX11_bridge_27 : decode cX11_bridge 27 = .ok (.getfield 18, 3) := by decide +kernel
theorem dX11_bridge_30 : decode cX11_bridge 30 = .ok (.getfield 151, 3) := by decide +kernel
theorem dX11_bridge_33 : decode cX11_bridge 33 = .ok (.bipush 12, 2) := by decide +kernel
theorem dX11_bridge_35 : decode cX11_bridge 35 = .ok (.if_icmp .ne 8, 3) := by decide +kernel
theorem dX11_bridge_38 : decode cX11_bridge 38 = .ok (.aload_n 0, 1) := by decide +kernel
theorem dX11_bridge_39 : decode cX11_bridge 39 = .ok (.iconst 4, 1) := by decide +kernel
theorem dX11_bridge_40 : decode cX11_bridge 40 = .ok (.invokevirtual 111, 3) := by decide +kernel
theorem dX11_bridge_43 : decode cX11_bridge 43 = .ok (.aload_n 0, 1) := by decide +kernel
theorem dX11_bridge_44 : decode cX11_bridge 44 = .ok (.iconst 1, 1) := by decide +kernel
theorem dX11_bridge_45 : decode cX11_bridge 45 = .ok (.bipush 30, 2) := by decide +kernel
theorem dX11_bridge_47 : decode cX11_bridge 47 = .ok (.invokevirtual 141, 3) := by decide +kernel
theorem dX11_bridge_50 : decode cX11_bridge 50 = .ok (.ifCond .ne 5, 3) := by decide +kernel
theorem dX11_bridge_53 : decode cX11_bridge 53 = .ok (.iconst 0, 1) := by decide +kernel
theorem dX11_bridge_54 : decode cX11_bridge 54 = .ok (.ireturn, 1) := by decide +kernel
theorem dX11_bridge_55 : decode cX11_bridge 55 = .ok (.aload_n 0, 1) := by decide +kernel
theorem dX11_bridge_56 : decode cX11_bridge 56 = .ok (.getfield 18, 3) := by decide +kernel
theorem dX11_bridge_59 : decode cX11_bridge 59 = .ok (.getfield 154, 3) := by decide +kernel
theorem dX11_bridge_62 : decode cX11_bridge 62 = .ok (.aload_n 0, 1) := by decide +kernel
theorem dX11_bridge_63 : decode cX11_bridge 63 = .ok (.getfield 18, 3) := by decide +kernel
theorem dX11_bridge_66 : decode cX11_bridge 66 = .ok (.getfield 151, 3) := by decide +kernel
theorem dX11_bridge_69 : decode cX11_bridge 69 = .ok (.aload_n 0, 1) := by decide +kernel
theorem dX11_bridge_70 : decode cX11_bridge 70 = .ok (.getfield 69, 3) := by decide +kernel
theorem dX11_bridge_73 : decode cX11_bridge 73 = .ok (.iastore, 1) := by decide +kernel
theorem dX11_bridge_74 : decode cX11_bridge 74 = .ok (.aload_n 0, 1) := by decide +kernel
theorem dX11_bridge_75 : decode cX11_bridge 75 = .ok (.getfield 18, 3) := by decide +kernel
theorem dX11_bridge_78 : decode cX11_bridge 78 = .ok (.getfield 151, 3) := by decide +kernel
theorem dX11_bridge_81 : decode cX11_bridge 81 = .ok (.bipush 12, 2) := by decide +kernel
theorem dX11_bridge_83 : decode cX11_bridge 83 = .ok (.if_icmp .ge 16, 3) := by decide +kernel
theorem dX11_bridge_86 : decode cX11_bridge 86 = .ok (.aload_n 0, 1) := by decide +kernel
theorem dX11_bridge_87 : decode cX11_bridge 87 = .ok (.getfield 18, 3) := by decide +kernel
theorem dX11_bridge_90 : decode cX11_bridge 90 = .ok (.dup, 1) := by decide +kernel
theorem dX11_bridge_91 : decode cX11_bridge 91 = .ok (.getfield 151, 3) := by decide +kernel
theorem dX11_bridge_94 : decode cX11_bridge 94 = .ok (.iconst 1, 1) := by decide +kernel
theorem dX11_bridge_95 : decode cX11_bridge 95 = .ok (.iadd, 1) := by decide +kernel
theorem dX11_bridge_96 : decode cX11_bridge 96 = .ok (.putfield 151, 3) := by decide +kernel
theorem dX11_bridge_99 : decode cX11_bridge 99 = .ok (.aload_n 0, 1) := by decide +kernel
theorem dX11_bridge_100 : decode cX11_bridge 100 = .ok (.invokevirtual 101, 3) := by decide +kernel
theorem dX11_bridge_103 : decode cX11_bridge 103 = .ok (.aload_n 0, 1) := by decide +kernel
theorem dX11_bridge_104 : decode cX11_bridge 104 = .ok (.getfield 53, 3) := by decide +kernel
theorem dX11_bridge_107 : decode cX11_bridge 107 = .ok (.bipush 44, 2) := by decide +kernel
theorem dX11_bridge_109 : decode cX11_bridge 109 = .ok (.if_icmp .ne 7, 3) := by decide +kernel
theorem dX11_bridge_112 : decode cX11_bridge 112 = .ok (.iconst 1, 1) := by decide +kernel
theorem dX11_bridge_113 : decode cX11_bridge 113 = .ok (.goto 4, 3) := by decide +kernel
theorem dX11_bridge_116 : decode cX11_bridge 116 = .ok (.iconst 0, 1) := by decide +kernel
theorem dX11_bridge_117 : decode cX11_bridge 117 = .ok (.istore_n 1, 1) := by decide +kernel
theorem dX11_bridge_118 : decode cX11_bridge 118 = .ok (.iload_n 1, 1) := by decide +kernel
theorem dX11_bridge_119 : decode cX11_bridge 119 = .ok (.ifCond .eq (-105), 3) := by decide +kernel
theorem dX11_bridge_122 : decode cX11_bridge 122 = .ok (.aload_n 0, 1) := by decide +kernel
theorem dX11_bridge_123 : decode cX11_bridge 123 = .ok (.invokevirtual 101, 3) := by decide +kernel
theorem dX11_bridge_126 : decode cX11_bridge 126 = .ok (.goto (-112), 3) := by decide +kernel
theorem dX11_bridge_129 : decode cX11_bridge 129 = .ok (.aload_n 0, 1) := by decide +kernel
theorem dX11_bridge_130 : decode cX11_bridge 130 = .ok (.getfield 53, 3) := by decide +kernel
theorem dX11_bridge_133 : decode cX11_bridge 133 = .ok (.bipush 59, 2) := by decide +kernel
theorem dX11_bridge_135 : decode cX11_bridge 135 = .ok (.if_icmp .ne 19, 3) := by decide +kernel
theorem dX11_bridge_138 : decode cX11_bridge 138 = .ok (.aload_n 0, 1) := by decide +kernel
theorem dX11_bridge_139 : decode cX11_bridge 139 = .ok (.getfield 18, 3) := by decide +kernel
theorem dX11_bridge_142 : decode cX11_bridge 142 = .ok (.getfield 151, 3) := by decide +kernel
theorem dX11_bridge_145 : decode cX11_bridge 145 = .ok (.iconst 4, 1) := by decide +kernel
theorem dX11_bridge_146 : decode cX11_bridge 146 = .ok (.if_icmp .ge 8, 3) := by decide +kernel
theorem dX11_bridge_149 : decode cX11_bridge 149 = .ok (.aload_n 0, 1) := by decide +kernel
theorem dX11_bridge_150 : decode cX11_bridge 150 = .ok (.iconst 5, 1) := by decide +kernel
theorem dX11_bridge_151 : decode cX11_bridge 151 = .ok (.invokevirtual 111, 3) := by decide +kernel
theorem dX11_bridge_154 : decode cX11_bridge 154 = .ok (.aload_n 0, 1) := by decide +kernel
theorem dX11_bridge_155 : decode cX11_bridge 155 = .ok (.bipush 59, 2) := by decide +kernel
theorem dX11_bridge_157 : decode cX11_bridge 157 = .ok (.invokevirtual 138, 3) := by decide +kernel
theorem dX11_bridge_160 : decode cX11_bridge 160 = .ok (.ireturn, 1) := by decide +kernel
theorem dX11_plan_0 : decode cX11_plan 0 = .ok (.aload_n 0, 1) := by decide +kernel
theorem dX11_plan_1 : decode cX11_plan 1 = .ok (.invokevirtual 101, 3) := by decide +kernel
theorem dX11_plan_4 : decode cX11_plan 4 = .ok (.aload_n 0, 1) := by decide +kernel
theorem dX11_plan_5 : decode cX11_plan 5 = .ok (.getfield 18, 3) := by decide +kernel
theorem dX11_plan_8 : decode cX11_plan 8 = .ok (.getfield 157, 3) := by decide +kernel
theorem dX11_plan_11 : decode cX11_plan 11 = .ok (.bipush 6, 2) := by decide +kernel
theorem dX11_plan_13 : decode cX11_plan 13 = .ok (.if_icmp .ne 7, 3) := by decide +kernel
theorem dX11_plan_16 : decode cX11_plan 16 = .ok (.iconst 1, 1) := by decide +kernel
theorem dX11_plan_17 : decode cX11_plan 17 = .ok (.goto 4, 3) := by decide +kernel
theorem dX11_plan_20 : decode cX11_plan 20 = .ok (.iconst 0, 1) := by decide +kernel
theorem dX11_plan_21 : decode cX11_plan 21 = .ok (.istore_n 1, 1) := by decide +kernel
theorem dX11_plan_22 : decode cX11_plan 22 = .ok (.aload_n 0, 1) := by decide +kernel
theorem dX11_plan_23 : decode cX11_plan 23 = .ok (.iload_n 1, 1) := by decide +kernel
theorem dX11_plan_24 : decode cX11_plan 24 = .ok (.invokevirtual 134, 3) := by decide +kernel
theorem dX11_plan_27 : decode cX11_plan 27 = .ok (.ifCond .ne 5, 3) := by decide +kernel
theorem dX11_plan_30 : decode cX11_plan 30 = .ok (.iconst 0, 1) := by decide +kernel
theorem dX11_plan_31 : decode cX11_plan 31 = .ok (.ireturn, 1) := by decide +kernel
theorem dX11_plan_32 : decode cX11_plan 32 = .ok (.aload_n 0, 1) := by decide +kernel
theorem dX11_plan_33 : decode cX11_plan 33 = .ok (.getfield 18, 3) := by decide +kernel
theorem dX11_plan_36 : decode cX11_plan 36 = .ok (.getfield 160, 3) := by decide +kernel
theorem dX11_plan_39 : decode cX11_plan 39 = .ok (.istore_n 2, 1) := by decide +kernel
theorem dX11_plan_40 : decode cX11_plan 40 = .ok (.aload_n 0, 1) := by decide +kernel
theorem dX11_plan_41 : decode cX11_plan 41 = .ok (.iconst 1, 1) := by decide +kernel
theorem dX11_plan_42 : decode cX11_plan 42 = .ok (.invokevirtual 163, 3) := by decide +kernel
theorem dX11_plan_45 : decode cX11_plan 45 = .ok (.ifCond .ne 5, 3) := by decide +kernel
theorem dX11_plan_48 : decode cX11_plan 48 = .ok (.iconst 0, 1) := by decide +kernel
theorem dX11_plan_49 : decode cX11_plan 49 = .ok (.ireturn, 1) := by decide +kernel
theorem dX11_plan_50 : decode cX11_plan 50 = .ok (.aload_n 0, 1) := by decide +kernel
theorem dX11_plan_51 : decode cX11_plan 51 = .ok (.getfield 18, 3) := by decide +kernel
theorem dX11_plan_54 : decode cX11_plan 54 = .ok (.sipush 301, 3) := by decide +kernel
theorem dX11_plan_57 : decode cX11_plan 57 = .ok (.iconst 0, 1) := by decide +kernel
theorem dX11_plan_58 : decode cX11_plan 58 = .ok (.iconst 0, 1) := by decide +kernel
theorem dX11_plan_59 : decode cX11_plan 59 = .ok (.invokevirtual 166, 3) := by decide +kernel
theorem dX11_plan_62 : decode cX11_plan 62 = .ok (.pop, 1) := by decide +kernel
theorem dX11_plan_63 : decode cX11_plan 63 = .ok (.aload_n 0, 1) := by decide +kernel
theorem dX11_plan_64 : decode cX11_plan 64 = .ok (.getfield 18, 3) := by decide +kernel
theorem dX11_plan_67 : decode cX11_plan 67 = .ok (.getfield 170, 3) := by decide +kernel
theorem dX11_plan_70 : decode cX11_plan 70 = .ok (.aload_n 0, 1) := by decide +kernel
theorem dX11_plan_71 : decode cX11_plan 71 = .ok (.getfield 18, 3) := by decide +kernel
theorem dX11_plan_74 : decode cX11_plan 74 = .ok (.getfield 157, 3) := by decide +kernel
theorem dX11_plan_77 : decode cX11_plan 77 = .ok (.iload_n 2, 1) := by decide +kernel
theorem dX11_plan_78 : decode cX11_plan 78 = .ok (.iastore, 1) := by decide +kernel
theorem dX11_plan_79 : decode cX11_plan 79 = .ok (.iload_n 1, 1) := by decide +kernel
theorem dX11_plan_80 : decode cX11_plan 80 = .ok (.ifCond .ne 16, 3) := by decide +kernel
theorem dX11_plan_83 : decode cX11_plan 83 = .ok (.aload_n 0, 1) := by decide +kernel
theorem dX11_plan_84 : decode cX11_plan 84 = .ok (.getfield 18, 3) := by decide +kernel
theorem dX11_plan_87 : decode cX11_plan 87 = .ok (.dup, 1) := by decide +kernel
theorem dX11_plan_88 : decode cX11_plan 88 = .ok (.getfield 157, 3) := by decide +kernel
theorem dX11_plan_91 : decode cX11_plan 91 = .ok (.iconst 1, 1) := by decide +kernel
theorem dX11_plan_92 : decode cX11_plan 92 = .ok (.iadd, 1) := by decide +kernel
theorem dX11_plan_93 : decode cX11_plan 93 = .ok (.putfield 157, 3) := by decide +kernel
theorem dX11_plan_96 : decode cX11_plan 96 = .ok (.aload_n 0, 1) := by decide +kernel
theorem dX11_plan_97 : decode cX11_plan 97 = .ok (.aload_n 0, 1) := by decide +kernel
theorem dX11_plan_98 : decode cX11_plan 98 = .ok (.getfield 104, 3) := by decide +kernel
theorem dX11_plan_101 : decode cX11_plan 101 = .ok (.putfield 173, 3) := by decide +kernel
theorem dX11_plan_104 : decode cX11_plan 104 = .ok (.iconst 1, 1) := by decide +kernel
theorem dX11_plan_105 : decode cX11_plan 105 = .ok (.ireturn, 1) := by decide +kernel
theorem dX11_block_0 : decode cX11_block 0 = .ok (.aload_n 0, 1) := by decide +kernel
theorem dX11_block_1 : decode cX11_block 1 = .ok (.getfield 53, 3) := by decide +kernel
theorem dX11_block_4 : decode cX11_block 4 = .ok (.bipush 40, 2) := by decide +kernel
theorem dX11_block_6 : decode cX11_block 6 = .ok (.if_icmp .ne 8, 3) := by decide +kernel
theorem dX11_block_9 : decode cX11_block 9 = .ok (.iload_n 1, 1) := by decide +kernel
theorem dX11_block_10 : decode cX11_block 10 = .ok (.iconst 3, 1) := by decide +kernel
theorem dX11_block_11 : decode cX11_block 11 = .ok (.if_icmp .le 8, 3) := by decide +kernel
theorem dX11_block_14 : decode cX11_block 14 = .ok (.aload_n 0, 1) := by decide +kernel
theorem dX11_block_15 : decode cX11_block 15 = .ok (.invokevirtual 97, 3) := by decide +kernel
theorem dX11_block_18 : decode cX11_block 18 = .ok (.ireturn, 1) := by decide +kernel
theorem dX11_block_19 : decode cX11_block 19 = .ok (.aload_n 0, 1) := by decide +kernel
theorem dX11_block_20 : decode cX11_block 20 = .ok (.invokevirtual 101, 3) := by decide +kernel
theorem dX11_block_23 : decode cX11_block 23 = .ok (.aload_n 0, 1) := by decide +kernel
theorem dX11_block_24 : decode cX11_block 24 = .ok (.getfield 53, 3) := by decide +kernel
theorem dX11_block_27 : decode cX11_block 27 = .ok (.bipush 41, 2) := by decide +kernel
theorem dX11_block_29 : decode cX11_block 29 = .ok (.if_icmp .eq 13, 3) := by decide +kernel
theorem dX11_block_32 : decode cX11_block 32 = .ok (.aload_n 0, 1) := by decide +kernel
theorem dX11_block_33 : decode cX11_block 33 = .ok (.iload_n 1, 1) := by decide +kernel
theorem dX11_block_34 : decode cX11_block 34 = .ok (.invokevirtual 176, 3) := by decide +kernel
theorem dX11_block_37 : decode cX11_block 37 = .ok (.ifCond .ne (-14), 3) := by decide +kernel
theorem dX11_block_40 : decode cX11_block 40 = .ok (.iconst 0, 1) := by decide +kernel
theorem dX11_block_41 : decode cX11_block 41 = .ok (.ireturn, 1) := by decide +kernel
theorem dX11_block_42 : decode cX11_block 42 = .ok (.aload_n 0, 1) := by decide +kernel
theorem dX11_block_43 : decode cX11_block 43 = .ok (.invokevirtual 101, 3) := by decide +kernel
theorem dX11_block_46 : decode cX11_block 46 = .ok (.iconst 1, 1) := by decide +kernel
theorem dX11_block_47 : decode cX11_block 47 = .ok (.ireturn, 1) := by decide +kernel
theorem dX11_act_0 : decode cX11_act 0 = .ok (.aload_n 0, 1) := by decide +kernel
