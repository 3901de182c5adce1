theorem dX0_init_0 : decode cX0_init 0 = .ok (.aload_n 0, 1) := by decide +kernel
theorem dX0_init_1 : decode cX0_init 1 = .ok (.invokespecial 3, 3) := by decide +kernel
theorem dX0_init_4 : decode cX0_init 4 = .ok (.aload_n 0, 1) := by decide +kernel
theorem dX0_init_5 : decode cX0_init 5 = .ok (.bipush 9, 2) := by decide +kernel
theorem dX0_init_7 : decode cX0_init 7 = .ok (.newarray .int, 2) := by decide +kernel
theorem dX0_init_9 : decode cX0_init 9 = .ok (.putfield 9, 3) := by decide +kernel
theorem dX0_init_12 : decode cX0_init 12 = .ok (.aload_n 0, 1) := by decide +kernel
theorem dX0_init_13 : decode cX0_init 13 = .ok (.bipush 9, 2) := by decide +kernel
theorem dX0_init_15 : decode cX0_init 15 = .ok (.newarray .int, 2) := by decide +kernel
theorem dX0_init_17 : decode cX0_init 17 = .ok (.putfield 15, 3) := by decide +kernel
theorem dX0_init_20 : decode cX0_init 20 = .ok (.aload_n 0, 1) := by decide +kernel
theorem dX0_init_21 : decode cX0_init 21 = .ok (.bipush 9, 2) := by decide +kernel
theorem dX0_init_23 : decode cX0_init 23 = .ok (.newarray .int, 2) := by decide +kernel
theorem dX0_init_25 : decode cX0_init 25 = .ok (.putfield 18, 3) := by decide +kernel
theorem dX0_init_28 : decode cX0_init 28 = .ok (.aload_n 0, 1) := by decide +kernel
theorem dX0_init_29 : decode cX0_init 29 = .ok (.sipush 900, 3) := by decide +kernel
theorem dX0_init_32 : decode cX0_init 32 = .ok (.newarray .int, 2) := by decide +kernel
theorem dX0_init_34 : decode cX0_init 34 = .ok (.putfield 21, 3) := by decide +kernel
theorem dX0_init_37 : decode cX0_init 37 = .ok (.aload_n 0, 1) := by decide +kernel
theorem dX0_init_38 : decode cX0_init 38 = .ok (.iconst 1, 1) := by decide +kernel
theorem dX0_init_39 : decode cX0_init 39 = .ok (.putfield 24, 3) := by decide +kernel
theorem dX0_init_42 : decode cX0_init 42 = .ok (.aload_n 0, 1) := by decide +kernel
theorem dX0_init_43 : decode cX0_init 43 = .ok (.iconst 4, 1) := by decide +kernel
theorem dX0_init_44 : decode cX0_init 44 = .ok (.putfield 28, 3) := by decide +kernel
theorem dX0_init_47 : decode cX0_init 47 = .ok (.return_, 1) := by decide +kernel
theorem dX0_clear_0 : decode cX0_clear 0 = .ok (.aload_n 0, 1) := by decide +kernel
theorem dX0_clear_1 : decode cX0_clear 1 = .ok (.iconst 1, 1) := by decide +kernel
theorem dX0_clear_2 : decode cX0_clear 2 = .ok (.putfield 24, 3) := by decide +kernel
theorem dX0_clear_5 : decode cX0_clear 5 = .ok (.aload_n 0, 1) := by decide +kernel
theorem dX0_clear_6 : decode cX0_clear 6 = .ok (.iconst 0, 1) := by decide +kernel
theorem dX0_clear_7 : decode cX0_clear 7 = .ok (.putfield 31, 3) := by decide +kernel
theorem dX0_clear_10 : decode cX0_clear 10 = .ok (.aload_n 0, 1) := by decide +kernel
theorem dX0_clear_11 : decode cX0_clear 11 = .ok (.getfield 9, 3) := by decide +kernel
theorem dX0_clear_14 : decode cX0_clear 14 = .ok (.iconst 0, 1) := by decide +kernel
theorem dX0_clear_15 : decode cX0_clear 15 = .ok (.invokestatic 34, 3) := by decide +kernel
theorem dX0_clear_18 : decode cX0_clear 18 = .ok (.aload_n 0, 1) := by decide +kernel
theorem dX0_clear_19 : decode cX0_clear 19 = .ok (.getfield 15, 3) := by decide +kernel
theorem dX0_clear_22 : decode cX0_clear 22 = .ok (.iconst 0, 1) := by decide +kernel
theorem dX0_clear_23 : decode cX0_clear 23 = .ok (.invokestatic 34, 3) := by decide +kernel
theorem dX0_clear_26 : decode cX0_clear 26 = .ok (.aload_n 0, 1) := by decide +kernel
theorem dX0_clear_27 : decode cX0_clear 27 = .ok (.getfield 18, 3) := by decide +kernel
theorem dX0_clear_30 : decode cX0_clear 30 = .ok (.iconst 0, 1) := by decide +kernel
theorem dX0_clear_31 : decode cX0_clear 31 = .ok (.invokestatic 34, 3) := by decide +kernel
theorem dX0_clear_34 : decode cX0_clear 34 = .ok (.aload_n 0, 1) := by decide +kernel
theorem dX0_clear_35 : decode cX0_clear 35 = .ok (.iconst 0, 1) := by decide +kernel
theorem dX0_clear_36 : decode cX0_clear 36 = .ok (.putfield 40, 3) := by decide +kernel
theorem dX0_clear_39 : decode cX0_clear 39 = .ok (.aload_n 0, 1) := by decide +kernel
theorem dX0_clear_40 : decode cX0_clear 40 = .ok (.iconst 0, 1) := by decide +kernel
theorem dX0_clear_41 : decode cX0_clear 41 = .ok (.putfield 43, 3) := by decide +kernel
theorem dX0_clear_44 : decode cX0_clear 44 = .ok (.aload_n 0, 1) := by decide +kernel
theorem dX0_clear_45 : decode cX0_clear 45 = .ok (.iconst 4, 1) := by decide +kernel
theorem dX0_clear_46 : decode cX0_clear 46 = .ok (.putfield 28, 3) := by decide +kernel
theorem dX0_clear_49 : decode cX0_clear 49 = .ok (.aload_n 0, 1) := by decide +kernel
theorem dX0_clear_50 : decode cX0_clear 50 = .ok (.iconst 0, 1) := by decide +kernel
theorem dX0_clear_51 : decode cX0_clear 51 = .ok (.putfield 46, 3) := by decide +kernel
theorem dX0_clear_54 : decode cX0_clear 54 = .ok (.aload_n 0, 1) := by decide +kernel
theorem dX0_clear_55 : decode cX0_clear 55 = .ok (.iconst 0, 1) := by decide +kernel
theorem dX0_clear_56 : decode cX0_clear 56 = .ok (.putfield 49, 3) := by decide +kernel
theorem dX0_clear_59 : decode cX0_clear 59 = .ok (.aload_n 0, 1) := by decide +kernel
theorem dX0_clear_60 : decode cX0_clear 60 = .ok (.iconst 0, 1) := by decide +kernel
theorem dX0_clear_61 : decode cX0_clear 61 = .ok (.putfield 52, 3) := by decide +kernel
theorem dX0_clear_64 : decode cX0_clear 64 = .ok (.aload_n 0, 1) := by decide +kernel
theorem dX0_clear_65 : decode cX0_clear 65 = .ok (.iconst 0, 1) := by decide +kernel
theorem dX0_clear_66 : decode cX0_clear 66 = .ok (.putfield 55, 3) := by decide +kernel
theorem dX0_clear_69 : decode cX0_clear 69 = .ok (.aload_n 0, 1) := by decide +kernel
theorem dX0_clear_70 : decode cX0_clear 70 = .ok (.iconst 0, 1) := by decide +kernel
theorem dX0_clear_71 : decode cX0_clear 71 = .ok (.putfield 58, 3) := by decide +kernel
theorem dX0_clear_74 : decode cX0_clear 74 = .ok (.aload_n 0, 1) := by decide +kernel
theorem dX0_clear_75 : decode cX0_clear 75 = .ok (.iconst 0, 1) := by decide +kernel
theorem dX0_clear_76 : decode cX0_clear 76 = .ok (.putfield 61, 3) := by decide +kernel
theorem dX0_clear_79 : decode cX0_clear 79 = .ok (.aload_n 0, 1) := by decide +kernel
theorem dX0_clear_80 : decode cX0_clear 80 = .ok (.iconst 0, 1) := by decide +kernel
theorem dX0_clear_81 : decode cX0_clear 81 = .ok (.putfield 64, 3) := by decide +kernel
theorem dX0_clear_84 : decode cX0_clear 84 = .ok (.aload_n 0, 1) := by decide +kernel
theorem dX0_clear_85 : decode cX0_clear 85 = .ok (.iconst 0, 1) := by decide +kernel
theorem dX0_clear_86 : decode cX0_clear 86 = .ok (.putfield 67, 3) := by decide +kernel
theorem dX0_clear_89 : decode cX0_clear 89 = .ok (.return_, 1) := by decide +kernel
theorem dX0_copyFrom_0 : decode cX0_copyFrom 0 = .ok (.aload_n 0, 1) := by decide +kernel
theorem dX0_copyFrom_1 : decode cX0_copyFrom 1 = .ok (.aload_n 1, 1) := by decide +kernel
theorem dX0_copyFrom_2 : decode cX0_copyFrom 2 = .ok (.getfield 24, 3) := by decide +kernel
theorem dX0_copyFrom_5 : decode cX0_copyFrom 5 = .ok (.putfield 24, 3) := by decide +kernel
theorem dX0_copyFrom_8 : decode cX0_copyFrom 8 = .ok (.aload_n 0, 1) := by decide +kernel
theorem dX0_copyFrom_9 : decode cX0_copyFrom 9 = .ok (.aload_n 1, 1) := by decide +kernel
theorem dX0_copyFrom_10 : decode cX0_copyFrom 10 = .ok (.getfield 31, 3) := by decide +kernel
theorem dX0_copyFrom_13 : decode cX0_copyFrom 13 = .ok (.putfield 31, 3) := by decide +kernel
theorem dX0_copyFrom_16 : decode cX0_copyFrom 16 = .ok (.aload_n 1, 1) := by decide +kernel
theorem dX0_copyFrom_17 : decode cX0_copyFrom 17 = .ok (.getfield 9, 3) := by decide +kernel
theorem dX0_copyFrom_20 : decode cX0_copyFrom 20 = .ok (.iconst 0, 1) := by decide +kernel
theorem dX0_copyFrom_21 : decode cX0_copyFrom 21 = .ok (.aload_n 0, 1) := by decide +kernel
theorem dX0_copyFrom_22 : decode cX0_copyFrom 22 = .ok (.getfield 9, 3) := by decide +kernel
theorem dX0_copyFrom_25 : decode cX0_copyFrom 25 = .ok (.iconst 0, 1) := by decide +kernel
theorem dX0_copyFrom_26 : decode cX0_copyFrom 26 = .ok (.bipush 9, 2) := by decide +kernel
theorem dX0_copyFrom_28 : decode cX0_copyFrom 28 = .ok (.invokestatic 70, 3) := by decide +kernel
theorem dX0_copyFrom_31 : decode cX0_copyFrom 31 = .ok (.aload_n 1, 1) := by decide +kernel
theorem dX0_copyFrom_32 : decode cX0_copyFrom 32 = .ok (.getfield 15, 3) := by decide +kernel
theorem dX0_copyFrom_35 : decode cX0_copyFrom 35 = .ok (.iconst 0, 1) := by decide +kernel
theorem dX0_copyFrom_36 : decode cX0_copyFrom 36 = .ok (.aload_n 0, 1) := by decide +kernel
theorem dX0_copyFrom_37 : decode cX0_copyFrom 37 = .ok (.getfield 15, 3) := by decide +kernel
theorem dX0_copyFrom_40 : decode cX0_copyFrom 40 = .ok (.iconst 0, 1) := by decide +kernel
theorem dX0_copyFrom_41 : decode cX0_copyFrom 41 = .ok (.bipush 9, 2) := by decide +kernel
theorem dX0_copyFrom_43 : decode cX0_copyFrom 43 = .ok (.invokestatic 70, 3) := by decide +kernel
theorem dX0_copyFrom_46 : decode cX0_copyFrom 46 = .ok (.aload_n 1, 1) := by decide +kernel
theorem dX0_copyFrom_47 : decode cX0_copyFrom 47 = .ok (.getfield 18, 3) := by decide +kernel
theorem dX0_copyFrom_50 : decode cX0_copyFrom 50 = .ok (.iconst 0, 1) := by decide +kernel
theorem dX0_copyFrom_51 : decode cX0_copyFrom 51 = .ok (.aload_n 0, 1) := by decide +kernel
theorem dX0_copyFrom_52 : decode cX0_copyFrom 52 = .ok (.getfield 18, 3) := by decide +kernel
theorem dX0_copyFrom_55 : decode cX0_copyFrom 55 = .ok (.iconst 0, 1) := by decide +kernel
theorem dX0_copyFrom_56 : decode cX0_copyFrom 56 = .ok (.bipush 9, 2) := by decide +kernel
theorem dX0_copyFrom_58 : decode cX0_copyFrom 58 = .ok (.invokestatic 70, 3) := by decide +kernel
theorem dX0_copyFrom_61 : decode cX0_copyFrom 61 = .ok (.aload_n 0, 1) := by decide +kernel
theorem dX0_copyFrom_62 : decode cX0_copyFrom 62 = .ok (.aload_n 1, 1) := by decide +kernel
theorem dX0_copyFrom_63 : decode cX0_copyFrom 63 = .ok (.getfield 40, 3) := by decide +kernel
theorem dX0_copyFrom_66 : decode cX0_copyFrom 66 = .ok (.putfield 40, 3) := by decide +kernel
theorem dX0_copyFrom_69 : decode cX0_copyFrom 69 = .ok (.aload_n 0, 1) := by decide +kernel
theorem dX0_copyFrom_70 : decode cX0_copyFrom 70 = .ok (.aload_n 1, 1) := by decide +kernel
theorem dX0_copyFrom_71 : decode cX0_copyFrom 71 = .ok (.getfield 43, 3) := by decide +kernel
theorem dX0_copyFrom_74 : decode cX0_copyFrom 74 = .ok (.putfield 43, 3) := by decide +kernel
theorem dX0_copyFrom_77 : decode cX0_copyFrom 77 = .ok (.aload_n 0, 1) := by decide +kernel
theorem dX0_copyFrom_78 : decode cX0_copyFrom 78 = .ok (.aload_n 1, 1) := by decide +kernel
theorem dX0_copyFrom_79 : decode cX0_copyFrom 79 = .ok (.getfield 28, 3) := by decide +kernel
theorem dX0_copyFrom_82 : decode cX0_copyFrom 82 = .ok (.putfield 28, 3) := by decide +kernel
theorem dX0_copyFrom_85 : decode cX0_copyFrom 85 = .ok (.aload_n 0, 1) := by decide +kernel
theorem dX0_copyFrom_86 : decode cX0_copyFrom 86 = .ok (.aload_n 1, 1) := by decide +kernel
theorem dX0_copyFrom_87 : decode cX0_copyFrom 87 = .ok (.getfield 46, 3) := by decide +kernel
theorem dX0_copyFrom_90 : decode cX0_copyFrom 90 = .ok (.putfield 46, 3) := by decide +kernel
theorem dX0_copyFrom_93 : decode cX0_copyFrom 93 = .ok (.aload_n 0, 1) := by decide +kernel
theorem dX0_copyFrom_94 : decode cX0_copyFrom 94 = .ok (.aload_n 1, 1) := by decide +kernel
theorem dX0_copyFrom_95 : decode cX0_copyFrom 95 = .ok (.getfield 49, 3) := by decide +kernel
theorem dX0_copyFrom_98 : decode cX0_copyFrom 98 = .ok (.putfield 49, 3) := by decide +kernel
theorem dX0_copyFrom_101 : decode cX0_copyFrom 101 = .ok (.aload_n 0, 1) := by decide +kernel
theorem dX0_copyFrom_102 : decode cX0_copyFrom 102 = .ok (.aload_n 1, 1) := by decide +kernel
theorem dX0_copyFrom_103 : decode cX0_copyFrom 103 = .ok (.getfield 52, 3) := by decide +kernel
theorem dX0_copyFrom_106 : decode cX0_copyFrom 106 = .ok (.putfield 52, 3) := by decide +kernel
theorem dX0_copyFrom_109 : decode cX0_copyFrom 109 = .ok (.aload_n 1, 1) := by decide +kernel
theorem dX0_copyFrom_110 : decode cX0_copyFrom 110 = .ok (.getfield 21, 3) := by decide +kernel
theorem dX0_copyFrom_113 : decode cX0_copyFrom 113 = .ok (.iconst 0, 1) := by decide +kernel
theorem dX0_copyFrom_114 : decode cX0_copyFrom 114 = .ok (.aload_n 0, 1) := by decide +kernel
theorem dX0_copyFrom_115 : decode cX0_copyFrom 115 = .ok (.getfield 21, 3) := by decide +kernel
theorem dX0_copyFrom_118 : decode cX0_copyFrom 118 = .ok (.iconst 0, 1) := by decide +kernel
theorem dX0_copyFrom_119 : decode cX0_copyFrom 119 = .ok (.aload_n 1, 1) := by decide +kernel
theorem dX0_copyFrom_120 : decode cX0_copyFrom 120 = .ok (.getfield 55, 3) := by decide +kernel
theorem dX0_copyFrom_123 : decode cX0_copyFrom 123 = .ok (.invokestatic 70, 3) := by decide +kernel
theorem dX0_copyFrom_126 : decode cX0_copyFrom 126 = .ok (.aload_n 0, 1) := by decide +kernel
theorem dX0_copyFrom_127 : decode cX0_copyFrom 127 = .ok (.aload_n 1, 1) := by decide +kernel
theorem dX0_copyFrom_128 : decode cX0_copyFrom 128 = .ok (.getfield 55, 3) := by decide +kernel
theorem dX0_copyFrom_131 : decode cX0_copyFrom 131 = .ok (.putfield 55, 3) := by decide +kernel
theorem dX0_copyFrom_134 : decode cX0_copyFrom 134 = .ok (.aload_n 0, 1) := by decide +kernel
theorem dX0_copyFrom_135 : decode cX0_copyFrom 135 = .ok (.aload_n 1, 1) := by decide +kernel
theorem dX0_copyFrom_136 : decode cX0_copyFrom 136 = .ok (.getfield 58, 3) := by decide +kernel
theorem dX0_copyFrom_139 : decode cX0_copyFrom 139 = .ok (.putfield 58, 3) := by decide +kernel
theorem dX0_copyFrom_142 : decode cX0_copyFrom 142 = .ok (.aload_n 0, 1) := by decide +kernel
theorem dX0_copyFrom_143 : decode cX0_copyFrom 143 = .ok (.aload_n 1, 1) := by decide +kernel
theorem dX0_copyFrom_144 : decode cX0_copyFrom 144 = .ok (.getfield 61, 3) := by decide +kernel
theorem dX0_copyFrom_147 : decode cX0_copyFrom 147 = .ok (.putfield 61, 3) := by decide +kernel
theorem dX0_copyFrom_150 : decode cX0_copyFrom 150 = .ok (.aload_n 0, 1) := by decide +kernel
theorem dX0_copyFrom_151 : decode cX0_copyFrom 151 = .ok (.aload_n 1, 1) := by decide +kernel
theorem dX0_copyFrom_152 : decode cX0_copyFrom 152 = .ok (.getfield 64, 3) := by decide +kernel
theorem dX0_copyFrom_155 : decode cX0_copyFrom 155 = .ok (.putfield 64, 3) := by decide +kernel
theorem dX0_copyFrom_158 : decode cX0_copyFrom 158 = .ok (.aload_n 0, 1) := by decide +kernel
theorem dX0_copyFrom_159 : decode cX0_copyFrom 159 = .ok (.aload_n 1, 1) := by decide +kernel
theorem dX0_copyFrom_160 : decode cX0_copyFrom 160 = .ok (.getfield 67, 3) := by decide +kernel
theorem dX0_copyFrom_163 : decode cX0_copyFrom 163 = .ok (.putfield 67, 3) := by decide +kernel
theorem dX0_copyFrom_166 : decode cX0_copyFrom 166 = .ok (.return_, 1) := by decide +kernel
theorem dX0_isRung_0 : decode cX0_isRung 0 = .ok (.iload_n 1, 1) := by decide +kernel
theorem dX0_isRung_1 : decode cX0_isRung 1 = .ok (.ifCond .lt 15, 3) := by decide +kernel
theorem dX0_isRung_4 : decode cX0_isRung 4 = .ok (.iload_n 1, 1) := by decide +kernel
theorem dX0_isRung_5 : decode cX0_isRung 5 = .ok (.aload_n 0, 1) := by decide +kernel
theorem dX0_isRung_6 : decode cX0_isRung 6 = .ok (.getfield 24, 3) := by decide +kernel
theorem dX0_isRung_9 : decode cX0_isRung 9 = .ok (.if_icmp .gt 7, 3) := by decide +kernel
theorem dX0_isRung_12 : decode cX0_isRung 12 = .ok (.iconst 1, 1) := by decide +kernel
theorem dX0_isRung_13 : decode cX0_isRung 13 = .ok (.goto 4, 3) := by decide +kernel
theorem dX0_isRung_16 : decode cX0_isRung 16 = .ok (.iconst 0, 1) := by decide +kernel
theorem dX0_isRung_17 : decode cX0_isRung 17 = .ok (.ireturn, 1) := by decide +kernel
theorem dX0_isThing_0 : decode cX0_isThing 0 = .ok (.iload_n 1, 1) := by decide +kernel
theorem dX0_isThing_1 : decode cX0_isThing 1 = .ok (.ifCond .lt 15, 3) := by decide +kernel
theorem dX0_isThing_4 : decode cX0_isThing 4 = .ok (.iload_n 1, 1) := by decide +kernel
theorem dX0_isThing_5 : decode cX0_isThing 5 = .ok (.aload_n 0, 1) := by decide +kernel
theorem dX0_isThing_6 : decode cX0_isThing 6 = .ok (.getfield 31, 3) := by decide +kernel
theorem dX0_isThing_9 : decode cX0_isThing 9 = .ok (.if_icmp .ge 7, 3) := by decide +kernel
theorem dX0_isThing_12 : decode cX0_isThing 12 = .ok (.iconst 1, 1) := by decide +kernel
theorem dX0_isThing_13 : decode cX0_isThing 13 = .ok (.goto 4, 3) := by decide +kernel
theorem dX0_isThing_16 : decode cX0_isThing 16 = .ok (.iconst 0, 1) := by decide +kernel
theorem dX0_isThing_17 : decode cX0_isThing 17 = .ok (.ireturn, 1) := by decide +kernel
theorem dX0_isSet_0 : decode cX0_isSet 0 = .ok (.iload_n 1, 1) := by decide +kernel
theorem dX0_isSet_1 : decode cX0_isSet 1 = .ok (.ifCond .lt 17, 3) := by decide +kernel
theorem dX0_isSet_4 : decode cX0_isSet 4 = .ok (.iload_n 1, 1) := by decide +kernel
theorem dX0_isSet_5 : decode cX0_isSet 5 = .ok (.iconst 1, 1) := by decide +kernel
theorem dX0_isSet_6 : decode cX0_isSet 6 = .ok (.aload_n 0, 1) := by decide +kernel
theorem dX0_isSet_7 : decode cX0_isSet 7 = .ok (.getfield 31, 3) := by decide +kernel
theorem dX0_isSet_10 : decode cX0_isSet 10 = .ok (.ishl, 1) := by decide +kernel
theorem dX0_isSet_11 : decode cX0_isSet 11 = .ok (.if_icmp .ge 7, 3) := by decide +kernel
theorem dX0_isSet_14 : decode cX0_isSet 14 = .ok (.iconst 1, 1) := by decide +kernel
theorem dX0_isSet_15 : decode cX0_isSet 15 = .ok (.goto 4, 3) := by decide +kernel
theorem dX0_isSet_18 : decode cX0_isSet 18 = .ok (.iconst 0, 1) := by decide +kernel
theorem dX0_isSet_19 : decode cX0_isSet 19 = .ok (.ireturn, 1) := by decide +kernel
theorem dX0_holds_0 : decode cX0_holds 0 = .ok (.aload_n 0, 1) := by decide +kernel
theorem dX0_holds_1 : decode cX0_holds 1 = .ok (.getfield 9, 3) := by decide +kernel
theorem dX0_holds_4 : decode cX0_holds 4 = .ok (.iload_n 1, 1) := by decide +kernel
theorem dX0_holds_5 : decode cX0_holds 5 = .ok (.iaload, 1) := by decide +kernel
theorem dX0_holds_6 : decode cX0_holds 6 = .ok (.aload_n 0, 1) := by decide +kernel
theorem dX0_holds_7 : decode cX0_holds 7 = .ok (.getfield 15, 3) := by decide +kernel
theorem dX0_holds_10 : decode cX0_holds 10 = .ok (.iload_n 1, 1) := by decide +kernel
theorem dX0_holds_11 : decode cX0_holds 11 = .ok (.iaload, 1) := by decide +kernel
theorem dX0_holds_12 : decode cX0_holds 12 = .ok (.ior, 1) := by decide +kernel
theorem dX0_holds_13 : decode cX0_holds 13 = .ok (.iload_n 2, 1) := by decide +kernel
theorem dX0_holds_14 : decode cX0_holds 14 = .ok (.ishr, 1) := by decide +kernel
theorem dX0_holds_15 : decode cX0_holds 15 = .ok (.iconst 1, 1) := by decide +kernel
theorem dX0_holds_16 : decode cX0_holds 16 = .ok (.iand, 1) := by decide +kernel
theorem dX0_holds_17 : decode cX0_holds 17 = .ok (.ifCond .ne 7, 3) := by decide +kernel
theorem dX0_holds_20 : decode cX0_holds 20 = .ok (.iconst 1, 1) := by decide +kernel
theorem dX0_holds_21 : decode cX0_holds 21 = .ok (.goto 4, 3) := by decide +kernel
theorem dX0_holds_24 : decode cX0_holds 24 = .ok (.iconst 0, 1) := by decide +kernel
theorem dX0_holds_25 : decode cX0_holds 25 = .ok (.ireturn, 1) := by decide +kernel
theorem dX0_addSign_0 : decode cX0_addSign 0 = .ok (.aload_n 0, 1) := by decide +kernel
theorem dX0_addSign_1 : decode cX0_addSign 1 = .ok (.getfield 55, 3) := by decide +kernel
theorem dX0_addSign_4 : decode cX0_addSign 4 = .ok (.sipush 900, 3) := by decide +kernel
theorem dX0_addSign_7 : decode cX0_addSign 7 = .ok (.if_icmp .ge 23, 3) := by decide +kernel
theorem dX0_addSign_10 : decode cX0_addSign 10 = .ok (.aload_n 0, 1) := by decide +kernel
theorem dX0_addSign_11 : decode cX0_addSign 11 = .ok (.getfield 21, 3) := by decide +kernel
theorem dX0_addSign_14 : decode cX0_addSign 14 = .ok (.aload_n 0, 1) := by decide +kernel
theorem dX0_addSign_15 : decode cX0_addSign 15 = .ok (.getfield 55, 3) := by decide +kernel
theorem dX0_addSign_18 : decode cX0_addSign 18 = .ok (.iload_n 1, 1) := by decide +kernel
theorem dX0_addSign_19 : decode cX0_addSign 19 = .ok (.iastore, 1) := by decide +kernel
theorem dX0_addSign_20 : decode cX0_addSign 20 = .ok (.aload_n 0, 1) := by decide +kernel
theorem dX0_addSign_21 : decode cX0_addSign 21 = .ok (.dup, 1) := by decide +kernel
theorem dX0_addSign_22 : decode cX0_addSign 22 = .ok (.getfield 55, 3) := by decide +kernel
theorem dX0_addSign_25 : decode cX0_addSign 25 = .ok (.iconst 1, 1) := by decide +kernel
theorem dX0_addSign_26 : decode cX0_addSign 26 = .ok (.iadd, 1) := by decide +kernel
theorem dX0_addSign_27 : decode cX0_addSign 27 = .ok (.putfield 55, 3) := by decide +kernel
theorem dX0_addSign_30 : decode cX0_addSign 30 = .ok (.iconst 1, 1) := by decide +kernel
theorem dX0_addSign_31 : decode cX0_addSign 31 = .ok (.ireturn, 1) := by decide +kernel
theorem dX1_init_0 : decode cX1_init 0 = .ok (.aload_n 0, 1) := by decide +kernel
theorem dX1_init_1 : decode cX1_init 1 = .ok (.invokespecial 3, 3) := by decide +kernel
theorem dX1_init_4 : decode cX1_init 4 = .ok (.aload_n 0, 1) := by decide +kernel
theorem dX1_init_5 : decode cX1_init 5 = .ok (.sipush 2880, 3) := by decide +kernel
theorem dX1_init_8 : decode cX1_init 8 = .ok (.newarray .int, 2) := by decide +kernel
theorem dX1_init_10 : decode cX1_init 10 = .ok (.putfield 9, 3) := by decide +kernel
theorem dX1_init_13 : decode cX1_init 13 = .ok (.aload_n 0, 1) := by decide +kernel
theorem dX1_init_14 : decode cX1_init 14 = .ok (.sipush 2880, 3) := by decide +kernel
theorem dX1_init_17 : decode cX1_init 17 = .ok (.newarray .int, 2) := by decide +kernel
theorem dX1_init_19 : decode cX1_init 19 = .ok (.putfield 15, 3) := by decide +kernel
theorem dX1_init_22 : decode cX1_init 22 = .ok (.aload_n 0, 1) := by decide +kernel
theorem dX1_init_23 : decode cX1_init 23 = .ok (.sipush 2880, 3) := by decide +kernel
theorem dX1_init_26 : decode cX1_init 26 = .ok (.newarray .int, 2) := by decide +kernel
theorem dX1_init_28 : decode cX1_init 28 = .ok (.putfield 18, 3) := by decide +kernel
theorem dX1_init_31 : decode cX1_init 31 = .ok (.aload_n 0, 1) := by decide +kernel
theorem dX1_init_32 : decode cX1_init 32 = .ok (.iconst 0, 1) := by decide +kernel
theorem dX1_init_33 : decode cX1_init 33 = .ok (.putfield 21, 3) := by decide +kernel
theorem dX1_init_36 : decode cX1_init 36 = .ok (.aload_n 0, 1) := by decide +kernel
theorem dX1_init_37 : decode cX1_init 37 = .ok (.iconst 0, 1) := by decide +kernel
theorem dX1_init_38 : decode cX1_init 38 = .ok (.putfield 25, 3) := by decide +kernel
theorem dX1_init_41 : decode cX1_init 41 = .ok (.aload_n 0, 1) := by decide +kernel
theorem dX1_init_42 : decode cX1_init 42 = .ok (.aload_n 1, 1) := by decide +kernel
theorem dX1_init_43 : decode cX1_init 43 = .ok (.putfield 29, 3) := by decide +kernel
theorem dX1_init_46 : decode cX1_init 46 = .ok (.return_, 1) := by decide +kernel
theorem dX1_forget_0 : decode cX1_forget 0 = .ok (.aload_n 0, 1) := by decide +kernel
theorem dX1_forget_1 : decode cX1_forget 1 = .ok (.iconst 0, 1) := by decide +kernel
theorem dX1_forget_2 : decode cX1_forget 2 = .ok (.putfield 25, 3) := by decide +kernel
theorem dX1_forget_5 : decode cX1_forget 5 = .ok (.return_, 1) := by decide +kernel
theorem dX1_explore_0 : decode cX1_explore 0 = .ok (.aload_n 0, 1) := by decide +kernel
theorem dX1_explore_1 : decode cX1_explore 1 = .ok (.getfield 25, 3) := by decide +kernel
theorem dX1_explore_4 : decode cX1_explore 4 = .ok (.ifCond .eq 4, 3) := by decide +kernel
theorem dX1_explore_7 : decode cX1_explore 7 = .ok (.return_, 1) := by decide +kernel
theorem dX1_explore_8 : decode cX1_explore 8 = .ok (.aload_n 0, 1) := by decide +kernel
theorem dX1_explore_9 : decode cX1_explore 9 = .ok (.iconst 1, 1) := by decide +kernel
theorem dX1_explore_10 : decode cX1_explore 10 = .ok (.putfield 25, 3) := by decide +kernel
theorem dX1_explore_13 : decode cX1_explore 13 = .ok (.aload_n 0, 1) := by decide +kernel
theorem dX1_explore_14 : decode cX1_explore 14 = .ok (.getfield 15, 3) := by decide +kernel
theorem dX1_explore_17 : decode cX1_explore 17 = .ok (.iconst (-1), 1) := by decide +kernel
theorem dX1_explore_18 : decode cX1_explore 18 = .ok (.invokestatic 33, 3) := by decide +kernel
theorem dX1_explore_21 : decode cX1_explore 21 = .ok (.aload_n 0, 1) := by decide +kernel
theorem dX1_explore_22 : decode cX1_explore 22 = .ok (.getfield 15, 3) := by decide +kernel
theorem dX1_explore_25 : decode cX1_explore 25 = .ok (.iload_n 1, 1) := by decide +kernel
theorem dX1_explore_26 : decode cX1_explore 26 = .ok (.iconst 0, 1) := by decide +kernel
theorem dX1_explore_27 : decode cX1_explore 27 = .ok (.iastore, 1) := by decide +kernel
theorem dX1_explore_28 : decode cX1_explore 28 = .ok (.aload_n 0, 1) := by decide +kernel
theorem dX1_explore_29 : decode cX1_explore 29 = .ok (.getfield 9, 3) := by decide +kernel
theorem dX1_explore_32 : decode cX1_explore 32 = .ok (.iconst 0, 1) := by decide +kernel
theorem dX1_explore_33 : decode cX1_explore 33 = .ok (.iload_n 1, 1) := by decide +kernel
theorem dX1_explore_34 : decode cX1_explore 34 = .ok (.iastore, 1) := by decide +kernel
theorem dX1_explore_35 : decode cX1_explore 35 = .ok (.aload_n 0, 1) := by decide +kernel
theorem dX1_explore_36 : decode cX1_explore 36 = .ok (.iconst 1, 1) := by decide +kernel
theorem dX1_explore_37 : decode cX1_explore 37 = .ok (.putfield 21, 3) := by decide +kernel
theorem dX1_explore_40 : decode cX1_explore 40 = .ok (.iconst 0, 1) := by decide +kernel
theorem dX1_explore_41 : decode cX1_explore 41 = .ok (.istore_n 2, 1) := by decide +kernel
theorem dX1_explore_42 : decode cX1_explore 42 = .ok (.iload_n 2, 1) := by decide +kernel
theorem dX1_explore_43 : decode cX1_explore 43 = .ok (.aload_n 0, 1) := by decide +kernel
theorem dX1_explore_44 : decode cX1_explore 44 = .ok (.getfield 21, 3) := by decide +kernel
theorem dX1_explore_47 : decode cX1_explore 47 = .ok (.if_icmp .ge 26, 3) := by decide +kernel
theorem dX1_explore_50 : decode cX1_explore 50 = .ok (.iload_n 2, 1) := by decide +kernel
theorem dX1_explore_51 : decode cX1_explore 51 = .ok (.sipush 2880, 3) := by decide +kernel
theorem dX1_explore_54 : decode cX1_explore 54 = .ok (.if_icmp .ge 19, 3) := by decide +kernel
theorem dX1_explore_57 : decode cX1_explore 57 = .ok (.aload_n 0, 1) := by decide +kernel
theorem dX1_explore_58 : decode cX1_explore 58 = .ok (.aload_n 0, 1) := by decide +kernel
theorem dX1_explore_59 : decode cX1_explore 59 = .ok (.getfield 9, 3) := by decide +kernel
theorem dX1_explore_62 : decode cX1_explore 62 = .ok (.iload_n 2, 1) := by decide +kernel
theorem dX1_explore_63 : decode cX1_explore 63 = .ok (.iaload, 1) := by decide +kernel
theorem dX1_explore_64 : decode cX1_explore 64 = .ok (.invokevirtual 39, 3) := by decide +kernel
theorem dX1_explore_67 : decode cX1_explore 67 = .ok (.iinc 2 1, 3) := by decide +kernel
theorem dX1_explore_70 : decode cX1_explore 70 = .ok (.goto (-28), 3) := by decide +kernel
theorem dX1_explore_73 : decode cX1_explore 73 = .ok (.return_, 1) := by decide +kernel
theorem dX1_leaveFrom_0 : decode cX1_leaveFrom 0 = .ok (.aload_n 0, 1) := by decide +kernel
theorem dX1_leaveFrom_1 : decode cX1_leaveFrom 1 = .ok (.getfield 29, 3) := by decide +kernel
theorem dX1_leaveFrom_4 : decode cX1_leaveFrom 4 = .ok (.iload_n 1, 1) := by decide +kernel
theorem dX1_leaveFrom_5 : decode cX1_leaveFrom 5 = .ok (.invokevirtual 43, 3) := by decide +kernel
theorem dX1_leaveFrom_8 : decode cX1_leaveFrom 8 = .ok (.istore_n 2, 1) := by decide +kernel
theorem dX1_leaveFrom_9 : decode cX1_leaveFrom 9 = .ok (.iconst 0, 1) := by decide +kernel
theorem dX1_leaveFrom_10 : decode cX1_leaveFrom 10 = .ok (.istore_n 3, 1) := by decide +kernel
theorem dX1_leaveFrom_11 : decode cX1_leaveFrom 11 = .ok (.iload_n 3, 1) := by decide +kernel
theorem dX1_leaveFrom_12 : decode cX1_leaveFrom 12 = .ok (.iload_n 2, 1) := by decide +kernel
theorem dX1_leaveFrom_13 : decode cX1_leaveFrom 13 = .ok (.if_icmp .ge 85, 3) := by decide +kernel
theorem dX1_leaveFrom_16 : decode cX1_leaveFrom 16 = .ok (.aload_n 0, 1) := by decide +kernel
theorem dX1_leaveFrom_17 : decode cX1_leaveFrom 17 = .ok (.getfield 29, 3) := by decide +kernel
theorem dX1_leaveFrom_20 : decode cX1_leaveFrom 20 = .ok (.getfield 49, 3) := by decide +kernel
theorem dX1_leaveFrom_23 : decode cX1_leaveFrom 23 = .ok (.iload_n 3, 1) := by decide +kernel
theorem dX1_leaveFrom_24 : decode cX1_leaveFrom 24 = .ok (.iaload, 1) := by decide +kernel
theorem dX1_leaveFrom_25 : decode cX1_leaveFrom 25 = .ok (.istore 4, 2) := by decide +kernel
theorem dX1_leaveFrom_27 : decode cX1_leaveFrom 27 = .ok (.aload_n 0, 1) := by decide +kernel
theorem dX1_leaveFrom_28 : decode cX1_leaveFrom 28 = .ok (.getfield 15, 3) := by decide +kernel
theorem dX1_leaveFrom_31 : decode cX1_leaveFrom 31 = .ok (.iload 4, 2) := by decide +kernel
theorem dX1_leaveFrom_33 : decode cX1_leaveFrom 33 = .ok (.iaload, 1) := by decide +kernel
theorem dX1_leaveFrom_34 : decode cX1_leaveFrom 34 = .ok (.iconst (-1), 1) := by decide +kernel
theorem dX1_leaveFrom_35 : decode cX1_leaveFrom 35 = .ok (.if_icmp .ne 57, 3) := by decide +kernel
theorem dX1_leaveFrom_38 : decode cX1_leaveFrom 38 = .ok (.aload_n 0, 1) := by decide +kernel
theorem dX1_leaveFrom_39 : decode cX1_leaveFrom 39 = .ok (.getfield 21, 3) := by decide +kernel
theorem dX1_leaveFrom_42 : decode cX1_leaveFrom 42 = .ok (.sipush 2880, 3) := by decide +kernel
theorem dX1_leaveFrom_45 : decode cX1_leaveFrom 45 = .ok (.if_icmp .ge 47, 3) := by decide +kernel
theorem dX1_leaveFrom_48 : decode cX1_leaveFrom 48 = .ok (.aload_n 0, 1) := by decide +kernel
theorem dX1_leaveFrom_49 : decode cX1_leaveFrom 49 = .ok (.getfield 15, 3) := by decide +kernel
theorem dX1_leaveFrom_52 : decode cX1_leaveFrom 52 = .ok (.iload 4, 2) := by decide +kernel
theorem dX1_leaveFrom_54 : decode cX1_leaveFrom 54 = .ok (.aload_n 0, 1) := by decide +kernel
theorem dX1_leaveFrom_55 : decode cX1_leaveFrom 55 = .ok (.getfield 15, 3) := by decide +kernel
theorem dX1_leaveFrom_58 : decode cX1_leaveFrom 58 = .ok (.iload_n 1, 1) := by decide +kernel
theorem dX1_leaveFrom_59 : decode cX1_leaveFrom 59 = .ok (.iaload, 1) := by decide +kernel
theorem dX1_leaveFrom_60 : decode cX1_leaveFrom 60 = .ok (.iconst 1, 1) := by decide +kernel
theorem dX1_leaveFrom_61 : decode cX1_leaveFrom 61 = .ok (.iadd, 1) := by decide +kernel
theorem dX1_leaveFrom_62 : decode cX1_leaveFrom 62 = .ok (.iastore, 1) := by decide +kernel
theorem dX1_leaveFrom_63 : decode cX1_leaveFrom 63 = .ok (.aload_n 0, 1) := by decide +kernel
theorem dX1_leaveFrom_64 : decode cX1_leaveFrom 64 = .ok (.getfield 18, 3) := by decide +kernel
theorem dX1_leaveFrom_67 : decode cX1_leaveFrom 67 = .ok (.iload 4, 2) := by decide +kernel
theorem dX1_leaveFrom_69 : decode cX1_leaveFrom 69 = .ok (.iload_n 1, 1) := by decide +kernel
theorem dX1_leaveFrom_70 : decode cX1_leaveFrom 70 = .ok (.iastore, 1) := by decide +kernel
theorem dX1_leaveFrom_71 : decode cX1_leaveFrom 71 = .ok (.aload_n 0, 1) := by decide +kernel
theorem dX1_leaveFrom_72 : decode cX1_leaveFrom 72 = .ok (.getfield 9, 3) := by decide +kernel
theorem dX1_leaveFrom_75 : decode cX1_leaveFrom 75 = .ok (.aload_n 0, 1) := by decide +kernel
theorem dX1_leaveFrom_76 : decode cX1_leaveFrom 76 = .ok (.getfield 21, 3) := by decide +kernel
theorem dX1_leaveFrom_79 : decode cX1_leaveFrom 79 = .ok (.iload 4, 2) := by decide +kernel
theorem dX1_leaveFrom_81 : decode cX1_leaveFrom 81 = .ok (.iastore, 1) := by decide +kernel
theorem dX1_leaveFrom_82 : decode cX1_leaveFrom 82 = .ok (.aload_n 0, 1) := by decide +kernel
theorem dX1_leaveFrom_83 : decode cX1_leaveFrom 83 = .ok (.dup, 1) := by decide +kernel
theorem dX1_leaveFrom_84 : decode cX1_leaveFrom 84 = .ok (.getfield 21, 3) := by decide +kernel
theorem dX1_leaveFrom_87 : decode cX1_leaveFrom 87 = .ok (.iconst 1, 1) := by decide +kernel
theorem dX1_leaveFrom_88 : decode cX1_leaveFrom 88 = .ok (.iadd, 1) := by decide +kernel
theorem dX1_leaveFrom_89 : decode cX1_leaveFrom 89 = .ok (.putfield 21, 3) := by decide +kernel
theorem dX1_leaveFrom_92 : decode cX1_leaveFrom 92 = .ok (.iinc 3 1, 3) := by decide +kernel
theorem dX1_leaveFrom_95 : decode cX1_leaveFrom 95 = .ok (.goto (-84), 3) := by decide +kernel
theorem dX1_leaveFrom_98 : decode cX1_leaveFrom 98 = .ok (.return_, 1) := by decide +kernel
theorem dX1_goal_0 : decode cX1_goal 0 = .ok (.iconst 0, 1) := by decide +kernel
theorem dX1_goal_1 : decode cX1_goal 1 = .ok (.istore_n 3, 1) := by decide +kernel
theorem dX1_goal_2 : decode cX1_goal 2 = .ok (.iload_n 3, 1) := by decide +kernel
theorem dX1_goal_3 : decode cX1_goal 3 = .ok (.aload_n 0, 1) := by decide +kernel
theorem dX1_goal_4 : decode cX1_goal 4 = .ok (.getfield 21, 3) := by decide +kernel
theorem dX1_goal_7 : decode cX1_goal 7 = .ok (.if_icmp .ge 45, 3) := by decide +kernel
theorem dX1_goal_10 : decode cX1_goal 10 = .ok (.aload_n 0, 1) := by decide +kernel
theorem dX1_goal_11 : decode cX1_goal 11 = .ok (.getfield 9, 3) := by decide +kernel
theorem dX1_goal_14 : decode cX1_goal 14 = .ok (.iload_n 3, 1) := by decide +kernel
theorem dX1_goal_15 : decode cX1_goal 15 = .ok (.iaload, 1) := by decide +kernel
theorem dX1_goal_16 : decode cX1_goal 16 = .ok (.invokestatic 52, 3) := by decide +kernel
theorem dX1_goal_19 : decode cX1_goal 19 = .ok (.iload_n 1, 1) := by decide +kernel
theorem dX1_goal_20 : decode cX1_goal 20 = .ok (.if_icmp .ne 26, 3) := by decide +kernel
theorem dX1_goal_23 : decode cX1_goal 23 = .ok (.iload_n 2, 1) := by decide +kernel
theorem dX1_goal_24 : decode cX1_goal 24 = .ok (.aload_n 0, 1) := by decide +kernel
theorem dX1_goal_25 : decode cX1_goal 25 = .ok (.getfield 9, 3) := by decide +kernel
theorem dX1_goal_28 : decode cX1_goal 28 = .ok (.iload_n 3, 1) := by decide +kernel
theorem dX1_goal_29 : decode cX1_goal 29 = .ok (.iaload, 1) := by decide +kernel
theorem dX1_goal_30 : decode cX1_goal 30 = .ok (.invokestatic 55, 3) := by decide +kernel
theorem dX1_goal_33 : decode cX1_goal 33 = .ok (.iconst (-1), 1) := by decide +kernel
theorem dX1_goal_34 : decode cX1_goal 34 = .ok (.ixor, 1) := by decide +kernel
theorem dX1_goal_35 : decode cX1_goal 35 = .ok (.iand, 1) := by decide +kernel
theorem dX1_goal_36 : decode cX1_goal 36 = .ok (.ifCond .ne 10, 3) := by decide +kernel
theorem dX1_goal_39 : decode cX1_goal 39 = .ok (.aload_n 0, 1) := by decide +kernel
theorem dX1_goal_40 : decode cX1_goal 40 = .ok (.getfield 9, 3) := by decide +kernel
theorem dX1_goal_43 : decode cX1_goal 43 = .ok (.iload_n 3, 1) := by decide +kernel
theorem dX1_goal_44 : decode cX1_goal 44 = .ok (.iaload, 1) := by decide +kernel
theorem dX1_goal_45 : decode cX1_goal 45 = .ok (.ireturn, 1) := by decide +kernel
theorem dX1_goal_46 : decode cX1_goal 46 = .ok (.iinc 3 1, 3) := by decide +kernel
theorem dX1_goal_49 : decode cX1_goal 49 = .ok (.goto (-47), 3) := by decide +kernel
theorem dX1_goal_52 : decode cX1_goal 52 = .ok (.iconst (-1), 1) := by decide +kernel
theorem dX1_goal_53 : decode cX1_goal 53 = .ok (.ireturn, 1) := by decide +kernel
theorem dX1_deedsTo_0 : decode cX1_deedsTo 0 = .ok (.iload_n 1, 1) := by decide +kernel
theorem dX1_deedsTo_1 : decode cX1_deedsTo 1 = .ok (.iconst (-1), 1) := by decide +kernel
theorem dX1_deedsTo_2 : decode cX1_deedsTo 2 = .ok (.if_icmp .ne 7, 3) := by decide +kernel
theorem dX1_deedsTo_5 : decode cX1_deedsTo 5 = .ok (.iconst (-1), 1) := by decide +kernel
theorem dX1_deedsTo_6 : decode cX1_deedsTo 6 = .ok (.goto 9, 3) := by decide +kernel
theorem dX1_deedsTo_9 : decode cX1_deedsTo 9 = .ok (.aload_n 0, 1) := by decide +kernel
theorem dX1_deedsTo_10 : decode cX1_deedsTo 10 = .ok (.getfield 15, 3) := by decide +kernel
theorem dX1_deedsTo_13 : decode cX1_deedsTo 13 = .ok (.iload_n 1, 1) := by decide +kernel
theorem dX1_deedsTo_14 : decode cX1_deedsTo 14 = .ok (.iaload, 1) := by decide +kernel
theorem dX1_deedsTo_15 : decode cX1_deedsTo 15 = .ok (.ireturn, 1) := by decide +kernel
theorem dX1_deedOnTheWay_0 : decode cX1_deedOnTheWay 0 = .ok (.iload_n 1, 1) := by decide +kernel
theorem dX1_deedOnTheWay_1 : decode cX1_deedOnTheWay 1 = .ok (.iconst (-1), 1) := by decide +kernel
theorem dX1_deedOnTheWay_2 : decode cX1_deedOnTheWay 2 = .ok (.if_icmp .eq 13, 3) := by decide +kernel
theorem dX1_deedOnTheWay_5 : decode cX1_deedOnTheWay 5 = .ok (.iload_n 2, 1) := by decide +kernel
theorem dX1_deedOnTheWay_6 : decode cX1_deedOnTheWay 6 = .ok (.aload_n 0, 1) := by decide +kernel
theorem dX1_deedOnTheWay_7 : decode cX1_deedOnTheWay 7 = .ok (.getfield 15, 3) := by decide +kernel
theorem dX1_deedOnTheWay_10 : decode cX1_deedOnTheWay 10 = .ok (.iload_n 1, 1) := by decide +kernel
theorem dX1_deedOnTheWay_11 : decode cX1_deedOnTheWay 11 = .ok (.iaload, 1) := by decide +kernel
theorem dX1_deedOnTheWay_12 : decode cX1_deedOnTheWay 12 = .ok (.if_icmp .lt 5, 3) := by decide +kernel
theorem dX1_deedOnTheWay_15 : decode cX1_deedOnTheWay 15 = .ok (.iconst (-1), 1) := by decide +kernel
theorem dX1_deedOnTheWay_16 : decode cX1_deedOnTheWay 16 = .ok (.ireturn, 1) := by decide +kernel
theorem dX1_deedOnTheWay_17 : decode cX1_deedOnTheWay 17 = .ok (.iload_n 1, 1) := by decide +kernel
theorem dX1_deedOnTheWay_18 : decode cX1_deedOnTheWay 18 = .ok (.istore_n 3, 1) := by decide +kernel
theorem dX1_deedOnTheWay_19 : decode cX1_deedOnTheWay 19 = .ok (.aload_n 0, 1) := by decide +kernel
theorem dX1_deedOnTheWay_20 : decode cX1_deedOnTheWay 20 = .ok (.getfield 15, 3) := by decide +kernel
theorem dX1_deedOnTheWay_23 : decode cX1_deedOnTheWay 23 = .ok (.iload_n 1, 1) := by decide +kernel
theorem dX1_deedOnTheWay_24 : decode cX1_deedOnTheWay 24 = .ok (.iaload, 1) := by decide +kernel
theorem dX1_deedOnTheWay_25 : decode cX1_deedOnTheWay 25 = .ok (.iconst 1, 1) := by decide +kernel
theorem dX1_deedOnTheWay_26 : decode cX1_deedOnTheWay 26 = .ok (.isub, 1) := by decide +kernel
theorem dX1_deedOnTheWay_27 : decode cX1_deedOnTheWay 27 = .ok (.istore 4, 2) := by decide +kernel
theorem dX1_deedOnTheWay_29 : decode cX1_deedOnTheWay 29 = .ok (.iload 4, 2) := by decide +kernel
theorem dX1_deedOnTheWay_31 : decode cX1_deedOnTheWay 31 = .ok (.iload_n 2, 1) := by decide +kernel
theorem dX1_deedOnTheWay_32 : decode cX1_deedOnTheWay 32 = .ok (.if_icmp .le 16, 3) := by decide +kernel
theorem dX1_deedOnTheWay_35 : decode cX1_deedOnTheWay 35 = .ok (.aload_n 0, 1) := by decide +kernel
theorem dX1_deedOnTheWay_36 : decode cX1_deedOnTheWay 36 = .ok (.getfield 18, 3) := by decide +kernel
theorem dX1_deedOnTheWay_39 : decode cX1_deedOnTheWay 39 = .ok (.iload_n 3, 1) := by decide +kernel
theorem dX1_deedOnTheWay_40 : decode cX1_deedOnTheWay 40 = .ok (.iaload, 1) := by decide +kernel
theorem dX1_deedOnTheWay_41 : decode cX1_deedOnTheWay 41 = .ok (.istore_n 3, 1) := by decide +kernel
theorem dX1_deedOnTheWay_42 : decode cX1_deedOnTheWay 42 = .ok (.iinc 4 (-1), 3) := by decide +kernel
theorem dX1_deedOnTheWay_45 : decode cX1_deedOnTheWay 45 = .ok (.goto (-16), 3) := by decide +kernel
theorem dX1_deedOnTheWay_48 : decode cX1_deedOnTheWay 48 = .ok (.aload_n 0, 1) := by decide +kernel
theorem dX1_deedOnTheWay_49 : decode cX1_deedOnTheWay 49 = .ok (.aload_n 0, 1) := by decide +kernel
theorem dX1_deedOnTheWay_50 : decode cX1_deedOnTheWay 50 = .ok (.getfield 18, 3) := by decide +kernel
theorem dX1_deedOnTheWay_53 : decode cX1_deedOnTheWay 53 = .ok (.iload_n 3, 1) := by decide +kernel
theorem dX1_deedOnTheWay_54 : decode cX1_deedOnTheWay 54 = .ok (.iaload, 1) := by decide +kernel
theorem dX1_deedOnTheWay_55 : decode cX1_deedOnTheWay 55 = .ok (.iload_n 3, 1) := by decide +kernel
theorem dX1_deedOnTheWay_56 : decode cX1_deedOnTheWay 56 = .ok (.invokevirtual 58, 3) := by decide +kernel
theorem dX1_deedOnTheWay_59 : decode cX1_deedOnTheWay 59 = .ok (.ireturn, 1) := by decide +kernel
theorem dX1_firstDeed_0 : decode cX1_firstDeed 0 = .ok (.aload_n 0, 1) := by decide +kernel
theorem dX1_firstDeed_1 : decode cX1_firstDeed 1 = .ok (.getfield 29, 3) := by decide +kernel
theorem dX1_firstDeed_4 : decode cX1_firstDeed 4 = .ok (.iload_n 1, 1) := by decide +kernel
theorem dX1_firstDeed_5 : decode cX1_firstDeed 5 = .ok (.invokevirtual 43, 3) := by decide +kernel
theorem dX1_firstDeed_8 : decode cX1_firstDeed 8 = .ok (.istore_n 3, 1) := by decide +kernel
theorem dX1_firstDeed_9 : decode cX1_firstDeed 9 = .ok (.iconst 0, 1) := by decide +kernel
theorem dX1_firstDeed_10 : decode cX1_firstDeed 10 = .ok (.istore 4, 2) := by decide +kernel
theorem dX1_firstDeed_12 : decode cX1_firstDeed 12 = .ok (.iload 4, 2) := by decide +kernel
theorem dX1_firstDeed_14 : decode cX1_firstDeed 14 = .ok (.iload_n 3, 1) := by decide +kernel
theorem dX1_firstDeed_15 : decode cX1_firstDeed 15 = .ok (.if_icmp .ge 34, 3) := by decide +kernel
theorem dX1_firstDeed_18 : decode cX1_firstDeed 18 = .ok (.aload_n 0, 1) := by decide +kernel
theorem dX1_firstDeed_19 : decode cX1_firstDeed 19 = .ok (.getfield 29, 3) := by decide +kernel
theorem dX1_firstDeed_22 : decode cX1_firstDeed 22 = .ok (.getfield 49, 3) := by decide +kernel
theorem dX1_firstDeed_25 : decode cX1_firstDeed 25 = .ok (.iload 4, 2) := by decide +kernel
theorem dX1_firstDeed_27 : decode cX1_firstDeed 27 = .ok (.iaload, 1) := by decide +kernel
theorem dX1_firstDeed_28 : decode cX1_firstDeed 28 = .ok (.iload_n 2, 1) := by decide +kernel
theorem dX1_firstDeed_29 : decode cX1_firstDeed 29 = .ok (.if_icmp .ne 14, 3) := by decide +kernel
theorem dX1_firstDeed_32 : decode cX1_firstDeed 32 = .ok (.aload_n 0, 1) := by decide +kernel
theorem dX1_firstDeed_33 : decode cX1_firstDeed 33 = .ok (.getfield 29, 3) := by decide +kernel
theorem dX1_firstDeed_36 : decode cX1_firstDeed 36 = .ok (.getfield 62, 3) := by decide +kernel
theorem dX1_firstDeed_39 : decode cX1_firstDeed 39 = .ok (.iload 4, 2) := by decide +kernel
theorem dX1_firstDeed_41 : decode cX1_firstDeed 41 = .ok (.iaload, 1) := by decide +kernel
theorem dX1_firstDeed_42 : decode cX1_firstDeed 42 = .ok (.ireturn, 1) := by decide +kernel
theorem dX1_firstDeed_43 : decode cX1_firstDeed 43 = .ok (.iinc 4 1, 3) := by decide +kernel
theorem dX1_firstDeed_46 : decode cX1_firstDeed 46 = .ok (.goto (-34), 3) := by decide +kernel
theorem dX1_firstDeed_49 : decode cX1_firstDeed 49 = .ok (.iconst (-1), 1) := by decide +kernel
theorem dX1_firstDeed_50 : decode cX1_firstDeed 50 = .ok (.ireturn, 1) := by decide +kernel
theorem dX1_topRungWith_0 : decode cX1_topRungWith 0 = .ok (.iconst (-1), 1) := by decide +kernel
theorem dX1_topRungWith_1 : decode cX1_topRungWith 1 = .ok (.istore_n 2, 1) := by decide +kernel
theorem dX1_topRungWith_2 : decode cX1_topRungWith 2 = .ok (.iconst 0, 1) := by decide +kernel
theorem dX1_topRungWith_3 : decode cX1_topRungWith 3 = .ok (.istore_n 3, 1) := by decide +kernel
theorem dX1_topRungWith_4 : decode cX1_topRungWith 4 = .ok (.iload_n 3, 1) := by decide +kernel
theorem dX1_topRungWith_5 : decode cX1_topRungWith 5 = .ok (.aload_n 0, 1) := by decide +kernel
theorem dX1_topRungWith_6 : decode cX1_topRungWith 6 = .ok (.getfield 21, 3) := by decide +kernel
theorem dX1_topRungWith_9 : decode cX1_topRungWith 9 = .ok (.if_icmp .ge 39, 3) := by decide +kernel
theorem dX1_topRungWith_12 : decode cX1_topRungWith 12 = .ok (.iload_n 1, 1) := by decide +kernel
theorem dX1_topRungWith_13 : decode cX1_topRungWith 13 = .ok (.aload_n 0, 1) := by decide +kernel
theorem dX1_topRungWith_14 : decode cX1_topRungWith 14 = .ok (.getfield 9, 3) := by decide +kernel
theorem dX1_topRungWith_17 : decode cX1_topRungWith 17 = .ok (.iload_n 3, 1) := by decide +kernel
theorem dX1_topRungWith_18 : decode cX1_topRungWith 18 = .ok (.iaload, 1) := by decide +kernel
theorem dX1_topRungWith_19 : decode cX1_topRungWith 19 = .ok (.invokestatic 55, 3) := by decide +kernel
theorem dX1_topRungWith_22 : decode cX1_topRungWith 22 = .ok (.iconst (-1), 1) := by decide +kernel
theorem dX1_topRungWith_23 : decode cX1_topRungWith 23 = .ok (.ixor, 1) := by decide +kernel
theorem dX1_topRungWith_24 : decode cX1_topRungWith 24 = .ok (.iand, 1) := by decide +kernel
theorem dX1_topRungWith_25 : decode cX1_topRungWith 25 = .ok (.ifCond .ne 17, 3) := by decide +kernel
theorem dX1_topRungWith_28 : decode cX1_topRungWith 28 = .ok (.iload_n 2, 1) := by decide +kernel
theorem dX1_topRungWith_29 : decode cX1_topRungWith 29 = .ok (.aload_n 0, 1) := by decide +kernel
theorem dX1_topRungWith_30 : decode cX1_topRungWith 30 = .ok (.getfield 9, 3) := by decide +kernel
theorem dX1_topRungWith_33 : decode cX1_topRungWith 33 = .ok (.iload_n 3, 1) := by decide +kernel
theorem dX1_topRungWith_34 : decode cX1_topRungWith 34 = .ok (.iaload, 1) := by decide +kernel
theorem dX1_topRungWith_35 : decode cX1_topRungWith 35 = .ok (.invokestatic 52, 3) := by decide +kernel
theorem dX1_topRungWith_38 : decode cX1_topRungWith 38 = .ok (.invokestatic 65, 3) := by decide +kernel
theorem dX1_topRungWith_41 : decode cX1_topRungWith 41 = .ok (.istore_n 2, 1) := by decide +kernel
theorem dX1_topRungWith_42 : decode cX1_topRungWith 42 = .ok (.iinc 3 1, 3) := by decide +kernel
theorem dX1_topRungWith_45 : decode cX1_topRungWith 45 = .ok (.goto (-41), 3) := by decide +kernel
theorem dX1_topRungWith_48 : decode cX1_topRungWith 48 = .ok (.iload_n 2, 1) := by decide +kernel
theorem dX1_topRungWith_49 : decode cX1_topRungWith 49 = .ok (.ireturn, 1) := by decide +kernel
theorem dX1_richestSet_0 : decode cX1_richestSet 0 = .ok (.iconst (-1), 1) := by decide +kernel
theorem dX1_richestSet_1 : decode cX1_richestSet 1 = .ok (.istore_n 2, 1) := by decide +kernel
theorem dX1_richestSet_2 : decode cX1_richestSet 2 = .ok (.iconst 0, 1) := by decide +kernel
theorem dX1_richestSet_3 : decode cX1_richestSet 3 = .ok (.istore_n 3, 1) := by decide +kernel
theorem dX1_richestSet_4 : decode cX1_richestSet 4 = .ok (.iload_n 3, 1) := by decide +kernel
theorem dX1_richestSet_5 : decode cX1_richestSet 5 = .ok (.aload_n 0, 1) := by decide +kernel
theorem dX1_richestSet_6 : decode cX1_richestSet 6 = .ok (.getfield 21, 3) := by decide +kernel
theorem dX1_richestSet_9 : decode cX1_richestSet 9 = .ok (.if_icmp .ge 48, 3) := by decide +kernel
theorem dX1_richestSet_12 : decode cX1_richestSet 12 = .ok (.aload_n 0, 1) := by decide +kernel
theorem dX1_richestSet_13 : decode cX1_richestSet 13 = .ok (.getfield 9, 3) := by decide +kernel
theorem dX1_richestSet_16 : decode cX1_richestSet 16 = .ok (.iload_n 3, 1) := by decide +kernel
theorem dX1_richestSet_17 : decode cX1_richestSet 17 = .ok (.iaload, 1) := by decide +kernel
theorem dX1_richestSet_18 : decode cX1_richestSet 18 = .ok (.invokestatic 52, 3) := by decide +kernel
theorem dX1_richestSet_21 : decode cX1_richestSet 21 = .ok (.iload_n 1, 1) := by decide +kernel
theorem dX1_richestSet_22 : decode cX1_richestSet 22 = .ok (.if_icmp .ne 29, 3) := by decide +kernel
theorem dX1_richestSet_25 : decode cX1_richestSet 25 = .ok (.aload_n 0, 1) := by decide +kernel
theorem dX1_richestSet_26 : decode cX1_richestSet 26 = .ok (.getfield 9, 3) := by decide +kernel
theorem dX1_richestSet_29 : decode cX1_richestSet 29 = .ok (.iload_n 3, 1) := by decide +kernel
theorem dX1_richestSet_30 : decode cX1_richestSet 30 = .ok (.iaload, 1) := by decide +kernel
theorem dX1_richestSet_31 : decode cX1_richestSet 31 = .ok (.invokestatic 55, 3) := by decide +kernel
theorem dX1_richestSet_34 : decode cX1_richestSet 34 = .ok (.iload_n 2, 1) := by decide +kernel
theorem dX1_richestSet_35 : decode cX1_richestSet 35 = .ok (.invokestatic 70, 3) := by decide +kernel
theorem dX1_richestSet_38 : decode cX1_richestSet 38 = .ok (.ifCond .eq 13, 3) := by decide +kernel
theorem dX1_richestSet_41 : decode cX1_richestSet 41 = .ok (.aload_n 0, 1) := by decide +kernel
theorem dX1_richestSet_42 : decode cX1_richestSet 42 = .ok (.getfield 9, 3) := by decide +kernel
theorem dX1_richestSet_45 : decode cX1_richestSet 45 = .ok (.iload_n 3, 1) := by decide +kernel
theorem dX1_richestSet_46 : decode cX1_richestSet 46 = .ok (.iaload, 1) := by decide +kernel
theorem dX1_richestSet_47 : decode cX1_richestSet 47 = .ok (.invokestatic 55, 3) := by decide +kernel
theorem dX1_richestSet_50 : decode cX1_richestSet 50 = .ok (.istore_n 2, 1) := by decide +kernel
theorem dX1_richestSet_51 : decode cX1_richestSet 51 = .ok (.iinc 3 1, 3) := by decide +kernel
theorem dX1_richestSet_54 : decode cX1_richestSet 54 = .ok (.goto (-50), 3) := by decide +kernel
theorem dX1_richestSet_57 : decode cX1_richestSet 57 = .ok (.iload_n 2, 1) := by decide +kernel
theorem dX1_richestSet_58 : decode cX1_richestSet 58 = .ok (.ireturn, 1) := by decide +kernel
theorem dX1_isRicher_0 : decode cX1_isRicher 0 = .ok (.iload_n 1, 1) := by decide +kernel
theorem dX1_isRicher_1 : decode cX1_isRicher 1 = .ok (.iconst (-1), 1) := by decide +kernel
theorem dX1_isRicher_2 : decode cX1_isRicher 2 = .ok (.if_icmp .ne 5, 3) := by decide +kernel
theorem dX1_isRicher_5 : decode cX1_isRicher 5 = .ok (.iconst 1, 1) := by decide +kernel
theorem dX1_isRicher_6 : decode cX1_isRicher 6 = .ok (.ireturn, 1) := by decide +kernel
theorem dX1_isRicher_7 : decode cX1_isRicher 7 = .ok (.iload_n 0, 1) := by decide +kernel
theorem dX1_isRicher_8 : decode cX1_isRicher 8 = .ok (.invokestatic 74, 3) := by decide +kernel
theorem dX1_isRicher_11 : decode cX1_isRicher 11 = .ok (.iload_n 1, 1) := by decide +kernel
theorem dX1_isRicher_12 : decode cX1_isRicher 12 = .ok (.invokestatic 74, 3) := by decide +kernel
theorem dX1_isRicher_15 : decode cX1_isRicher 15 = .ok (.isub, 1) := by decide +kernel
theorem dX1_isRicher_16 : decode cX1_isRicher 16 = .ok (.istore_n 2, 1) := by decide +kernel
theorem dX1_isRicher_17 : decode cX1_isRicher 17 = .ok (.iload_n 2, 1) := by decide +kernel
theorem dX1_isRicher_18 : decode cX1_isRicher 18 = .ok (.ifCond .gt 12, 3) := by decide +kernel
theorem dX1_isRicher_21 : decode cX1_isRicher 21 = .ok (.iload_n 2, 1) := by decide +kernel
theorem dX1_isRicher_22 : decode cX1_isRicher 22 = .ok (.ifCond .ne 12, 3) := by decide +kernel
theorem dX1_isRicher_25 : decode cX1_isRicher 25 = .ok (.iload_n 0, 1) := by decide +kernel
theorem dX1_isRicher_26 : decode cX1_isRicher 26 = .ok (.iload_n 1, 1) := by decide +kernel
theorem dX1_isRicher_27 : decode cX1_isRicher 27 = .ok (.if_icmp .ge 7, 3) := by decide +kernel
theorem dX1_isRicher_30 : decode cX1_isRicher 30 = .ok (.iconst 1, 1) := by decide +kernel
theorem dX1_isRicher_31 : decode cX1_isRicher 31 = .ok (.goto 4, 3) := by decide +kernel
theorem dX1_isRicher_34 : decode cX1_isRicher 34 = .ok (.iconst 0, 1) := by decide +kernel
theorem dX1_isRicher_35 : decode cX1_isRicher 35 = .ok (.ireturn, 1) := by decide +kernel
theorem dX1_everHadOn_0 : decode cX1_everHadOn 0 = .ok (.iconst 0, 1) := by decide +kernel
theorem dX1_everHadOn_1 : decode cX1_everHadOn 1 = .ok (.istore_n 2, 1) := by decide +kernel
theorem dX1_everHadOn_2 : decode cX1_everHadOn 2 = .ok (.iconst 0, 1) := by decide +kernel
theorem dX1_everHadOn_3 : decode cX1_everHadOn 3 = .ok (.istore_n 3, 1) := by decide +kernel
theorem dX1_everHadOn_4 : decode cX1_everHadOn 4 = .ok (.iconst 0, 1) := by decide +kernel
theorem dX1_everHadOn_5 : decode cX1_everHadOn 5 = .ok (.istore 4, 2) := by decide +kernel
theorem dX1_everHadOn_7 : decode cX1_everHadOn 7 = .ok (.iload 4, 2) := by decide +kernel
theorem dX1_everHadOn_9 : decode cX1_everHadOn 9 = .ok (.aload_n 0, 1) := by decide +kernel
theorem dX1_everHadOn_10 : decode cX1_everHadOn 10 = .ok (.getfield 21, 3) := by decide +kernel
theorem dX1_everHadOn_13 : decode cX1_everHadOn 13 = .ok (.if_icmp .ge 38, 3) := by decide +kernel
theorem dX1_everHadOn_16 : decode cX1_everHadOn 16 = .ok (.aload_n 0, 1) := by decide +kernel
theorem dX1_everHadOn_17 : decode cX1_everHadOn 17 = .ok (.getfield 9, 3) := by decide +kernel
theorem dX1_everHadOn_20 : decode cX1_everHadOn 20 = .ok (.iload 4, 2) := by decide +kernel
theorem dX1_everHadOn_22 : decode cX1_everHadOn 22 = .ok (.iaload, 1) := by decide +kernel
theorem dX1_everHadOn_23 : decode cX1_everHadOn 23 = .ok (.invokestatic 52, 3) := by decide +kernel
theorem dX1_everHadOn_26 : decode cX1_everHadOn 26 = .ok (.iload_n 1, 1) := by decide +kernel
theorem dX1_everHadOn_27 : decode cX1_everHadOn 27 = .ok (.if_icmp .ne 18, 3) := by decide +kernel
theorem dX1_everHadOn_30 : decode cX1_everHadOn 30 = .ok (.iconst 1, 1) := by decide +kernel
theorem dX1_everHadOn_31 : decode cX1_everHadOn 31 = .ok (.istore_n 3, 1) := by decide +kernel
theorem dX1_everHadOn_32 : decode cX1_everHadOn 32 = .ok (.iload_n 2, 1) := by decide +kernel
theorem dX1_everHadOn_33 : decode cX1_everHadOn 33 = .ok (.aload_n 0, 1) := by decide +kernel
theorem dX1_everHadOn_34 : decode cX1_everHadOn 34 = .ok (.getfield 9, 3) := by decide +kernel
theorem dX1_everHadOn_37 : decode cX1_everHadOn 37 = .ok (.iload 4, 2) := by decide +kernel
theorem dX1_everHadOn_39 : decode cX1_everHadOn 39 = .ok (.iaload, 1) := by decide +kernel
theorem dX1_everHadOn_40 : decode cX1_everHadOn 40 = .ok (.invokestatic 55, 3) := by decide +kernel
theorem dX1_everHadOn_43 : decode cX1_everHadOn 43 = .ok (.ior, 1) := by decide +kernel
theorem dX1_everHadOn_44 : decode cX1_everHadOn 44 = .ok (.istore_n 2, 1) := by decide +kernel
theorem dX1_everHadOn_45 : decode cX1_everHadOn 45 = .ok (.iinc 4 1, 3) := by decide +kernel
theorem dX1_everHadOn_48 : decode cX1_everHadOn 48 = .ok (.goto (-41), 3) := by decide +kernel
theorem dX1_everHadOn_51 : decode cX1_everHadOn 51 = .ok (.iload_n 3, 1) := by decide +kernel
theorem dX1_everHadOn_52 : decode cX1_everHadOn 52 = .ok (.ifCond .eq 7, 3) := by decide +kernel
theorem dX1_everHadOn_55 : decode cX1_everHadOn 55 = .ok (.iload_n 2, 1) := by decide +kernel
theorem dX1_everHadOn_56 : decode cX1_everHadOn 56 = .ok (.goto 4, 3) := by decide +kernel
theorem dX1_everHadOn_59 : decode cX1_everHadOn 59 = .ok (.iconst (-1), 1) := by decide +kernel
theorem dX1_everHadOn_60 : decode cX1_everHadOn 60 = .ok (.ireturn, 1) := by decide +kernel
theorem dX2_init_0 : decode cX2_init 0 = .ok (.aload_n 0, 1) := by decide +kernel
theorem dX2_init_1 : decode cX2_init 1 = .ok (.invokespecial 3, 3) := by decide +kernel
theorem dX2_init_4 : decode cX2_init 4 = .ok (.aload_n 0, 1) := by decide +kernel
theorem dX2_init_5 : decode cX2_init 5 = .ok (.sipush 315, 3) := by decide +kernel
theorem dX2_init_8 : decode cX2_init 8 = .ok (.newarray .int, 2) := by decide +kernel
theorem dX2_init_10 : decode cX2_init 10 = .ok (.putfield 11, 3) := by decide +kernel
theorem dX2_init_13 : decode cX2_init 13 = .ok (.aload_n 0, 1) := by decide +kernel
theorem dX2_init_14 : decode cX2_init 14 = .ok (.bipush 6, 2) := by decide +kernel
theorem dX2_init_16 : decode cX2_init 16 = .ok (.newarray .int, 2) := by decide +kernel
theorem dX2_init_18 : decode cX2_init 18 = .ok (.putfield 17, 3) := by decide +kernel
theorem dX2_init_21 : decode cX2_init 21 = .ok (.aload_n 0, 1) := by decide +kernel
theorem dX2_init_22 : decode cX2_init 22 = .ok (.bipush 64, 2) := by decide +kernel
theorem dX2_init_24 : decode cX2_init 24 = .ok (.newarray .int, 2) := by decide +kernel
theorem dX2_init_26 : decode cX2_init 26 = .ok (.putfield 20, 3) := by decide +kernel
theorem dX2_init_29 : decode cX2_init 29 = .ok (.aload_n 0, 1) := by decide +kernel
theorem dX2_init_30 : decode cX2_init 30 = .ok (.iconst 0, 1) := by decide +kernel
theorem dX2_init_31 : decode cX2_init 31 = .ok (.putfield 23, 3) := by decide +kernel
theorem dX2_init_34 : decode cX2_init 34 = .ok (.aload_n 0, 1) := by decide +kernel
theorem dX2_init_35 : decode cX2_init 35 = .ok (.aload_n 1, 1) := by decide +kernel
theorem dX2_init_36 : decode cX2_init 36 = .ok (.putfield 27, 3) := by decide +kernel
theorem dX2_init_39 : decode cX2_init 39 = .ok (.aload_n 0, 1) := by decide +kernel
theorem dX2_init_40 : decode cX2_init 40 = .ok (.invokevirtual 31, 3) := by decide +kernel
theorem dX2_init_43 : decode cX2_init 43 = .ok (.return_, 1) := by decide +kernel
theorem dX2_forget_0 : decode cX2_forget 0 = .ok (.aload_n 0, 1) := by decide +kernel
theorem dX2_forget_1 : decode cX2_forget 1 = .ok (.getfield 11, 3) := by decide +kernel
theorem dX2_forget_4 : decode cX2_forget 4 = .ok (.bipush (-2), 2) := by decide +kernel
theorem dX2_forget_6 : decode cX2_forget 6 = .ok (.invokestatic 34, 3) := by decide +kernel
theorem dX2_forget_9 : decode cX2_forget 9 = .ok (.return_, 1) := by decide +kernel
theorem dX2_useWind_0 : decode cX2_useWind 0 = .ok (.iload_n 1, 1) := by decide +kernel
theorem dX2_useWind_1 : decode cX2_useWind 1 = .ok (.aload_n 0, 1) := by decide +kernel
theorem dX2_useWind_2 : decode cX2_useWind 2 = .ok (.getfield 23, 3) := by decide +kernel
theorem dX2_useWind_5 : decode cX2_useWind 5 = .ok (.if_icmp .eq 12, 3) := by decide +kernel
theorem dX2_useWind_8 : decode cX2_useWind 8 = .ok (.aload_n 0, 1) := by decide +kernel
theorem dX2_useWind_9 : decode cX2_useWind 9 = .ok (.iload_n 1, 1) := by decide +kernel
theorem dX2_useWind_10 : decode cX2_useWind 10 = .ok (.putfield 23, 3) := by decide +kernel
theorem dX2_useWind_13 : decode cX2_useWind 13 = .ok (.aload_n 0, 1) := by decide +kernel
theorem dX2_useWind_14 : decode cX2_useWind 14 = .ok (.invokevirtual 31, 3) := by decide +kernel
theorem dX2_useWind_17 : decode cX2_useWind 17 = .ok (.return_, 1) := by decide +kernel
theorem dX2_strengthAbove_0 : decode cX2_strengthAbove 0 = .ok (.iload_n 1, 1) := by decide +kernel
theorem dX2_strengthAbove_1 : decode cX2_strengthAbove 1 = .ok (.invokestatic 40, 3) := by decide +kernel
theorem dX2_strengthAbove_4 : decode cX2_strengthAbove 4 = .ok (.iconst 1, 1) := by decide +kernel
theorem dX2_strengthAbove_5 : decode cX2_strengthAbove 5 = .ok (.iadd, 1) := by decide +kernel
theorem dX2_strengthAbove_6 : decode cX2_strengthAbove 6 = .ok (.istore_n 2, 1) := by decide +kernel
theorem dX2_strengthAbove_7 : decode cX2_strengthAbove 7 = .ok (.iload_n 1, 1) := by decide +kernel
theorem dX2_strengthAbove_8 : decode cX2_strengthAbove 8 = .ok (.invokestatic 44, 3) := by decide +kernel
theorem dX2_strengthAbove_11 : decode cX2_strengthAbove 11 = .ok (.invokestatic 47, 3) := by decide +kernel
theorem dX2_strengthAbove_14 : decode cX2_strengthAbove 14 = .ok (.istore_n 3, 1) := by decide +kernel
theorem dX2_strengthAbove_15 : decode cX2_strengthAbove 15 = .ok (.iload_n 1, 1) := by decide +kernel
theorem dX2_strengthAbove_16 : decode cX2_strengthAbove 16 = .ok (.invokestatic 52, 3) := by decide +kernel
theorem dX2_strengthAbove_19 : decode cX2_strengthAbove 19 = .ok (.istore 4, 2) := by decide +kernel
theorem dX2_strengthAbove_21 : decode cX2_strengthAbove 21 = .ok (.iload_n 2, 1) := by decide +kernel
theorem dX2_strengthAbove_22 : decode cX2_strengthAbove 22 = .ok (.aload_n 0, 1) := by decide +kernel
theorem dX2_strengthAbove_23 : decode cX2_strengthAbove 23 = .ok (.getfield 27, 3) := by decide +kernel
theorem dX2_strengthAbove_26 : decode cX2_strengthAbove 26 = .ok (.getfield 55, 3) := by decide +kernel
theorem dX2_strengthAbove_29 : decode cX2_strengthAbove 29 = .ok (.if_icmp .le 5, 3) := by decide +kernel
theorem dX2_strengthAbove_32 : decode cX2_strengthAbove 32 = .ok (.iconst (-1), 1) := by decide +kernel
theorem dX2_strengthAbove_33 : decode cX2_strengthAbove 33 = .ok (.ireturn, 1) := by decide +kernel
theorem dX2_strengthAbove_34 : decode cX2_strengthAbove 34 = .ok (.iload_n 2, 1) := by decide +kernel
theorem dX2_strengthAbove_35 : decode cX2_strengthAbove 35 = .ok (.bipush 7, 2) := by decide +kernel
theorem dX2_strengthAbove_37 : decode cX2_strengthAbove 37 = .ok (.imul, 1) := by decide +kernel
theorem dX2_strengthAbove_38 : decode cX2_strengthAbove 38 = .ok (.iload_n 3, 1) := by decide +kernel
theorem dX2_strengthAbove_39 : decode cX2_strengthAbove 39 = .ok (.iadd, 1) := by decide +kernel
theorem dX2_strengthAbove_40 : decode cX2_strengthAbove 40 = .ok (.iconst 5, 1) := by decide +kernel
theorem dX2_strengthAbove_41 : decode cX2_strengthAbove 41 = .ok (.imul, 1) := by decide +kernel
theorem dX2_strengthAbove_42 : decode cX2_strengthAbove 42 = .ok (.iload 4, 2) := by decide +kernel
theorem dX2_strengthAbove_44 : decode cX2_strengthAbove 44 = .ok (.iadd, 1) := by decide +kernel
theorem dX2_strengthAbove_45 : decode cX2_strengthAbove 45 = .ok (.istore 5, 2) := by decide +kernel
theorem dX2_strengthAbove_47 : decode cX2_strengthAbove 47 = .ok (.aload_n 0, 1) := by decide +kernel
theorem dX2_strengthAbove_48 : decode cX2_strengthAbove 48 = .ok (.getfield 11, 3) := by decide +kernel
theorem dX2_strengthAbove_51 : decode cX2_strengthAbove 51 = .ok (.iload 5, 2) := by decide +kernel
theorem dX2_strengthAbove_53 : decode cX2_strengthAbove 53 = .ok (.iaload, 1) := by decide +kernel
theorem dX2_strengthAbove_54 : decode cX2_strengthAbove 54 = .ok (.bipush (-2), 2) := by decide +kernel
theorem dX2_strengthAbove_56 : decode cX2_strengthAbove 56 = .ok (.if_icmp .eq 11, 3) := by decide +kernel
theorem dX2_strengthAbove_59 : decode cX2_strengthAbove 59 = .ok (.aload_n 0, 1) := by decide +kernel
theorem dX2_strengthAbove_60 : decode cX2_strengthAbove 60 = .ok (.getfield 11, 3) := by decide +kernel
theorem dX2_strengthAbove_63 : decode cX2_strengthAbove 63 = .ok (.iload 5, 2) := by decide +kernel
theorem dX2_strengthAbove_65 : decode cX2_strengthAbove 65 = .ok (.iaload, 1) := by decide +kernel
theorem dX2_strengthAbove_66 : decode cX2_strengthAbove 66 = .ok (.ireturn, 1) := by decide +kernel
theorem dX2_strengthAbove_67 : decode cX2_strengthAbove 67 = .ok (.aload_n 0, 1) := by decide +kernel
theorem dX2_strengthAbove_68 : decode cX2_strengthAbove 68 = .ok (.iload_n 2, 1) := by decide +kernel
theorem dX2_strengthAbove_69 : decode cX2_strengthAbove 69 = .ok (.iload_n 3, 1) := by decide +kernel
theorem dX2_strengthAbove_70 : decode cX2_strengthAbove 70 = .ok (.iload 4, 2) := by decide +kernel
theorem dX2_strengthAbove_72 : decode cX2_strengthAbove 72 = .ok (.invokevirtual 58, 3) := by decide +kernel
theorem dX2_strengthAbove_75 : decode cX2_strengthAbove 75 = .ok (.iload 4, 2) := by decide +kernel
theorem dX2_strengthAbove_77 : decode cX2_strengthAbove 77 = .ok (.iconst 1, 1) := by decide +kernel
theorem dX2_strengthAbove_78 : decode cX2_strengthAbove 78 = .ok (.if_icmp .lt 7, 3) := by decide +kernel
theorem dX2_strengthAbove_81 : decode cX2_strengthAbove 81 = .ok (.iconst 1, 1) := by decide +kernel
theorem dX2_strengthAbove_82 : decode cX2_strengthAbove 82 = .ok (.goto 4, 3) := by decide +kernel
theorem dX2_strengthAbove_85 : decode cX2_strengthAbove 85 = .ok (.iconst 0, 1) := by decide +kernel
theorem dX2_strengthAbove_86 : decode cX2_strengthAbove 86 = .ok (.istore 6, 2) := by decide +kernel
theorem dX2_strengthAbove_88 : decode cX2_strengthAbove 88 = .ok (.aload_n 0, 1) := by decide +kernel
theorem dX2_strengthAbove_89 : decode cX2_strengthAbove 89 = .ok (.getfield 27, 3) := by decide +kernel
theorem dX2_strengthAbove_92 : decode cX2_strengthAbove 92 = .ok (.getfield 62, 3) := by decide +kernel
theorem dX2_strengthAbove_95 : decode cX2_strengthAbove 95 = .ok (.aload_n 0, 1) := by decide +kernel
theorem dX2_strengthAbove_96 : decode cX2_strengthAbove 96 = .ok (.getfield 27, 3) := by decide +kernel
theorem dX2_strengthAbove_99 : decode cX2_strengthAbove 99 = .ok (.getfield 65, 3) := by decide +kernel
theorem dX2_strengthAbove_102 : decode cX2_strengthAbove 102 = .ok (.if_icmp .ge 31, 3) := by decide +kernel
theorem dX2_strengthAbove_105 : decode cX2_strengthAbove 105 = .ok (.aload_n 0, 1) := by decide +kernel
theorem dX2_strengthAbove_106 : decode cX2_strengthAbove 106 = .ok (.aload_n 0, 1) := by decide +kernel
theorem dX2_strengthAbove_107 : decode cX2_strengthAbove 107 = .ok (.getfield 27, 3) := by decide +kernel
theorem dX2_strengthAbove_110 : decode cX2_strengthAbove 110 = .ok (.getfield 62, 3) := by decide +kernel
theorem dX2_strengthAbove_113 : decode cX2_strengthAbove 113 = .ok (.aload_n 0, 1) := by decide +kernel
theorem dX2_strengthAbove_114 : decode cX2_strengthAbove 114 = .ok (.getfield 27, 3) := by decide +kernel
theorem dX2_strengthAbove_117 : decode cX2_strengthAbove 117 = .ok (.getfield 65, 3) := by decide +kernel
theorem dX2_strengthAbove_120 : decode cX2_strengthAbove 120 = .ok (.invokevirtual 68, 3) := by decide +kernel
theorem dX2_strengthAbove_123 : decode cX2_strengthAbove 123 = .ok (.ifCond .eq 7, 3) := by decide +kernel
theorem dX2_strengthAbove_126 : decode cX2_strengthAbove 126 = .ok (.iconst 1, 1) := by decide +kernel
theorem dX2_strengthAbove_127 : decode cX2_strengthAbove 127 = .ok (.goto 4, 3) := by decide +kernel
theorem dX2_strengthAbove_130 : decode cX2_strengthAbove 130 = .ok (.iconst 0, 1) := by decide +kernel
theorem dX2_strengthAbove_131 : decode cX2_strengthAbove 131 = .ok (.istore 6, 2) := by decide +kernel
theorem dX2_strengthAbove_133 : decode cX2_strengthAbove 133 = .ok (.iload 4, 2) := by decide +kernel
theorem dX2_strengthAbove_135 : decode cX2_strengthAbove 135 = .ok (.iconst 1, 1) := by decide +kernel
theorem dX2_strengthAbove_136 : decode cX2_strengthAbove 136 = .ok (.isub, 1) := by decide +kernel
theorem dX2_strengthAbove_137 : decode cX2_strengthAbove 137 = .ok (.istore 7, 2) := by decide +kernel
theorem dX2_strengthAbove_139 : decode cX2_strengthAbove 139 = .ok (.iload 6, 2) := by decide +kernel
theorem dX2_strengthAbove_141 : decode cX2_strengthAbove 141 = .ok (.ifCond .eq 40, 3) := by decide +kernel
theorem dX2_strengthAbove_144 : decode cX2_strengthAbove 144 = .ok (.aload_n 0, 1) := by decide +kernel
theorem dX2_strengthAbove_145 : decode cX2_strengthAbove 145 = .ok (.getfield 27, 3) := by decide +kernel
theorem dX2_strengthAbove_148 : decode cX2_strengthAbove 148 = .ok (.getfield 72, 3) := by decide +kernel
theorem dX2_strengthAbove_151 : decode cX2_strengthAbove 151 = .ok (.aload_n 0, 1) := by decide +kernel
theorem dX2_strengthAbove_152 : decode cX2_strengthAbove 152 = .ok (.getfield 27, 3) := by decide +kernel
theorem dX2_strengthAbove_155 : decode cX2_strengthAbove 155 = .ok (.getfield 75, 3) := by decide +kernel
theorem dX2_strengthAbove_158 : decode cX2_strengthAbove 158 = .ok (.if_icmp .ge 23, 3) := by decide +kernel
theorem dX2_strengthAbove_161 : decode cX2_strengthAbove 161 = .ok (.aload_n 0, 1) := by decide +kernel
theorem dX2_strengthAbove_162 : decode cX2_strengthAbove 162 = .ok (.aload_n 0, 1) := by decide +kernel
theorem dX2_strengthAbove_163 : decode cX2_strengthAbove 163 = .ok (.getfield 27, 3) := by decide +kernel
theorem dX2_strengthAbove_166 : decode cX2_strengthAbove 166 = .ok (.getfield 72, 3) := by decide +kernel
theorem dX2_strengthAbove_169 : decode cX2_strengthAbove 169 = .ok (.aload_n 0, 1) := by decide +kernel
theorem dX2_strengthAbove_170 : decode cX2_strengthAbove 170 = .ok (.getfield 27, 3) := by decide +kernel
theorem dX2_strengthAbove_173 : decode cX2_strengthAbove 173 = .ok (.getfield 75, 3) := by decide +kernel
theorem dX2_strengthAbove_176 : decode cX2_strengthAbove 176 = .ok (.invokevirtual 68, 3) := by decide +kernel
theorem dX2_strengthAbove_179 : decode cX2_strengthAbove 179 = .ok (.istore 7, 2) := by decide +kernel
theorem dX2_strengthAbove_181 : decode cX2_strengthAbove 181 = .ok (.aload_n 0, 1) := by decide +kernel
theorem dX2_strengthAbove_182 : decode cX2_strengthAbove 182 = .ok (.getfield 11, 3) := by decide +kernel
theorem dX2_strengthAbove_185 : decode cX2_strengthAbove 185 = .ok (.iload 5, 2) := by decide +kernel
theorem dX2_strengthAbove_187 : decode cX2_strengthAbove 187 = .ok (.iload 6, 2) := by decide +kernel
theorem dX2_strengthAbove_189 : decode cX2_strengthAbove 189 = .ok (.ifCond .eq 16, 3) := by decide +kernel
theorem dX2_strengthAbove_192 : decode cX2_strengthAbove 192 = .ok (.iconst 0, 1) := by decide +kernel
theorem dX2_strengthAbove_193 : decode cX2_strengthAbove 193 = .ok (.iconst 4, 1) := by decide +kernel
theorem dX2_strengthAbove_194 : decode cX2_strengthAbove 194 = .ok (.iload 7, 2) := by decide +kernel
theorem dX2_strengthAbove_196 : decode cX2_strengthAbove 196 = .ok (.invokestatic 78, 3) := by decide +kernel
theorem dX2_strengthAbove_199 : decode cX2_strengthAbove 199 = .ok (.invokestatic 83, 3) := by decide +kernel
theorem dX2_strengthAbove_202 : decode cX2_strengthAbove 202 = .ok (.goto 4, 3) := by decide +kernel
theorem dX2_strengthAbove_205 : decode cX2_strengthAbove 205 = .ok (.iconst (-1), 1) := by decide +kernel
theorem dX2_strengthAbove_206 : decode cX2_strengthAbove 206 = .ok (.iastore, 1) := by decide +kernel
theorem dX2_strengthAbove_207 : decode cX2_strengthAbove 207 = .ok (.aload_n 0, 1) := by decide +kernel
theorem dX2_strengthAbove_208 : decode cX2_strengthAbove 208 = .ok (.getfield 11, 3) := by decide +kernel
theorem dX2_strengthAbove_211 : decode cX2_strengthAbove 211 = .ok (.iload 5, 2) := by decide +kernel
theorem dX2_strengthAbove_213 : decode cX2_strengthAbove 213 = .ok (.iaload, 1) := by decide +kernel
theorem dX2_strengthAbove_214 : decode cX2_strengthAbove 214 = .ok (.ireturn, 1) := by decide +kernel
theorem dX2_learnFacts_0 : decode cX2_learnFacts 0 = .ok (.aload_n 0, 1) := by decide +kernel
theorem dX2_learnFacts_1 : decode cX2_learnFacts 1 = .ok (.getfield 17, 3) := by decide +kernel
theorem dX2_learnFacts_4 : decode cX2_learnFacts 4 = .ok (.iconst 0, 1) := by decide +kernel
theorem dX2_learnFacts_5 : decode cX2_learnFacts 5 = .ok (.iload_n 1, 1) := by decide +kernel
theorem dX2_learnFacts_6 : decode cX2_learnFacts 6 = .ok (.iastore, 1) := by decide +kernel
theorem dX2_learnFacts_7 : decode cX2_learnFacts 7 = .ok (.aload_n 0, 1) := by decide +kernel
theorem dX2_learnFacts_8 : decode cX2_learnFacts 8 = .ok (.getfield 17, 3) := by decide +kernel
theorem dX2_learnFacts_11 : decode cX2_learnFacts 11 = .ok (.iconst 1, 1) := by decide +kernel
theorem dX2_learnFacts_12 : decode cX2_learnFacts 12 = .ok (.aload_n 0, 1) := by decide +kernel
theorem dX2_learnFacts_13 : decode cX2_learnFacts 13 = .ok (.getfield 27, 3) := by decide +kernel
theorem dX2_learnFacts_16 : decode cX2_learnFacts 16 = .ok (.getfield 86, 3) := by decide +kernel
theorem dX2_learnFacts_19 : decode cX2_learnFacts 19 = .ok (.iload_n 1, 1) := by decide +kernel
theorem dX2_learnFacts_20 : decode cX2_learnFacts 20 = .ok (.iaload, 1) := by decide +kernel
theorem dX2_learnFacts_21 : decode cX2_learnFacts 21 = .ok (.iastore, 1) := by decide +kernel
theorem dX2_learnFacts_22 : decode cX2_learnFacts 22 = .ok (.aload_n 0, 1) := by decide +kernel
theorem dX2_learnFacts_23 : decode cX2_learnFacts 23 = .ok (.getfield 17, 3) := by decide +kernel
theorem dX2_learnFacts_26 : decode cX2_learnFacts 26 = .ok (.iconst 2, 1) := by decide +kernel
theorem dX2_learnFacts_27 : decode cX2_learnFacts 27 = .ok (.iload_n 3, 1) := by decide +kernel
theorem dX2_learnFacts_28 : decode cX2_learnFacts 28 = .ok (.iastore, 1) := by decide +kernel
theorem dX2_learnFacts_29 : decode cX2_learnFacts 29 = .ok (.aload_n 0, 1) := by decide +kernel
theorem dX2_learnFacts_30 : decode cX2_learnFacts 30 = .ok (.getfield 17, 3) := by decide +kernel
theorem dX2_learnFacts_33 : decode cX2_learnFacts 33 = .ok (.iconst 3, 1) := by decide +kernel
theorem dX2_learnFacts_34 : decode cX2_learnFacts 34 = .ok (.iload_n 2, 1) := by decide +kernel
theorem dX2_learnFacts_35 : decode cX2_learnFacts 35 = .ok (.iastore, 1) := by decide +kernel
theorem dX2_learnFacts_36 : decode cX2_learnFacts 36 = .ok (.aload_n 0, 1) := by decide +kernel
theorem dX2_learnFacts_37 : decode cX2_learnFacts 37 = .ok (.getfield 17, 3) := by decide +kernel
theorem dX2_learnFacts_40 : decode cX2_learnFacts 40 = .ok (.iconst 4, 1) := by decide +kernel
theorem dX2_learnFacts_41 : decode cX2_learnFacts 41 = .ok (.aload_n 0, 1) := by decide +kernel
theorem dX2_learnFacts_42 : decode cX2_learnFacts 42 = .ok (.getfield 23, 3) := by decide +kernel
theorem dX2_learnFacts_45 : decode cX2_learnFacts 45 = .ok (.iastore, 1) := by decide +kernel
theorem dX2_learnFacts_46 : decode cX2_learnFacts 46 = .ok (.aload_n 0, 1) := by decide +kernel
theorem dX2_learnFacts_47 : decode cX2_learnFacts 47 = .ok (.getfield 17, 3) := by decide +kernel
theorem dX2_learnFacts_50 : decode cX2_learnFacts 50 = .ok (.iconst 5, 1) := by decide +kernel
theorem dX2_learnFacts_51 : decode cX2_learnFacts 51 = .ok (.aload_n 0, 1) := by decide +kernel
theorem dX2_learnFacts_52 : decode cX2_learnFacts 52 = .ok (.getfield 27, 3) := by decide +kernel
theorem dX2_learnFacts_55 : decode cX2_learnFacts 55 = .ok (.getfield 89, 3) := by decide +kernel
theorem dX2_learnFacts_58 : decode cX2_learnFacts 58 = .ok (.aload_n 0, 1) := by decide +kernel
theorem dX2_learnFacts_59 : decode cX2_learnFacts 59 = .ok (.getfield 27, 3) := by decide +kernel
theorem dX2_learnFacts_62 : decode cX2_learnFacts 62 = .ok (.getfield 92, 3) := by decide +kernel
theorem dX2_learnFacts_65 : decode cX2_learnFacts 65 = .ok (.iload_n 1, 1) := by decide +kernel
theorem dX2_learnFacts_66 : decode cX2_learnFacts 66 = .ok (.iaload, 1) := by decide +kernel
theorem dX2_learnFacts_67 : decode cX2_learnFacts 67 = .ok (.invokestatic 47, 3) := by decide +kernel
theorem dX2_learnFacts_70 : decode cX2_learnFacts 70 = .ok (.isub, 1) := by decide +kernel
theorem dX2_learnFacts_71 : decode cX2_learnFacts 71 = .ok (.iastore, 1) := by decide +kernel
theorem dX2_learnFacts_72 : decode cX2_learnFacts 72 = .ok (.return_, 1) := by decide +kernel
theorem dX2_reckon_0 : decode cX2_reckon 0 = .ok (.iconst 0, 1) := by decide +kernel
theorem dX2_reckon_1 : decode cX2_reckon 1 = .ok (.istore_n 3, 1) := by decide +kernel
theorem dX2_reckon_2 : decode cX2_reckon 2 = .ok (.iload_n 1, 1) := by decide +kernel
theorem dX2_reckon_3 : decode cX2_reckon 3 = .ok (.istore 4, 2) := by decide +kernel
theorem dX2_reckon_5 : decode cX2_reckon 5 = .ok (.iload 4, 2) := by decide +kernel
theorem dX2_reckon_7 : decode cX2_reckon 7 = .ok (.iload_n 2, 1) := by decide +kernel
theorem dX2_reckon_8 : decode cX2_reckon 8 = .ok (.if_icmp .ge 88, 3) := by decide +kernel
theorem dX2_reckon_11 : decode cX2_reckon 11 = .ok (.iload_n 3, 1) := by decide +kernel
theorem dX2_reckon_12 : decode cX2_reckon 12 = .ok (.bipush 64, 2) := by decide +kernel
theorem dX2_reckon_14 : decode cX2_reckon 14 = .ok (.if_icmp .ge 82, 3) := by decide +kernel
theorem dX2_reckon_17 : decode cX2_reckon 17 = .ok (.aload_n 0, 1) := by decide +kernel
theorem dX2_reckon_18 : decode cX2_reckon 18 = .ok (.getfield 27, 3) := by decide +kernel
theorem dX2_reckon_21 : decode cX2_reckon 21 = .ok (.getfield 95, 3) := by decide +kernel
theorem dX2_reckon_24 : decode cX2_reckon 24 = .ok (.iload 4, 2) := by decide +kernel
theorem dX2_reckon_26 : decode cX2_reckon 26 = .ok (.iaload, 1) := by decide +kernel
theorem dX2_reckon_27 : decode cX2_reckon 27 = .ok (.istore 5, 2) := by decide +kernel
theorem dX2_reckon_29 : decode cX2_reckon 29 = .ok (.iload 5, 2) := by decide +kernel
theorem dX2_reckon_31 : decode cX2_reckon 31 = .ok (.sipush 1000, 3) := by decide +kernel
theorem dX2_reckon_34 : decode cX2_reckon 34 = .ok (.if_icmp .ge 17, 3) := by decide +kernel
theorem dX2_reckon_37 : decode cX2_reckon 37 = .ok (.aload_n 0, 1) := by decide +kernel
theorem dX2_reckon_38 : decode cX2_reckon 38 = .ok (.getfield 20, 3) := by decide +kernel
theorem dX2_reckon_41 : decode cX2_reckon 41 = .ok (.iload_n 3, 1) := by decide +kernel
theorem dX2_reckon_42 : decode cX2_reckon 42 = .ok (.iload 5, 2) := by decide +kernel
theorem dX2_reckon_44 : decode cX2_reckon 44 = .ok (.iastore, 1) := by decide +kernel
theorem dX2_reckon_45 : decode cX2_reckon 45 = .ok (.iinc 3 1, 3) := by decide +kernel
theorem dX2_reckon_48 : decode cX2_reckon 48 = .ok (.goto 42, 3) := by decide +kernel
theorem dX2_reckon_51 : decode cX2_reckon 51 = .ok (.iload 5, 2) := by decide +kernel
theorem dX2_reckon_53 : decode cX2_reckon 53 = .ok (.sipush 1006, 3) := by decide +kernel
theorem dX2_reckon_56 : decode cX2_reckon 56 = .ok (.if_icmp .ge 26, 3) := by decide +kernel
theorem dX2_reckon_59 : decode cX2_reckon 59 = .ok (.aload_n 0, 1) := by decide +kernel
theorem dX2_reckon_60 : decode cX2_reckon 60 = .ok (.getfield 20, 3) := by decide +kernel
theorem dX2_reckon_63 : decode cX2_reckon 63 = .ok (.iload_n 3, 1) := by decide +kernel
theorem dX2_reckon_64 : decode cX2_reckon 64 = .ok (.aload_n 0, 1) := by decide +kernel
theorem dX2_reckon_65 : decode cX2_reckon 65 = .ok (.getfield 17, 3) := by decide +kernel
theorem dX2_reckon_68 : decode cX2_reckon 68 = .ok (.iload 5, 2) := by decide +kernel
theorem dX2_reckon_70 : decode cX2_reckon 70 = .ok (.sipush 1000, 3) := by decide +kernel
theorem dX2_reckon_73 : decode cX2_reckon 73 = .ok (.isub, 1) := by decide +kernel
theorem dX2_reckon_74 : decode cX2_reckon 74 = .ok (.iaload, 1) := by decide +kernel
theorem dX2_reckon_75 : decode cX2_reckon 75 = .ok (.iastore, 1) := by decide +kernel
theorem dX2_reckon_76 : decode cX2_reckon 76 = .ok (.iinc 3 1, 3) := by decide +kernel
theorem dX2_reckon_79 : decode cX2_reckon 79 = .ok (.goto 11, 3) := by decide +kernel
theorem dX2_reckon_82 : decode cX2_reckon 82 = .ok (.aload_n 0, 1) := by decide +kernel
theorem dX2_reckon_83 : decode cX2_reckon 83 = .ok (.iload 5, 2) := by decide +kernel
theorem dX2_reckon_85 : decode cX2_reckon 85 = .ok (.iload_n 3, 1) := by decide +kernel
theorem dX2_reckon_86 : decode cX2_reckon 86 = .ok (.invokevirtual 98, 3) := by decide +kernel
theorem dX2_reckon_89 : decode cX2_reckon 89 = .ok (.istore_n 3, 1) := by decide +kernel
theorem dX2_reckon_90 : decode cX2_reckon 90 = .ok (.iinc 4 1, 3) := by decide +kernel
theorem dX2_reckon_93 : decode cX2_reckon 93 = .ok (.goto (-88), 3) := by decide +kernel
theorem dX2_reckon_96 : decode cX2_reckon 96 = .ok (.iload_n 3, 1) := by decide +kernel
theorem dX2_reckon_97 : decode cX2_reckon 97 = .ok (.ifCond .le 12, 3) := by decide +kernel
theorem dX2_reckon_100 : decode cX2_reckon 100 = .ok (.aload_n 0, 1) := by decide +kernel
theorem dX2_reckon_101 : decode cX2_reckon 101 = .ok (.getfield 20, 3) := by decide +kernel
theorem dX2_reckon_104 : decode cX2_reckon 104 = .ok (.iconst 0, 1) := by decide +kernel
theorem dX2_reckon_105 : decode cX2_reckon 105 = .ok (.iaload, 1) := by decide +kernel
theorem dX2_reckon_106 : decode cX2_reckon 106 = .ok (.goto 4, 3) := by decide +kernel
theorem dX2_reckon_109 : decode cX2_reckon 109 = .ok (.iconst 0, 1) := by decide +kernel
theorem dX2_reckon_110 : decode cX2_reckon 110 = .ok (.ireturn, 1) := by decide +kernel
theorem dX2_operate_0 : decode cX2_operate 0 = .ok (.iload_n 1, 1) := by decide +kernel
theorem dX2_operate_1 : decode cX2_operate 1 = .ok (.sipush 1018, 3) := by decide +kernel
theorem dX2_operate_4 : decode cX2_operate 4 = .ok (.if_icmp .ne 28, 3) := by decide +kernel
theorem dX2_operate_7 : decode cX2_operate 7 = .ok (.iload_n 2, 1) := by decide +kernel
theorem dX2_operate_8 : decode cX2_operate 8 = .ok (.iconst 1, 1) := by decide +kernel
theorem dX2_operate_9 : decode cX2_operate 9 = .ok (.if_icmp .lt 23, 3) := by decide +kernel
theorem dX2_operate_12 : decode cX2_operate 12 = .ok (.aload_n 0, 1) := by decide +kernel
theorem dX2_operate_13 : decode cX2_operate 13 = .ok (.getfield 20, 3) := by decide +kernel
theorem dX2_operate_16 : decode cX2_operate 16 = .ok (.iload_n 2, 1) := by decide +kernel
theorem dX2_operate_17 : decode cX2_operate 17 = .ok (.iconst 1, 1) := by decide +kernel
theorem dX2_operate_18 : decode cX2_operate 18 = .ok (.isub, 1) := by decide +kernel
theorem dX2_operate_19 : decode cX2_operate 19 = .ok (.iconst 1, 1) := by decide +kernel
theorem dX2_operate_20 : decode cX2_operate 20 = .ok (.aload_n 0, 1) := by decide +kernel
theorem dX2_operate_21 : decode cX2_operate 21 = .ok (.getfield 20, 3) := by decide +kernel
theorem dX2_operate_24 : decode cX2_operate 24 = .ok (.iload_n 2, 1) := by decide +kernel
theorem dX2_operate_25 : decode cX2_operate 25 = .ok (.iconst 1, 1) := by decide +kernel
theorem dX2_operate_26 : decode cX2_operate 26 = .ok (.isub, 1) := by decide +kernel
theorem dX2_operate_27 : decode cX2_operate 27 = .ok (.iaload, 1) := by decide +kernel
theorem dX2_operate_28 : decode cX2_operate 28 = .ok (.isub, 1) := by decide +kernel
theorem dX2_operate_29 : decode cX2_operate 29 = .ok (.iastore, 1) := by decide +kernel
theorem dX2_operate_30 : decode cX2_operate 30 = .ok (.iload_n 2, 1) := by decide +kernel
theorem dX2_operate_31 : decode cX2_operate 31 = .ok (.ireturn, 1) := by decide +kernel
theorem dX2_operate_32 : decode cX2_operate 32 = .ok (.iload_n 1, 1) := by decide +kernel
theorem dX2_operate_33 : decode cX2_operate 33 = .ok (.sipush 1019, 3) := by decide +kernel
theorem dX2_operate_36 : decode cX2_operate 36 = .ok (.if_icmp .ne 50, 3) := by decide +kernel
theorem dX2_operate_39 : decode cX2_operate 39 = .ok (.iload_n 2, 1) := by decide +kernel
theorem dX2_operate_40 : decode cX2_operate 40 = .ok (.iconst 3, 1) := by decide +kernel
theorem dX2_operate_41 : decode cX2_operate 41 = .ok (.if_icmp .lt 45, 3) := by decide +kernel
theorem dX2_operate_44 : decode cX2_operate 44 = .ok (.aload_n 0, 1) := by decide +kernel
theorem dX2_operate_45 : decode cX2_operate 45 = .ok (.getfield 20, 3) := by decide +kernel
theorem dX2_operate_48 : decode cX2_operate 48 = .ok (.iload_n 2, 1) := by decide +kernel
theorem dX2_operate_49 : decode cX2_operate 49 = .ok (.iconst 3, 1) := by decide +kernel
theorem dX2_operate_50 : decode cX2_operate 50 = .ok (.isub, 1) := by decide +kernel
theorem dX2_operate_51 : decode cX2_operate 51 = .ok (.aload_n 0, 1) := by decide +kernel
theorem dX2_operate_52 : decode cX2_operate 52 = .ok (.getfield 20, 3) := by decide +kernel
theorem dX2_operate_55 : decode cX2_operate 55 = .ok (.iload_n 2, 1) := by decide +kernel
theorem dX2_operate_56 : decode cX2_operate 56 = .ok (.iconst 3, 1) := by decide +kernel
theorem dX2_operate_57 : decode cX2_operate 57 = .ok (.isub, 1) := by decide +kernel
theorem dX2_operate_58 : decode cX2_operate 58 = .ok (.iaload, 1) := by decide +kernel
theorem dX2_operate_59 : decode cX2_operate 59 = .ok (.ifCond .eq 14, 3) := by decide +kernel
theorem dX2_operate_62 : decode cX2_operate 62 = .ok (.aload_n 0, 1) := by decide +kernel
theorem dX2_operate_63 : decode cX2_operate 63 = .ok (.getfield 20, 3) := by decide +kernel
theorem dX2_operate_66 : decode cX2_operate 66 = .ok (.iload_n 2, 1) := by decide +kernel
theorem dX2_operate_67 : decode cX2_operate 67 = .ok (.iconst 2, 1) := by decide +kernel
theorem dX2_operate_68 : decode cX2_operate 68 = .ok (.isub, 1) := by decide +kernel
theorem dX2_operate_69 : decode cX2_operate 69 = .ok (.iaload, 1) := by decide +kernel
theorem dX2_operate_70 : decode cX2_operate 70 = .ok (.goto 11, 3) := by decide +kernel
theorem dX2_operate_73 : decode cX2_operate 73 = .ok (.aload_n 0, 1) := by decide +kernel
theorem dX2_operate_74 : decode cX2_operate 74 = .ok (.getfield 20, 3) := by decide +kernel
theorem dX2_operate_77 : decode cX2_operate 77 = .ok (.iload_n 2, 1) := by decide +kernel
theorem dX2_operate_78 : decode cX2_operate 78 = .ok (.iconst 1, 1) := by decide +kernel
theorem dX2_operate_79 : decode cX2_operate 79 = .ok (.isub, 1) := by decide +kernel
theorem dX2_operate_80 : decode cX2_operate 80 = .ok (.iaload, 1) := by decide +kernel
theorem dX2_operate_81 : decode cX2_operate 81 = .ok (.iastore, 1) := by decide +kernel
theorem dX2_operate_82 : decode cX2_operate 82 = .ok (.iload_n 2, 1) := by decide +kernel
theorem dX2_operate_83 : decode cX2_operate 83 = .ok (.iconst 2, 1) := by decide +kernel
theorem dX2_operate_84 : decode cX2_operate 84 = .ok (.isub, 1) := by decide +kernel
theorem dX2_operate_85 : decode cX2_operate 85 = .ok (.ireturn, 1) := by decide +kernel
theorem dX2_operate_86 : decode cX2_operate 86 = .ok (.iload_n 2, 1) := by decide +kernel
theorem dX2_operate_87 : decode cX2_operate 87 = .ok (.iconst 2, 1) := by decide +kernel
theorem dX2_operate_88 : decode cX2_operate 88 = .ok (.if_icmp .ge 5, 3) := by decide +kernel
theorem dX2_operate_91 : decode cX2_operate 91 = .ok (.iload_n 2, 1) := by decide +kernel
theorem dX2_operate_92 : decode cX2_operate 92 = .ok (.ireturn, 1) := by decide +kernel
theorem dX2_operate_93 : decode cX2_operate 93 = .ok (.aload_n 0, 1) := by decide +kernel
theorem dX2_operate_94 : decode cX2_operate 94 = .ok (.getfield 20, 3) := by decide +kernel
theorem dX2_operate_97 : decode cX2_operate 97 = .ok (.iload_n 2, 1) := by decide +kernel
theorem dX2_operate_98 : decode cX2_operate 98 = .ok (.iconst 2, 1) := by decide +kernel
theorem dX2_operate_99 : decode cX2_operate 99 = .ok (.isub, 1) := by decide +kernel
theorem dX2_operate_100 : decode cX2_operate 100 = .ok (.iaload, 1) := by decide +kernel
theorem dX2_operate_101 : decode cX2_operate 101 = .ok (.i2l, 1) := by decide +kernel
theorem dX2_operate_102 : decode cX2_operate 102 = .ok (.lstore_n 3, 1) := by decide +kernel
theorem dX2_operate_103 : decode cX2_operate 103 = .ok (.aload_n 0, 1) := by decide +kernel
theorem dX2_operate_104 : decode cX2_operate 104 = .ok (.getfield 20, 3) := by decide +kernel
theorem dX2_operate_107 : decode cX2_operate 107 = .ok (.iload_n 2, 1) := by decide +kernel
theorem dX2_operate_108 : decode cX2_operate 108 = .ok (.iconst 1, 1) := by decide +kernel
theorem dX2_operate_109 : decode cX2_operate 109 = .ok (.isub, 1) := by decide +kernel
theorem dX2_operate_110 : decode cX2_operate 110 = .ok (.iaload, 1) := by decide +kernel
theorem dX2_operate_111 : decode cX2_operate 111 = .ok (.i2l, 1) := by decide +kernel
theorem dX2_operate_112 : decode cX2_operate 112 = .ok (.lstore 5, 2) := by decide +kernel
theorem dX2_operate_114 : decode cX2_operate 114 = .ok (.lconst 0, 1) := by decide +kernel
theorem dX2_operate_115 : decode cX2_operate 115 = .ok (.lstore 7, 2) := by decide +kernel
theorem dX2_operate_117 : decode cX2_operate 117 = .ok (.iload_n 1, 1) := by decide +kernel
theorem dX2_operate_118 : decode cX2_operate 118 = .ok (.tableswitch 142 1010 1017 #[46, 55, 64, 73, 90, 107, 124, 133], 46) := by decide +kernel
theorem dX2_operate_164 : decode cX2_operate 164 = .ok (.lload_n 3, 1) := by decide +kernel
theorem dX2_operate_165 : decode cX2_operate 165 = .ok (.lload 5, 2) := by decide +kernel
theorem dX2_operate_167 : decode cX2_operate 167 = .ok (.ladd, 1) := by decide +kernel
theorem dX2_operate_168 : decode cX2_operate 168 = .ok (.lstore 7, 2) := by decide +kernel
theorem dX2_operate_170 : decode cX2_operate 170 = .ok (.goto 90, 3) := by decide +kernel
theorem dX2_operate_173 : decode cX2_operate 173 = .ok (.lload_n 3, 1) := by decide +kernel
theorem dX2_operate_174 : decode cX2_operate 174 = .ok (.lload 5, 2) := by decide +kernel
theorem dX2_operate_176 : decode cX2_operate 176 = .ok (.lsub, 1) := by decide +kernel
theorem dX2_operate_177 : decode cX2_operate 177 = .ok (.lstore 7, 2) := by decide +kernel
theorem dX2_operate_179 : decode cX2_operate 179 = .ok (.goto 81, 3) := by decide +kernel
theorem dX2_operate_182 : decode cX2_operate 182 = .ok (.lload_n 3, 1) := by decide +kernel
theorem dX2_operate_183 : decode cX2_operate 183 = .ok (.lload 5, 2) := by decide +kernel
theorem dX2_operate_185 : decode cX2_operate 185 = .ok (.lmul, 1) := by decide +kernel
theorem dX2_operate_186 : decode cX2_operate 186 = .ok (.lstore 7, 2) := by decide +kernel
theorem dX2_operate_188 : decode cX2_operate 188 = .ok (.goto 72, 3) := by decide +kernel
theorem dX2_operate_191 : decode cX2_operate 191 = .ok (.lload_n 3, 1) := by decide +kernel
theorem dX2_operate_192 : decode cX2_operate 192 = .ok (.lload 5, 2) := by decide +kernel
theorem dX2_operate_194 : decode cX2_operate 194 = .ok (.lcmp, 1) := by decide +kernel
theorem dX2_operate_195 : decode cX2_operate 195 = .ok (.ifCond .ne 7, 3) := by decide +kernel
theorem dX2_operate_198 : decode cX2_operate 198 = .ok (.lconst 1, 1) := by decide +kernel
theorem dX2_operate_199 : decode cX2_operate 199 = .ok (.goto 4, 3) := by decide +kernel
theorem dX2_operate_202 : decode cX2_operate 202 = .ok (.lconst 0, 1) := by decide +kernel
theorem dX2_operate_203 : decode cX2_operate 203 = .ok (.lstore 7, 2) := by decide +kernel
theorem dX2_operate_205 : decode cX2_operate 205 = .ok (.goto 55, 3) := by decide +kernel
theorem dX2_operate_208 : decode cX2_operate 208 = .ok (.lload_n 3, 1) := by decide +kernel
theorem dX2_operate_209 : decode cX2_operate 209 = .ok (.lload 5, 2) := by decide +kernel
theorem dX2_operate_211 : decode cX2_operate 211 = .ok (.lcmp, 1) := by decide +kernel
theorem dX2_operate_212 : decode cX2_operate 212 = .ok (.ifCond .ge 7, 3) := by decide +kernel
theorem dX2_operate_215 : decode cX2_operate 215 = .ok (.lconst 1, 1) := by decide +kernel
theorem dX2_operate_216 : decode cX2_operate 216 = .ok (.goto 4, 3) := by decide +kernel
theorem dX2_operate_219 : decode cX2_operate 219 = .ok (.lconst 0, 1) := by decide +kernel
theorem dX2_operate_220 : decode cX2_operate 220 = .ok (.lstore 7, 2) := by decide +kernel
theorem dX2_operate_222 : decode cX2_operate 222 = .ok (.goto 38, 3) := by decide +kernel
theorem dX2_operate_225 : decode cX2_operate 225 = .ok (.lload_n 3, 1) := by decide +kernel
theorem dX2_operate_226 : decode cX2_operate 226 = .ok (.lload 5, 2) := by decide +kernel
theorem dX2_operate_228 : decode cX2_operate 228 = .ok (.lcmp, 1) := by decide +kernel
theorem dX2_operate_229 : decode cX2_operate 229 = .ok (.ifCond .le 7, 3) := by decide +kernel
theorem dX2_operate_232 : decode cX2_operate 232 = .ok (.lconst 1, 1) := by decide +kernel
theorem dX2_operate_233 : decode cX2_operate 233 = .ok (.goto 4, 3) := by decide +kernel
theorem dX2_operate_236 : decode cX2_operate 236 = .ok (.lconst 0, 1) := by decide +kernel
theorem dX2_operate_237 : decode cX2_operate 237 = .ok (.lstore 7, 2) := by decide +kernel
theorem dX2_operate_239 : decode cX2_operate 239 = .ok (.goto 21, 3) := by decide +kernel
theorem dX2_operate_242 : decode cX2_operate 242 = .ok (.lload_n 3, 1) := by decide +kernel
theorem dX2_operate_243 : decode cX2_operate 243 = .ok (.lload 5, 2) := by decide +kernel
theorem dX2_operate_245 : decode cX2_operate 245 = .ok (.land, 1) := by decide +kernel
theorem dX2_operate_246 : decode cX2_operate 246 = .ok (.lstore 7, 2) := by decide +kernel
theorem dX2_operate_248 : decode cX2_operate 248 = .ok (.goto 12, 3) := by decide +kernel
theorem dX2_operate_251 : decode cX2_operate 251 = .ok (.lload_n 3, 1) := by decide +kernel
theorem dX2_operate_252 : decode cX2_operate 252 = .ok (.lload 5, 2) := by decide +kernel
theorem dX2_operate_254 : decode cX2_operate 254 = .ok (.lor, 1) := by decide +kernel
theorem dX2_operate_255 : decode cX2_operate 255 = .ok (.lstore 7, 2) := by decide +kernel
theorem dX2_operate_257 : decode cX2_operate 257 = .ok (.goto 3, 3) := by decide +kernel
theorem dX2_operate_260 : decode cX2_operate 260 = .ok (.aload_n 0, 1) := by decide +kernel
theorem dX2_operate_261 : decode cX2_operate 261 = .ok (.getfield 20, 3) := by decide +kernel
theorem dX2_operate_264 : decode cX2_operate 264 = .ok (.iload_n 2, 1) := by decide +kernel
theorem dX2_operate_265 : decode cX2_operate 265 = .ok (.iconst 2, 1) := by decide +kernel
theorem dX2_operate_266 : decode cX2_operate 266 = .ok (.isub, 1) := by decide +kernel
theorem dX2_operate_267 : decode cX2_operate 267 = .ok (.ldc2_w 101, 3) := by decide +kernel
theorem dX2_operate_270 : decode cX2_operate 270 = .ok (.ldc2_w 103, 3) := by decide +kernel
theorem dX2_operate_273 : decode cX2_operate 273 = .ok (.lload 7, 2) := by decide +kernel
theorem dX2_operate_275 : decode cX2_operate 275 = .ok (.invokestatic 105, 3) := by decide +kernel
theorem dX2_operate_278 : decode cX2_operate 278 = .ok (.invokestatic 108, 3) := by decide +kernel
theorem dX2_operate_281 : decode cX2_operate 281 = .ok (.l2i, 1) := by decide +kernel
theorem dX2_operate_282 : decode cX2_operate 282 = .ok (.iastore, 1) := by decide +kernel
theorem dX2_operate_283 : decode cX2_operate 283 = .ok (.iload_n 2, 1) := by decide +kernel
theorem dX2_operate_284 : decode cX2_operate 284 = .ok (.iconst 1, 1) := by decide +kernel
theorem dX2_operate_285 : decode cX2_operate 285 = .ok (.isub, 1) := by decide +kernel
theorem dX2_operate_286 : decode cX2_operate 286 = .ok (.ireturn, 1) := by decide +kernel
theorem dX3_init_0 : decode cX3_init 0 = .ok (.aload_n 0, 1) := by decide +kernel
theorem dX3_init_1 : decode cX3_init 1 = .ok (.invokespecial 3, 3) := by decide +kernel
theorem dX3_init_4 : decode cX3_init 4 = .ok (.aload_n 0, 1) := by decide +kernel
theorem dX3_init_5 : decode cX3_init 5 = .ok (.bipush 9, 2) := by decide +kernel
theorem dX3_init_7 : decode cX3_init 7 = .ok (.newarray .int, 2) := by decide +kernel
theorem dX3_init_9 : decode cX3_init 9 = .ok (.putfield 9, 3) := by decide +kernel
theorem dX3_init_12 : decode cX3_init 12 = .ok (.aload_n 0, 1) := by decide +kernel
theorem dX3_init_13 : decode cX3_init 13 = .ok (.bipush 9, 2) := by decide +kernel
theorem dX3_init_15 : decode cX3_init 15 = .ok (.newarray .int, 2) := by decide +kernel
theorem dX3_init_17 : decode cX3_init 17 = .ok (.putfield 15, 3) := by decide +kernel
theorem dX3_init_20 : decode cX3_init 20 = .ok (.aload_n 0, 1) := by decide +kernel
theorem dX3_init_21 : decode cX3_init 21 = .ok (.iconst 0, 1) := by decide +kernel
theorem dX3_init_22 : decode cX3_init 22 = .ok (.putfield 18, 3) := by decide +kernel
theorem dX3_init_25 : decode cX3_init 25 = .ok (.aload_n 0, 1) := by decide +kernel
theorem dX3_init_26 : decode cX3_init 26 = .ok (.aload_n 1, 1) := by decide +kernel
theorem dX3_init_27 : decode cX3_init 27 = .ok (.putfield 22, 3) := by decide +kernel
theorem dX3_init_30 : decode cX3_init 30 = .ok (.aload_n 0, 1) := by decide +kernel
theorem dX3_init_31 : decode cX3_init 31 = .ok (.aload_n 2, 1) := by decide +kernel
theorem dX3_init_32 : decode cX3_init 32 = .ok (.putfield 26, 3) := by decide +kernel
theorem dX3_init_35 : decode cX3_init 35 = .ok (.return_, 1) := by decide +kernel
theorem dX3_refusal_0 : decode cX3_refusal 0 = .ok (.iload_n 1, 1) := by decide +kernel
theorem dX3_refusal_1 : decode cX3_refusal 1 = .ok (.invokestatic 30, 3) := by decide +kernel
theorem dX3_refusal_4 : decode cX3_refusal 4 = .ok (.istore_n 3, 1) := by decide +kernel
theorem dX3_refusal_5 : decode cX3_refusal 5 = .ok (.iload_n 1, 1) := by decide +kernel
theorem dX3_refusal_6 : decode cX3_refusal 6 = .ok (.invokestatic 34, 3) := by decide +kernel
theorem dX3_refusal_9 : decode cX3_refusal 9 = .ok (.istore 4, 2) := by decide +kernel
theorem dX3_refusal_11 : decode cX3_refusal 11 = .ok (.iload_n 2, 1) := by decide +kernel
theorem dX3_refusal_12 : decode cX3_refusal 12 = .ok (.ifCond .ne 5, 3) := by decide +kernel
theorem dX3_refusal_15 : decode cX3_refusal 15 = .ok (.iconst 0, 1) := by decide +kernel
theorem dX3_refusal_16 : decode cX3_refusal 16 = .ok (.ireturn, 1) := by decide +kernel
theorem dX3_refusal_17 : decode cX3_refusal 17 = .ok (.iload_n 2, 1) := by decide +kernel
theorem dX3_refusal_18 : decode cX3_refusal 18 = .ok (.iconst 1, 1) := by decide +kernel
theorem dX3_refusal_19 : decode cX3_refusal 19 = .ok (.if_icmp .ne 38, 3) := by decide +kernel
theorem dX3_refusal_22 : decode cX3_refusal 22 = .ok (.aload_n 0, 1) := by decide +kernel
theorem dX3_refusal_23 : decode cX3_refusal 23 = .ok (.iload_n 3, 1) := by decide +kernel
theorem dX3_refusal_24 : decode cX3_refusal 24 = .ok (.iconst 1, 1) := by decide +kernel
theorem dX3_refusal_25 : decode cX3_refusal 25 = .ok (.iadd, 1) := by decide +kernel
theorem dX3_refusal_26 : decode cX3_refusal 26 = .ok (.iload 4, 2) := by decide +kernel
theorem dX3_refusal_28 : decode cX3_refusal 28 = .ok (.invokevirtual 37, 3) := by decide +kernel
theorem dX3_refusal_31 : decode cX3_refusal 31 = .ok (.istore 5, 2) := by decide +kernel
theorem dX3_refusal_33 : decode cX3_refusal 33 = .ok (.iload 5, 2) := by decide +kernel
theorem dX3_refusal_35 : decode cX3_refusal 35 = .ok (.ifCond .ne 19, 3) := by decide +kernel
theorem dX3_refusal_38 : decode cX3_refusal 38 = .ok (.aload_n 0, 1) := by decide +kernel
theorem dX3_refusal_39 : decode cX3_refusal 39 = .ok (.getfield 26, 3) := by decide +kernel
theorem dX3_refusal_42 : decode cX3_refusal 42 = .ok (.iload_n 1, 1) := by decide +kernel
theorem dX3_refusal_43 : decode cX3_refusal 43 = .ok (.invokevirtual 41, 3) := by decide +kernel
theorem dX3_refusal_46 : decode cX3_refusal 46 = .ok (.iconst (-1), 1) := by decide +kernel
theorem dX3_refusal_47 : decode cX3_refusal 47 = .ok (.if_icmp .ne 7, 3) := by decide +kernel
theorem dX3_refusal_50 : decode cX3_refusal 50 = .ok (.iconst 4, 1) := by decide +kernel
theorem dX3_refusal_51 : decode cX3_refusal 51 = .ok (.goto 5, 3) := by decide +kernel
theorem dX3_refusal_54 : decode cX3_refusal 54 = .ok (.iload 5, 2) := by decide +kernel
theorem dX3_refusal_56 : decode cX3_refusal 56 = .ok (.ireturn, 1) := by decide +kernel
theorem dX3_refusal_57 : decode cX3_refusal 57 = .ok (.iload_n 2, 1) := by decide +kernel
theorem dX3_refusal_58 : decode cX3_refusal 58 = .ok (.iconst 2, 1) := by decide +kernel
theorem dX3_refusal_59 : decode cX3_refusal 59 = .ok (.if_icmp .ne 13, 3) := by decide +kernel
theorem dX3_refusal_62 : decode cX3_refusal 62 = .ok (.aload_n 0, 1) := by decide +kernel
theorem dX3_refusal_63 : decode cX3_refusal 63 = .ok (.iload_n 3, 1) := by decide +kernel
theorem dX3_refusal_64 : decode cX3_refusal 64 = .ok (.iconst 1, 1) := by decide +kernel
theorem dX3_refusal_65 : decode cX3_refusal 65 = .ok (.isub, 1) := by decide +kernel
theorem dX3_refusal_66 : decode cX3_refusal 66 = .ok (.iload 4, 2) := by decide +kernel
theorem dX3_refusal_68 : decode cX3_refusal 68 = .ok (.invokevirtual 37, 3) := by decide +kernel
theorem dX3_refusal_71 : decode cX3_refusal 71 = .ok (.ireturn, 1) := by decide +kernel
theorem dX3_refusal_72 : decode cX3_refusal 72 = .ok (.aload_n 0, 1) := by decide +kernel
theorem dX3_refusal_73 : decode cX3_refusal 73 = .ok (.getfield 22, 3) := by decide +kernel
theorem dX3_refusal_76 : decode cX3_refusal 76 = .ok (.iload_n 2, 1) := by decide +kernel
theorem dX3_refusal_77 : decode cX3_refusal 77 = .ok (.bipush 10, 2) := by decide +kernel
theorem dX3_refusal_79 : decode cX3_refusal 79 = .ok (.isub, 1) := by decide +kernel
theorem dX3_refusal_80 : decode cX3_refusal 80 = .ok (.invokevirtual 46, 3) := by decide +kernel
theorem dX3_refusal_83 : decode cX3_refusal 83 = .ok (.ifCond .eq 21, 3) := by decide +kernel
theorem dX3_refusal_86 : decode cX3_refusal 86 = .ok (.iload 4, 2) := by decide +kernel
theorem dX3_refusal_88 : decode cX3_refusal 88 = .ok (.iload_n 2, 1) := by decide +kernel
theorem dX3_refusal_89 : decode cX3_refusal 89 = .ok (.bipush 10, 2) := by decide +kernel
theorem dX3_refusal_91 : decode cX3_refusal 91 = .ok (.isub, 1) := by decide +kernel
theorem dX3_refusal_92 : decode cX3_refusal 92 = .ok (.ishr, 1) := by decide +kernel
theorem dX3_refusal_93 : decode cX3_refusal 93 = .ok (.iconst 1, 1) := by decide +kernel
theorem dX3_refusal_94 : decode cX3_refusal 94 = .ok (.iand, 1) := by decide +kernel
theorem dX3_refusal_95 : decode cX3_refusal 95 = .ok (.ifCond .eq 7, 3) := by decide +kernel
theorem dX3_refusal_98 : decode cX3_refusal 98 = .ok (.iconst 0, 1) := by decide +kernel
theorem dX3_refusal_99 : decode cX3_refusal 99 = .ok (.goto 4, 3) := by decide +kernel
theorem dX3_refusal_102 : decode cX3_refusal 102 = .ok (.iconst 2, 1) := by decide +kernel
theorem dX3_refusal_103 : decode cX3_refusal 103 = .ok (.ireturn, 1) := by decide +kernel
theorem dX3_refusal_104 : decode cX3_refusal 104 = .ok (.aload_n 0, 1) := by decide +kernel
theorem dX3_refusal_105 : decode cX3_refusal 105 = .ok (.getfield 22, 3) := by decide +kernel
theorem dX3_refusal_108 : decode cX3_refusal 108 = .ok (.iload_n 2, 1) := by decide +kernel
theorem dX3_refusal_109 : decode cX3_refusal 109 = .ok (.bipush 20, 2) := by decide +kernel
theorem dX3_refusal_111 : decode cX3_refusal 111 = .ok (.isub, 1) := by decide +kernel
theorem dX3_refusal_112 : decode cX3_refusal 112 = .ok (.invokevirtual 46, 3) := by decide +kernel
theorem dX3_refusal_115 : decode cX3_refusal 115 = .ok (.ifCond .eq 17, 3) := by decide +kernel
theorem dX3_refusal_118 : decode cX3_refusal 118 = .ok (.aload_n 0, 1) := by decide +kernel
theorem dX3_refusal_119 : decode cX3_refusal 119 = .ok (.iload_n 3, 1) := by decide +kernel
theorem dX3_refusal_120 : decode cX3_refusal 120 = .ok (.iload 4, 2) := by decide +kernel
theorem dX3_refusal_122 : decode cX3_refusal 122 = .ok (.iconst 1, 1) := by decide +kernel
theorem dX3_refusal_123 : decode cX3_refusal 123 = .ok (.iload_n 2, 1) := by decide +kernel
theorem dX3_refusal_124 : decode cX3_refusal 124 = .ok (.bipush 20, 2) := by decide +kernel
theorem dX3_refusal_126 : decode cX3_refusal 126 = .ok (.isub, 1) := by decide +kernel
theorem dX3_refusal_127 : decode cX3_refusal 127 = .ok (.ishl, 1) := by decide +kernel
theorem dX3_refusal_128 : decode cX3_refusal 128 = .ok (.invokevirtual 52, 3) := by decide +kernel
theorem dX3_refusal_131 : decode cX3_refusal 131 = .ok (.ireturn, 1) := by decide +kernel
theorem dX3_refusal_132 : decode cX3_refusal 132 = .ok (.iconst 1, 1) := by decide +kernel
theorem dX3_refusal_133 : decode cX3_refusal 133 = .ok (.ireturn, 1) := by decide +kernel
theorem dX3_entryRefusal_0 : decode cX3_entryRefusal 0 = .ok (.aload_n 0, 1) := by decide +kernel
theorem dX3_entryRefusal_1 : decode cX3_entryRefusal 1 = .ok (.getfield 22, 3) := by decide +kernel
theorem dX3_entryRefusal_4 : decode cX3_entryRefusal 4 = .ok (.iload_n 1, 1) := by decide +kernel
theorem dX3_entryRefusal_5 : decode cX3_entryRefusal 5 = .ok (.invokevirtual 56, 3) := by decide +kernel
theorem dX3_entryRefusal_8 : decode cX3_entryRefusal 8 = .ok (.ifCond .ne 5, 3) := by decide +kernel
theorem dX3_entryRefusal_11 : decode cX3_entryRefusal 11 = .ok (.iconst 2, 1) := by decide +kernel
theorem dX3_entryRefusal_12 : decode cX3_entryRefusal 12 = .ok (.ireturn, 1) := by decide +kernel
theorem dX3_entryRefusal_13 : decode cX3_entryRefusal 13 = .ok (.aload_n 0, 1) := by decide +kernel
theorem dX3_entryRefusal_14 : decode cX3_entryRefusal 14 = .ok (.getfield 22, 3) := by decide +kernel
theorem dX3_entryRefusal_17 : decode cX3_entryRefusal 17 = .ok (.getfield 59, 3) := by decide +kernel
theorem dX3_entryRefusal_20 : decode cX3_entryRefusal 20 = .ok (.iload_n 1, 1) := by decide +kernel
theorem dX3_entryRefusal_21 : decode cX3_entryRefusal 21 = .ok (.iaload, 1) := by decide +kernel
theorem dX3_entryRefusal_22 : decode cX3_entryRefusal 22 = .ok (.iload_n 2, 1) := by decide +kernel
theorem dX3_entryRefusal_23 : decode cX3_entryRefusal 23 = .ok (.iand, 1) := by decide +kernel
theorem dX3_entryRefusal_24 : decode cX3_entryRefusal 24 = .ok (.ifCond .eq 7, 3) := by decide +kernel
theorem dX3_entryRefusal_27 : decode cX3_entryRefusal 27 = .ok (.iconst 3, 1) := by decide +kernel
theorem dX3_entryRefusal_28 : decode cX3_entryRefusal 28 = .ok (.goto 4, 3) := by decide +kernel
theorem dX3_entryRefusal_31 : decode cX3_entryRefusal 31 = .ok (.iconst 0, 1) := by decide +kernel
theorem dX3_entryRefusal_32 : decode cX3_entryRefusal 32 = .ok (.ireturn, 1) := by decide +kernel
theorem dX3_takeRefusal_0 : decode cX3_takeRefusal 0 = .ok (.iload_n 2, 1) := by decide +kernel
theorem dX3_takeRefusal_1 : decode cX3_takeRefusal 1 = .ok (.iload_n 3, 1) := by decide +kernel
theorem dX3_takeRefusal_2 : decode cX3_takeRefusal 2 = .ok (.iand, 1) := by decide +kernel
theorem dX3_takeRefusal_3 : decode cX3_takeRefusal 3 = .ok (.ifCond .ne 17, 3) := by decide +kernel
theorem dX3_takeRefusal_6 : decode cX3_takeRefusal 6 = .ok (.aload_n 0, 1) := by decide +kernel
theorem dX3_takeRefusal_7 : decode cX3_takeRefusal 7 = .ok (.getfield 22, 3) := by decide +kernel
theorem dX3_takeRefusal_10 : decode cX3_takeRefusal 10 = .ok (.getfield 62, 3) := by decide +kernel
theorem dX3_takeRefusal_13 : decode cX3_takeRefusal 13 = .ok (.iload_n 1, 1) := by decide +kernel
theorem dX3_takeRefusal_14 : decode cX3_takeRefusal 14 = .ok (.iaload, 1) := by decide +kernel
theorem dX3_takeRefusal_15 : decode cX3_takeRefusal 15 = .ok (.iload_n 3, 1) := by decide +kernel
theorem dX3_takeRefusal_16 : decode cX3_takeRefusal 16 = .ok (.iand, 1) := by decide +kernel
theorem dX3_takeRefusal_17 : decode cX3_takeRefusal 17 = .ok (.ifCond .ne 5, 3) := by decide +kernel
theorem dX3_takeRefusal_20 : decode cX3_takeRefusal 20 = .ok (.iconst 2, 1) := by decide +kernel
theorem dX3_takeRefusal_21 : decode cX3_takeRefusal 21 = .ok (.ireturn, 1) := by decide +kernel
theorem dX3_takeRefusal_22 : decode cX3_takeRefusal 22 = .ok (.aload_n 0, 1) := by decide +kernel
theorem dX3_takeRefusal_23 : decode cX3_takeRefusal 23 = .ok (.getfield 22, 3) := by decide +kernel
theorem dX3_takeRefusal_26 : decode cX3_takeRefusal 26 = .ok (.getfield 59, 3) := by decide +kernel
theorem dX3_takeRefusal_29 : decode cX3_takeRefusal 29 = .ok (.iload_n 1, 1) := by decide +kernel
theorem dX3_takeRefusal_30 : decode cX3_takeRefusal 30 = .ok (.iaload, 1) := by decide +kernel
theorem dX3_takeRefusal_31 : decode cX3_takeRefusal 31 = .ok (.iload_n 3, 1) := by decide +kernel
theorem dX3_takeRefusal_32 : decode cX3_takeRefusal 32 = .ok (.iand, 1) := by decide +kernel
theorem dX3_takeRefusal_33 : decode cX3_takeRefusal 33 = .ok (.ifCond .eq 7, 3) := by decide +kernel
theorem dX3_takeRefusal_36 : decode cX3_takeRefusal 36 = .ok (.iconst 3, 1) := by decide +kernel
theorem dX3_takeRefusal_37 : decode cX3_takeRefusal 37 = .ok (.goto 4, 3) := by decide +kernel
theorem dX3_takeRefusal_40 : decode cX3_takeRefusal 40 = .ok (.iconst 0, 1) := by decide +kernel
theorem dX3_takeRefusal_41 : decode cX3_takeRefusal 41 = .ok (.ireturn, 1) := by decide +kernel
theorem dX3_after_0 : decode cX3_after 0 = .ok (.aload_n 0, 1) := by decide +kernel
theorem dX3_after_1 : decode cX3_after 1 = .ok (.iload_n 1, 1) := by decide +kernel
theorem dX3_after_2 : decode cX3_after 2 = .ok (.iload_n 2, 1) := by decide +kernel
theorem dX3_after_3 : decode cX3_after 3 = .ok (.invokevirtual 65, 3) := by decide +kernel
theorem dX3_after_6 : decode cX3_after 6 = .ok (.ifCond .ne 12, 3) := by decide +kernel
theorem dX3_after_9 : decode cX3_after 9 = .ok (.aload_n 0, 1) := by decide +kernel
theorem dX3_after_10 : decode cX3_after 10 = .ok (.iload_n 1, 1) := by decide +kernel
theorem dX3_after_11 : decode cX3_after 11 = .ok (.iload_n 2, 1) := by decide +kernel
theorem dX3_after_12 : decode cX3_after 12 = .ok (.invokevirtual 68, 3) := by decide +kernel
theorem dX3_after_15 : decode cX3_after 15 = .ok (.goto 4, 3) := by decide +kernel
theorem dX3_after_18 : decode cX3_after 18 = .ok (.iconst (-1), 1) := by decide +kernel
theorem dX3_after_19 : decode cX3_after 19 = .ok (.ireturn, 1) := by decide +kernel
theorem dX3_behind_0 : decode cX3_behind 0 = .ok (.iload_n 1, 1) := by decide +kernel
theorem dX3_behind_1 : decode cX3_behind 1 = .ok (.invokestatic 30, 3) := by decide +kernel
theorem dX3_behind_4 : decode cX3_behind 4 = .ok (.istore_n 3, 1) := by decide +kernel
theorem dX3_behind_5 : decode cX3_behind 5 = .ok (.iload_n 1, 1) := by decide +kernel
theorem dX3_behind_6 : decode cX3_behind 6 = .ok (.invokestatic 34, 3) := by decide +kernel
theorem dX3_behind_9 : decode cX3_behind 9 = .ok (.istore 4, 2) := by decide +kernel
theorem dX3_behind_11 : decode cX3_behind 11 = .ok (.iload_n 1, 1) := by decide +kernel
theorem dX3_behind_12 : decode cX3_behind 12 = .ok (.invokestatic 71, 3) := by decide +kernel
theorem dX3_behind_15 : decode cX3_behind 15 = .ok (.istore 5, 2) := by decide +kernel
theorem dX3_behind_17 : decode cX3_behind 17 = .ok (.iload_n 2, 1) := by decide +kernel
theorem dX3_behind_18 : decode cX3_behind 18 = .ok (.ifCond .ne 18, 3) := by decide +kernel
theorem dX3_behind_21 : decode cX3_behind 21 = .ok (.iload_n 3, 1) := by decide +kernel
theorem dX3_behind_22 : decode cX3_behind 22 = .ok (.iload 4, 2) := by decide +kernel
theorem dX3_behind_24 : decode cX3_behind 24 = .ok (.iconst 4, 1) := by decide +kernel
theorem dX3_behind_25 : decode cX3_behind 25 = .ok (.iload 5, 2) := by decide +kernel
theorem dX3_behind_27 : decode cX3_behind 27 = .ok (.iconst 1, 1) := by decide +kernel
theorem dX3_behind_28 : decode cX3_behind 28 = .ok (.iadd, 1) := by decide +kernel
theorem dX3_behind_29 : decode cX3_behind 29 = .ok (.invokestatic 74, 3) := by decide +kernel
theorem dX3_behind_32 : decode cX3_behind 32 = .ok (.invokestatic 79, 3) := by decide +kernel
theorem dX3_behind_35 : decode cX3_behind 35 = .ok (.ireturn, 1) := by decide +kernel
theorem dX3_behind_36 : decode cX3_behind 36 = .ok (.iload_n 2, 1) := by decide +kernel
theorem dX3_behind_37 : decode cX3_behind 37 = .ok (.iconst 1, 1) := by decide +kernel
theorem dX3_behind_38 : decode cX3_behind 38 = .ok (.if_icmp .ne 20, 3) := by decide +kernel
theorem dX3_behind_41 : decode cX3_behind 41 = .ok (.iload_n 3, 1) := by decide +kernel
theorem dX3_behind_42 : decode cX3_behind 42 = .ok (.iconst 1, 1) := by decide +kernel
theorem dX3_behind_43 : decode cX3_behind 43 = .ok (.iadd, 1) := by decide +kernel
theorem dX3_behind_44 : decode cX3_behind 44 = .ok (.iload 4, 2) := by decide +kernel
theorem dX3_behind_46 : decode cX3_behind 46 = .ok (.aload_n 0, 1) := by decide +kernel
theorem dX3_behind_47 : decode cX3_behind 47 = .ok (.getfield 26, 3) := by decide +kernel
theorem dX3_behind_50 : decode cX3_behind 50 = .ok (.iload_n 1, 1) := by decide +kernel
theorem dX3_behind_51 : decode cX3_behind 51 = .ok (.invokevirtual 41, 3) := by decide +kernel
theorem dX3_behind_54 : decode cX3_behind 54 = .ok (.invokestatic 79, 3) := by decide +kernel
theorem dX3_behind_57 : decode cX3_behind 57 = .ok (.ireturn, 1) := by decide +kernel
theorem dX3_behind_58 : decode cX3_behind 58 = .ok (.iload_n 2, 1) := by decide +kernel
theorem dX3_behind_59 : decode cX3_behind 59 = .ok (.iconst 2, 1) := by decide +kernel
theorem dX3_behind_60 : decode cX3_behind 60 = .ok (.if_icmp .ne 14, 3) := by decide +kernel
theorem dX3_behind_63 : decode cX3_behind 63 = .ok (.iload_n 3, 1) := by decide +kernel
theorem dX3_behind_64 : decode cX3_behind 64 = .ok (.iconst 1, 1) := by decide +kernel
theorem dX3_behind_65 : decode cX3_behind 65 = .ok (.isub, 1) := by decide +kernel
theorem dX3_behind_66 : decode cX3_behind 66 = .ok (.iload 4, 2) := by decide +kernel
theorem dX3_behind_68 : decode cX3_behind 68 = .ok (.iload 5, 2) := by decide +kernel
theorem dX3_behind_70 : decode cX3_behind 70 = .ok (.invokestatic 79, 3) := by decide +kernel
theorem dX3_behind_73 : decode cX3_behind 73 = .ok (.ireturn, 1) := by decide +kernel
theorem dX3_behind_74 : decode cX3_behind 74 = .ok (.iload_n 2, 1) := by decide +kernel
theorem dX3_behind_75 : decode cX3_behind 75 = .ok (.bipush 20, 2) := by decide +kernel
theorem dX3_behind_77 : decode cX3_behind 77 = .ok (.if_icmp .ge 12, 3) := by decide +kernel
theorem dX3_behind_80 : decode cX3_behind 80 = .ok (.iconst 1, 1) := by decide +kernel
theorem dX3_behind_81 : decode cX3_behind 81 = .ok (.iload_n 2, 1) := by decide +kernel
theorem dX3_behind_82 : decode cX3_behind 82 = .ok (.bipush 10, 2) := by decide +kernel
theorem dX3_behind_84 : decode cX3_behind 84 = .ok (.isub, 1) := by decide +kernel
theorem dX3_behind_85 : decode cX3_behind 85 = .ok (.ishl, 1) := by decide +kernel
theorem dX3_behind_86 : decode cX3_behind 86 = .ok (.goto 9, 3) := by decide +kernel
theorem dX3_behind_89 : decode cX3_behind 89 = .ok (.iconst 1, 1) := by decide +kernel
theorem dX3_behind_90 : decode cX3_behind 90 = .ok (.iload_n 2, 1) := by decide +kernel
theorem dX3_behind_91 : decode cX3_behind 91 = .ok (.bipush 20, 2) := by decide +kernel
theorem dX3_behind_93 : decode cX3_behind 93 = .ok (.isub, 1) := by decide +kernel
theorem dX3_behind_94 : decode cX3_behind 94 = .ok (.ishl, 1) := by decide +kernel
theorem dX3_behind_95 : decode cX3_behind 95 = .ok (.istore 6, 2) := by decide +kernel
theorem dX3_behind_97 : decode cX3_behind 97 = .ok (.iload_n 3, 1) := by decide +kernel
theorem dX3_behind_98 : decode cX3_behind 98 = .ok (.iload 4, 2) := by decide +kernel
theorem dX3_behind_100 : decode cX3_behind 100 = .ok (.iload 6, 2) := by decide +kernel
theorem dX3_behind_102 : decode cX3_behind 102 = .ok (.ixor, 1) := by decide +kernel
theorem dX3_behind_103 : decode cX3_behind 103 = .ok (.iload 5, 2) := by decide +kernel
theorem dX3_behind_105 : decode cX3_behind 105 = .ok (.invokestatic 79, 3) := by decide +kernel
theorem dX3_behind_108 : decode cX3_behind 108 = .ok (.ireturn, 1) := by decide +kernel
theorem dX3_gather_0 : decode cX3_gather 0 = .ok (.iload_n 1, 1) := by decide +kernel
theorem dX3_gather_1 : decode cX3_gather 1 = .ok (.invokestatic 30, 3) := by decide +kernel
theorem dX3_gather_4 : decode cX3_gather 4 = .ok (.istore_n 2, 1) := by decide +kernel
theorem dX3_gather_5 : decode cX3_gather 5 = .ok (.iload_n 1, 1) := by decide +kernel
theorem dX3_gather_6 : decode cX3_gather 6 = .ok (.invokestatic 34, 3) := by decide +kernel
theorem dX3_gather_9 : decode cX3_gather 9 = .ok (.istore_n 3, 1) := by decide +kernel
theorem dX3_gather_10 : decode cX3_gather 10 = .ok (.aload_n 0, 1) := by decide +kernel
theorem dX3_gather_11 : decode cX3_gather 11 = .ok (.iconst 0, 1) := by decide +kernel
theorem dX3_gather_12 : decode cX3_gather 12 = .ok (.putfield 18, 3) := by decide +kernel
theorem dX3_gather_15 : decode cX3_gather 15 = .ok (.aload_n 0, 1) := by decide +kernel
theorem dX3_gather_16 : decode cX3_gather 16 = .ok (.iconst 0, 1) := by decide +kernel
theorem dX3_gather_17 : decode cX3_gather 17 = .ok (.iload_n 1, 1) := by decide +kernel
theorem dX3_gather_18 : decode cX3_gather 18 = .ok (.invokestatic 71, 3) := by decide +kernel
theorem dX3_gather_21 : decode cX3_gather 21 = .ok (.iconst 4, 1) := by decide +kernel
theorem dX3_gather_22 : decode cX3_gather 22 = .ok (.if_icmp .ge 9, 3) := by decide +kernel
theorem dX3_gather_25 : decode cX3_gather 25 = .ok (.iload_n 1, 1) := by decide +kernel
theorem dX3_gather_26 : decode cX3_gather 26 = .ok (.iconst 1, 1) := by decide +kernel
theorem dX3_gather_27 : decode cX3_gather 27 = .ok (.iadd, 1) := by decide +kernel
theorem dX3_gather_28 : decode cX3_gather 28 = .ok (.goto 4, 3) := by decide +kernel
theorem dX3_gather_31 : decode cX3_gather 31 = .ok (.iload_n 1, 1) := by decide +kernel
theorem dX3_gather_32 : decode cX3_gather 32 = .ok (.invokevirtual 82, 3) := by decide +kernel
theorem dX3_gather_35 : decode cX3_gather 35 = .ok (.aload_n 0, 1) := by decide +kernel
theorem dX3_gather_36 : decode cX3_gather 36 = .ok (.iload_n 2, 1) := by decide +kernel
theorem dX3_gather_37 : decode cX3_gather 37 = .ok (.iconst 1, 1) := by decide +kernel
theorem dX3_gather_38 : decode cX3_gather 38 = .ok (.iadd, 1) := by decide +kernel
theorem dX3_gather_39 : decode cX3_gather 39 = .ok (.iload_n 3, 1) := by decide +kernel
theorem dX3_gather_40 : decode cX3_gather 40 = .ok (.invokevirtual 37, 3) := by decide +kernel
theorem dX3_gather_43 : decode cX3_gather 43 = .ok (.ifCond .ne 33, 3) := by decide +kernel
theorem dX3_gather_46 : decode cX3_gather 46 = .ok (.aload_n 0, 1) := by decide +kernel
theorem dX3_gather_47 : decode cX3_gather 47 = .ok (.getfield 26, 3) := by decide +kernel
theorem dX3_gather_50 : decode cX3_gather 50 = .ok (.iload_n 1, 1) := by decide +kernel
theorem dX3_gather_51 : decode cX3_gather 51 = .ok (.invokevirtual 41, 3) := by decide +kernel
theorem dX3_gather_54 : decode cX3_gather 54 = .ok (.istore 4, 2) := by decide +kernel
theorem dX3_gather_56 : decode cX3_gather 56 = .ok (.iload 4, 2) := by decide +kernel
theorem dX3_gather_58 : decode cX3_gather 58 = .ok (.iconst (-1), 1) := by decide +kernel
theorem dX3_gather_59 : decode cX3_gather 59 = .ok (.if_icmp .eq 17, 3) := by decide +kernel
theorem dX3_gather_62 : decode cX3_gather 62 = .ok (.aload_n 0, 1) := by decide +kernel
theorem dX3_gather_63 : decode cX3_gather 63 = .ok (.iconst 1, 1) := by decide +kernel
theorem dX3_gather_64 : decode cX3_gather 64 = .ok (.iload_n 2, 1) := by decide +kernel
theorem dX3_gather_65 : decode cX3_gather 65 = .ok (.iconst 1, 1) := by decide +kernel
theorem dX3_gather_66 : decode cX3_gather 66 = .ok (.iadd, 1) := by decide +kernel
theorem dX3_gather_67 : decode cX3_gather 67 = .ok (.iload_n 3, 1) := by decide +kernel
theorem dX3_gather_68 : decode cX3_gather 68 = .ok (.iload 4, 2) := by decide +kernel
theorem dX3_gather_70 : decode cX3_gather 70 = .ok (.invokestatic 79, 3) := by decide +kernel
theorem dX3_gather_73 : decode cX3_gather 73 = .ok (.invokevirtual 82, 3) := by decide +kernel
theorem dX3_gather_76 : decode cX3_gather 76 = .ok (.aload_n 0, 1) := by decide +kernel
theorem dX3_gather_77 : decode cX3_gather 77 = .ok (.iload_n 2, 1) := by decide +kernel
theorem dX3_gather_78 : decode cX3_gather 78 = .ok (.iconst 1, 1) := by decide +kernel
theorem dX3_gather_79 : decode cX3_gather 79 = .ok (.isub, 1) := by decide +kernel
theorem dX3_gather_80 : decode cX3_gather 80 = .ok (.iload_n 3, 1) := by decide +kernel
theorem dX3_gather_81 : decode cX3_gather 81 = .ok (.invokevirtual 37, 3) := by decide +kernel
theorem dX3_gather_84 : decode cX3_gather 84 = .ok (.ifCond .ne 19, 3) := by decide +kernel
theorem dX3_gather_87 : decode cX3_gather 87 = .ok (.aload_n 0, 1) := by decide +kernel
theorem dX3_gather_88 : decode cX3_gather 88 = .ok (.iconst 2, 1) := by decide +kernel
theorem dX3_gather_89 : decode cX3_gather 89 = .ok (.iload_n 2, 1) := by decide +kernel
theorem dX3_gather_90 : decode cX3_gather 90 = .ok (.iconst 1, 1) := by decide +kernel
theorem dX3_gather_91 : decode cX3_gather 91 = .ok (.isub, 1) := by decide +kernel
theorem dX3_gather_92 : decode cX3_gather 92 = .ok (.iload_n 3, 1) := by decide +kernel
theorem dX3_gather_93 : decode cX3_gather 93 = .ok (.iload_n 1, 1) := by decide +kernel
theorem dX3_gather_94 : decode cX3_gather 94 = .ok (.invokestatic 71, 3) := by decide +kernel
theorem dX3_gather_97 : decode cX3_gather 97 = .ok (.invokestatic 79, 3) := by decide +kernel
theorem dX3_gather_100 : decode cX3_gather 100 = .ok (.invokevirtual 82, 3) := by decide +kernel
theorem dX3_gather_103 : decode cX3_gather 103 = .ok (.aload_n 0, 1) := by decide +kernel
theorem dX3_gather_104 : decode cX3_gather 104 = .ok (.iload_n 1, 1) := by decide +kernel
theorem dX3_gather_105 : decode cX3_gather 105 = .ok (.iload_n 3, 1) := by decide +kernel
theorem dX3_gather_106 : decode cX3_gather 106 = .ok (.bipush 10, 2) := by decide +kernel
theorem dX3_gather_108 : decode cX3_gather 108 = .ok (.invokevirtual 86, 3) := by decide +kernel
theorem dX3_gather_111 : decode cX3_gather 111 = .ok (.aload_n 0, 1) := by decide +kernel
theorem dX3_gather_112 : decode cX3_gather 112 = .ok (.iload_n 1, 1) := by decide +kernel
theorem dX3_gather_113 : decode cX3_gather 113 = .ok (.aload_n 0, 1) := by decide +kernel
theorem dX3_gather_114 : decode cX3_gather 114 = .ok (.getfield 22, 3) := by decide +kernel
theorem dX3_gather_117 : decode cX3_gather 117 = .ok (.getfield 62, 3) := by decide +kernel
theorem dX3_gather_120 : decode cX3_gather 120 = .ok (.iload_n 2, 1) := by decide +kernel
theorem dX3_gather_121 : decode cX3_gather 121 = .ok (.iaload, 1) := by decide +kernel
theorem dX3_gather_122 : decode cX3_gather 122 = .ok (.aload_n 0, 1) := by decide +kernel
theorem dX3_gather_123 : decode cX3_gather 123 = .ok (.getfield 22, 3) := by decide +kernel
theorem dX3_gather_126 : decode cX3_gather 126 = .ok (.getfield 59, 3) := by decide +kernel
theorem dX3_gather_129 : decode cX3_gather 129 = .ok (.iload_n 2, 1) := by decide +kernel
theorem dX3_gather_130 : decode cX3_gather 130 = .ok (.iaload, 1) := by decide +kernel
theorem dX3_gather_131 : decode cX3_gather 131 = .ok (.iconst (-1), 1) := by decide +kernel
theorem dX3_gather_132 : decode cX3_gather 132 = .ok (.ixor, 1) := by decide +kernel
theorem dX3_gather_133 : decode cX3_gather 133 = .ok (.iand, 1) := by decide +kernel
theorem dX3_gather_134 : decode cX3_gather 134 = .ok (.iload_n 3, 1) := by decide +kernel
theorem dX3_gather_135 : decode cX3_gather 135 = .ok (.iconst (-1), 1) := by decide +kernel
theorem dX3_gather_136 : decode cX3_gather 136 = .ok (.ixor, 1) := by decide +kernel
theorem dX3_gather_137 : decode cX3_gather 137 = .ok (.iand, 1) := by decide +kernel
theorem dX3_gather_138 : decode cX3_gather 138 = .ok (.bipush 20, 2) := by decide +kernel
theorem dX3_gather_140 : decode cX3_gather 140 = .ok (.invokevirtual 86, 3) := by decide +kernel
theorem dX3_gather_143 : decode cX3_gather 143 = .ok (.aload_n 0, 1) := by decide +kernel
theorem dX3_gather_144 : decode cX3_gather 144 = .ok (.getfield 18, 3) := by decide +kernel
theorem dX3_gather_147 : decode cX3_gather 147 = .ok (.ireturn, 1) := by decide +kernel
theorem dX3_gatherThings_0 : decode cX3_gatherThings 0 = .ok (.iload_n 1, 1) := by decide +kernel
theorem dX3_gatherThings_1 : decode cX3_gatherThings 1 = .ok (.invokestatic 30, 3) := by decide +kernel
theorem dX3_gatherThings_4 : decode cX3_gatherThings 4 = .ok (.istore 4, 2) := by decide +kernel
theorem dX3_gatherThings_6 : decode cX3_gatherThings 6 = .ok (.iload_n 1, 1) := by decide +kernel
theorem dX3_gatherThings_7 : decode cX3_gatherThings 7 = .ok (.invokestatic 34, 3) := by decide +kernel
theorem dX3_gatherThings_10 : decode cX3_gatherThings 10 = .ok (.istore 5, 2) := by decide +kernel
theorem dX3_gatherThings_12 : decode cX3_gatherThings 12 = .ok (.iload_n 1, 1) := by decide +kernel
theorem dX3_gatherThings_13 : decode cX3_gatherThings 13 = .ok (.invokestatic 71, 3) := by decide +kernel
theorem dX3_gatherThings_16 : decode cX3_gatherThings 16 = .ok (.istore 6, 2) := by decide +kernel
theorem dX3_gatherThings_18 : decode cX3_gatherThings 18 = .ok (.iconst 0, 1) := by decide +kernel
theorem dX3_gatherThings_19 : decode cX3_gatherThings 19 = .ok (.istore 7, 2) := by decide +kernel
theorem dX3_gatherThings_21 : decode cX3_gatherThings 21 = .ok (.iload 7, 2) := by decide +kernel
theorem dX3_gatherThings_23 : decode cX3_gatherThings 23 = .ok (.bipush 6, 2) := by decide +kernel
theorem dX3_gatherThings_25 : decode cX3_gatherThings 25 = .ok (.if_icmp .ge 40, 3) := by decide +kernel
theorem dX3_gatherThings_28 : decode cX3_gatherThings 28 = .ok (.iload_n 2, 1) := by decide +kernel
theorem dX3_gatherThings_29 : decode cX3_gatherThings 29 = .ok (.iload 7, 2) := by decide +kernel
theorem dX3_gatherThings_31 : decode cX3_gatherThings 31 = .ok (.ishr, 1) := by decide +kernel
theorem dX3_gatherThings_32 : decode cX3_gatherThings 32 = .ok (.iconst 1, 1) := by decide +kernel
theorem dX3_gatherThings_33 : decode cX3_gatherThings 33 = .ok (.iand, 1) := by decide +kernel
theorem dX3_gatherThings_34 : decode cX3_gatherThings 34 = .ok (.ifCond .eq 25, 3) := by decide +kernel
theorem dX3_gatherThings_37 : decode cX3_gatherThings 37 = .ok (.aload_n 0, 1) := by decide +kernel
theorem dX3_gatherThings_38 : decode cX3_gatherThings 38 = .ok (.iload_n 3, 1) := by decide +kernel
theorem dX3_gatherThings_39 : decode cX3_gatherThings 39 = .ok (.iload 7, 2) := by decide +kernel
theorem dX3_gatherThings_41 : decode cX3_gatherThings 41 = .ok (.iadd, 1) := by decide +kernel
theorem dX3_gatherThings_42 : decode cX3_gatherThings 42 = .ok (.iload 4, 2) := by decide +kernel
theorem dX3_gatherThings_44 : decode cX3_gatherThings 44 = .ok (.iload 5, 2) := by decide +kernel
theorem dX3_gatherThings_46 : decode cX3_gatherThings 46 = .ok (.iconst 1, 1) := by decide +kernel
theorem dX3_gatherThings_47 : decode cX3_gatherThings 47 = .ok (.iload 7, 2) := by decide +kernel
theorem dX3_gatherThings_49 : decode cX3_gatherThings 49 = .ok (.ishl, 1) := by decide +kernel
theorem dX3_gatherThings_50 : decode cX3_gatherThings 50 = .ok (.ixor, 1) := by decide +kernel
theorem dX3_gatherThings_51 : decode cX3_gatherThings 51 = .ok (.iload 6, 2) := by decide +kernel
theorem dX3_gatherThings_53 : decode cX3_gatherThings 53 = .ok (.invokestatic 79, 3) := by decide +kernel
theorem dX3_gatherThings_56 : decode cX3_gatherThings 56 = .ok (.invokevirtual 82, 3) := by decide +kernel
theorem dX3_gatherThings_59 : decode cX3_gatherThings 59 = .ok (.iinc 7 1, 3) := by decide +kernel
theorem dX3_gatherThings_62 : decode cX3_gatherThings 62 = .ok (.goto (-41), 3) := by decide +kernel
theorem dX3_gatherThings_65 : decode cX3_gatherThings 65 = .ok (.return_, 1) := by decide +kernel
theorem dX3_keep_0 : decode cX3_keep 0 = .ok (.aload_n 0, 1) := by decide +kernel
theorem dX3_keep_1 : decode cX3_keep 1 = .ok (.getfield 18, 3) := by decide +kernel
theorem dX3_keep_4 : decode cX3_keep 4 = .ok (.bipush 9, 2) := by decide +kernel
theorem dX3_keep_6 : decode cX3_keep 6 = .ok (.if_icmp .ge 33, 3) := by decide +kernel
theorem dX3_keep_9 : decode cX3_keep 9 = .ok (.aload_n 0, 1) := by decide +kernel
theorem dX3_keep_10 : decode cX3_keep 10 = .ok (.getfield 9, 3) := by decide +kernel
theorem dX3_keep_13 : decode cX3_keep 13 = .ok (.aload_n 0, 1) := by decide +kernel
theorem dX3_keep_14 : decode cX3_keep 14 = .ok (.getfield 18, 3) := by decide +kernel
theorem dX3_keep_17 : decode cX3_keep 17 = .ok (.iload_n 1, 1) := by decide +kernel
theorem dX3_keep_18 : decode cX3_keep 18 = .ok (.iastore, 1) := by decide +kernel
theorem dX3_keep_19 : decode cX3_keep 19 = .ok (.aload_n 0, 1) := by decide +kernel
theorem dX3_keep_20 : decode cX3_keep 20 = .ok (.getfield 15, 3) := by decide +kernel
theorem dX3_keep_23 : decode cX3_keep 23 = .ok (.aload_n 0, 1) := by decide +kernel
theorem dX3_keep_24 : decode cX3_keep 24 = .ok (.getfield 18, 3) := by decide +kernel
theorem dX3_keep_27 : decode cX3_keep 27 = .ok (.iload_n 2, 1) := by decide +kernel
theorem dX3_keep_28 : decode cX3_keep 28 = .ok (.iastore, 1) := by decide +kernel
theorem dX3_keep_29 : decode cX3_keep 29 = .ok (.aload_n 0, 1) := by decide +kernel
theorem dX3_keep_30 : decode cX3_keep 30 = .ok (.dup, 1) := by decide +kernel
theorem dX3_keep_31 : decode cX3_keep 31 = .ok (.getfield 18, 3) := by decide +kernel
theorem dX3_keep_34 : decode cX3_keep 34 = .ok (.iconst 1, 1) := by decide +kernel
theorem dX3_keep_35 : decode cX3_keep 35 = .ok (.iadd, 1) := by decide +kernel
theorem dX3_keep_36 : decode cX3_keep 36 = .ok (.putfield 18, 3) := by decide +kernel
theorem dX3_keep_39 : decode cX3_keep 39 = .ok (.return_, 1) := by decide +kernel
theorem dX3_habitual_0 : decode cX3_habitual 0 = .ok (.aload_n 0, 1) := by decide +kernel
theorem dX3_habitual_1 : decode cX3_habitual 1 = .ok (.iload_n 1, 1) := by decide +kernel
theorem dX3_habitual_2 : decode cX3_habitual 2 = .ok (.iconst 1, 1) := by decide +kernel
theorem dX3_habitual_3 : decode cX3_habitual 3 = .ok (.invokevirtual 65, 3) := by decide +kernel
theorem dX3_habitual_6 : decode cX3_habitual 6 = .ok (.ifCond .ne 5, 3) := by decide +kernel
theorem dX3_habitual_9 : decode cX3_habitual 9 = .ok (.iconst 1, 1) := by decide +kernel
theorem dX3_habitual_10 : decode cX3_habitual 10 = .ok (.ireturn, 1) := by decide +kernel
theorem dX3_habitual_11 : decode cX3_habitual 11 = .ok (.iload_n 1, 1) := by decide +kernel
theorem dX3_habitual_12 : decode cX3_habitual 12 = .ok (.invokestatic 30, 3) := by decide +kernel
theorem dX3_habitual_15 : decode cX3_habitual 15 = .ok (.iconst 1, 1) := by decide +kernel
theorem dX3_habitual_16 : decode cX3_habitual 16 = .ok (.iadd, 1) := by decide +kernel
theorem dX3_habitual_17 : decode cX3_habitual 17 = .ok (.istore_n 2, 1) := by decide +kernel
theorem dX3_habitual_18 : decode cX3_habitual 18 = .ok (.aload_n 0, 1) := by decide +kernel
theorem dX3_habitual_19 : decode cX3_habitual 19 = .ok (.getfield 22, 3) := by decide +kernel
theorem dX3_habitual_22 : decode cX3_habitual 22 = .ok (.iload_n 2, 1) := by decide +kernel
theorem dX3_habitual_23 : decode cX3_habitual 23 = .ok (.invokevirtual 56, 3) := by decide +kernel
theorem dX3_habitual_26 : decode cX3_habitual 26 = .ok (.ifCond .ne 5, 3) := by decide +kernel
theorem dX3_habitual_29 : decode cX3_habitual 29 = .ok (.iconst 0, 1) := by decide +kernel
theorem dX3_habitual_30 : decode cX3_habitual 30 = .ok (.ireturn, 1) := by decide +kernel
theorem dX3_habitual_31 : decode cX3_habitual 31 = .ok (.iload_n 1, 1) := by decide +kernel
theorem dX3_habitual_32 : decode cX3_habitual 32 = .ok (.invokestatic 34, 3) := by decide +kernel
theorem dX3_habitual_35 : decode cX3_habitual 35 = .ok (.aload_n 0, 1) := by decide +kernel
theorem dX3_habitual_36 : decode cX3_habitual 36 = .ok (.getfield 22, 3) := by decide +kernel
theorem dX3_habitual_39 : decode cX3_habitual 39 = .ok (.getfield 59, 3) := by decide +kernel
theorem dX3_habitual_42 : decode cX3_habitual 42 = .ok (.iload_n 2, 1) := by decide +kernel
theorem dX3_habitual_43 : decode cX3_habitual 43 = .ok (.iaload, 1) := by decide +kernel
theorem dX3_habitual_44 : decode cX3_habitual 44 = .ok (.iand, 1) := by decide +kernel
theorem dX3_habitual_45 : decode cX3_habitual 45 = .ok (.istore_n 3, 1) := by decide +kernel
theorem dX3_habitual_46 : decode cX3_habitual 46 = .ok (.iconst 0, 1) := by decide +kernel
theorem dX3_habitual_47 : decode cX3_habitual 47 = .ok (.istore 4, 2) := by decide +kernel
theorem dX3_habitual_49 : decode cX3_habitual 49 = .ok (.iload 4, 2) := by decide +kernel
theorem dX3_habitual_51 : decode cX3_habitual 51 = .ok (.bipush 6, 2) := by decide +kernel
theorem dX3_habitual_53 : decode cX3_habitual 53 = .ok (.if_icmp .ge 24, 3) := by decide +kernel
theorem dX3_habitual_56 : decode cX3_habitual 56 = .ok (.iload_n 3, 1) := by decide +kernel
theorem dX3_habitual_57 : decode cX3_habitual 57 = .ok (.iload 4, 2) := by decide +kernel
theorem dX3_habitual_59 : decode cX3_habitual 59 = .ok (.ishr, 1) := by decide +kernel
theorem dX3_habitual_60 : decode cX3_habitual 60 = .ok (.iconst 1, 1) := by decide +kernel
theorem dX3_habitual_61 : decode cX3_habitual 61 = .ok (.iand, 1) := by decide +kernel
theorem dX3_habitual_62 : decode cX3_habitual 62 = .ok (.ifCond .eq 9, 3) := by decide +kernel
theorem dX3_habitual_65 : decode cX3_habitual 65 = .ok (.bipush 10, 2) := by decide +kernel
theorem dX3_habitual_67 : decode cX3_habitual 67 = .ok (.iload 4, 2) := by decide +kernel
theorem dX3_habitual_69 : decode cX3_habitual 69 = .ok (.iadd, 1) := by decide +kernel
theorem dX3_habitual_70 : decode cX3_habitual 70 = .ok (.ireturn, 1) := by decide +kernel
theorem dX3_habitual_71 : decode cX3_habitual 71 = .ok (.iinc 4 1, 3) := by decide +kernel
theorem dX3_habitual_74 : decode cX3_habitual 74 = .ok (.goto (-25), 3) := by decide +kernel
theorem dX3_habitual_77 : decode cX3_habitual 77 = .ok (.iconst 0, 1) := by decide +kernel
theorem dX3_habitual_78 : decode cX3_habitual 78 = .ok (.ireturn, 1) := by decide +kernel
theorem dX3_afterHabit_0 : decode cX3_afterHabit 0 = .ok (.aload_n 0, 1) := by decide +kernel
theorem dX3_afterHabit_1 : decode cX3_afterHabit 1 = .ok (.iload_n 1, 1) := by decide +kernel
theorem dX3_afterHabit_2 : decode cX3_afterHabit 2 = .ok (.aload_n 0, 1) := by decide +kernel
theorem dX3_afterHabit_3 : decode cX3_afterHabit 3 = .ok (.iload_n 1, 1) := by decide +kernel
theorem dX3_afterHabit_4 : decode cX3_afterHabit 4 = .ok (.invokevirtual 90, 3) := by decide +kernel
theorem dX3_afterHabit_7 : decode cX3_afterHabit 7 = .ok (.invokevirtual 68, 3) := by decide +kernel
theorem dX3_afterHabit_10 : decode cX3_afterHabit 10 = .ok (.ireturn, 1) := by decide +kernel
theorem dX4_init_0 : decode cX4_init 0 = .ok (.aload_n 0, 1) := by decide +kernel
theorem dX4_init_1 : decode cX4_init 1 = .ok (.invokespecial 1, 3) := by decide +kernel
theorem dX4_init_4 : decode cX4_init 4 = .ok (.aload_n 0, 1) := by decide +kernel
theorem dX4_init_5 : decode cX4_init 5 = .ok (.iconst 0, 1) := by decide +kernel
theorem dX4_init_6 : decode cX4_init 6 = .ok (.putfield 7, 3) := by decide +kernel
theorem dX4_init_9 : decode cX4_init 9 = .ok (.aload_n 0, 1) := by decide +kernel
theorem dX4_init_10 : decode cX4_init 10 = .ok (.iconst 0, 1) := by decide +kernel
theorem dX4_init_11 : decode cX4_init 11 = .ok (.putfield 13, 3) := by decide +kernel
theorem dX4_init_14 : decode cX4_init 14 = .ok (.aload_n 0, 1) := by decide +kernel
theorem dX4_init_15 : decode cX4_init 15 = .ok (.iconst 0, 1) := by decide +kernel
theorem dX4_init_16 : decode cX4_init 16 = .ok (.putfield 16, 3) := by decide +kernel
theorem dX4_init_19 : decode cX4_init 19 = .ok (.return_, 1) := by decide +kernel
theorem dX4_begin_0 : decode cX4_begin 0 = .ok (.aload_n 0, 1) := by decide +kernel
theorem dX4_begin_1 : decode cX4_begin 1 = .ok (.aload_n 1, 1) := by decide +kernel
theorem dX4_begin_2 : decode cX4_begin 2 = .ok (.getfield 19, 3) := by decide +kernel
theorem dX4_begin_5 : decode cX4_begin 5 = .ok (.aload_n 1, 1) := by decide +kernel
theorem dX4_begin_6 : decode cX4_begin 6 = .ok (.getfield 24, 3) := by decide +kernel
theorem dX4_begin_9 : decode cX4_begin 9 = .ok (.aload_n 1, 1) := by decide +kernel
theorem dX4_begin_10 : decode cX4_begin 10 = .ok (.getfield 27, 3) := by decide +kernel
theorem dX4_begin_13 : decode cX4_begin 13 = .ok (.invokestatic 30, 3) := by decide +kernel
theorem dX4_begin_16 : decode cX4_begin 16 = .ok (.putfield 7, 3) := by decide +kernel
theorem dX4_begin_19 : decode cX4_begin 19 = .ok (.aload_n 0, 1) := by decide +kernel
theorem dX4_begin_20 : decode cX4_begin 20 = .ok (.aload_n 1, 1) := by decide +kernel
theorem dX4_begin_21 : decode cX4_begin 21 = .ok (.getfield 36, 3) := by decide +kernel
theorem dX4_begin_24 : decode cX4_begin 24 = .ok (.putfield 13, 3) := by decide +kernel
theorem dX4_begin_27 : decode cX4_begin 27 = .ok (.aload_n 0, 1) := by decide +kernel
theorem dX4_begin_28 : decode cX4_begin 28 = .ok (.iconst 0, 1) := by decide +kernel
theorem dX4_begin_29 : decode cX4_begin 29 = .ok (.putfield 16, 3) := by decide +kernel
theorem dX4_begin_32 : decode cX4_begin 32 = .ok (.return_, 1) := by decide +kernel
theorem dX4_copyFrom_0 : decode cX4_copyFrom 0 = .ok (.aload_n 0, 1) := by decide +kernel
theorem dX4_copyFrom_1 : decode cX4_copyFrom 1 = .ok (.aload_n 1, 1) := by decide +kernel
theorem dX4_copyFrom_2 : decode cX4_copyFrom 2 = .ok (.getfield 7, 3) := by decide +kernel
theorem dX4_copyFrom_5 : decode cX4_copyFrom 5 = .ok (.putfield 7, 3) := by decide +kernel
theorem dX4_copyFrom_8 : decode cX4_copyFrom 8 = .ok (.aload_n 0, 1) := by decide +kernel
theorem dX4_copyFrom_9 : decode cX4_copyFrom 9 = .ok (.aload_n 1, 1) := by decide +kernel
theorem dX4_copyFrom_10 : decode cX4_copyFrom 10 = .ok (.getfield 13, 3) := by decide +kernel
theorem dX4_copyFrom_13 : decode cX4_copyFrom 13 = .ok (.putfield 13, 3) := by decide +kernel
theorem dX4_copyFrom_16 : decode cX4_copyFrom 16 = .ok (.aload_n 0, 1) := by decide +kernel
theorem dX4_copyFrom_17 : decode cX4_copyFrom 17 = .ok (.aload_n 1, 1) := by decide +kernel
theorem dX4_copyFrom_18 : decode cX4_copyFrom 18 = .ok (.getfield 16, 3) := by decide +kernel
theorem dX4_copyFrom_21 : decode cX4_copyFrom 21 = .ok (.putfield 16, 3) := by decide +kernel
theorem dX4_copyFrom_24 : decode cX4_copyFrom 24 = .ok (.return_, 1) := by decide +kernel
theorem dX5_init_0 : decode cX5_init 0 = .ok (.aload_n 0, 1) := by decide +kernel
theorem dX5_init_1 : decode cX5_init 1 = .ok (.invokespecial 3, 3) := by decide +kernel
theorem dX5_init_4 : decode cX5_init 4 = .ok (.aload_n 0, 1) := by decide +kernel
theorem dX5_init_5 : decode cX5_init 5 = .ok (.iconst 0, 1) := by decide +kernel
theorem dX5_init_6 : decode cX5_init 6 = .ok (.putfield 9, 3) := by decide +kernel
theorem dX5_init_9 : decode cX5_init 9 = .ok (.aload_n 0, 1) := by decide +kernel
theorem dX5_init_10 : decode cX5_init 10 = .ok (.iconst (-1), 1) := by decide +kernel
theorem dX5_init_11 : decode cX5_init 11 = .ok (.putfield 15, 3) := by decide +kernel
theorem dX5_init_14 : decode cX5_init 14 = .ok (.aload_n 0, 1) := by decide +kernel
theorem dX5_init_15 : decode cX5_init 15 = .ok (.aload_n 1, 1) := by decide +kernel
theorem dX5_init_16 : decode cX5_init 16 = .ok (.putfield 18, 3) := by decide +kernel
theorem dX5_init_19 : decode cX5_init 19 = .ok (.return_, 1) := by decide +kernel
theorem dX5_readText_0 : decode cX5_readText 0 = .ok (.aload_n 0, 1) := by decide +kernel
theorem dX5_readText_1 : decode cX5_readText 1 = .ok (.iload_n 1, 1) := by decide +kernel
theorem dX5_readText_2 : decode cX5_readText 2 = .ok (.aload_n 0, 1) := by decide +kernel
theorem dX5_readText_3 : decode cX5_readText 3 = .ok (.getfield 18, 3) := by decide +kernel
theorem dX5_readText_6 : decode cX5_readText 6 = .ok (.arraylength, 1) := by decide +kernel
theorem dX5_readText_7 : decode cX5_readText 7 = .ok (.invokestatic 22, 3) := by decide +kernel
theorem dX5_readText_10 : decode cX5_readText 10 = .ok (.putfield 28, 3) := by decide +kernel
theorem dX5_readText_13 : decode cX5_readText 13 = .ok (.aload_n 0, 1) := by decide +kernel
theorem dX5_readText_14 : decode cX5_readText 14 = .ok (.iconst 0, 1) := by decide +kernel
theorem dX5_readText_15 : decode cX5_readText 15 = .ok (.putfield 31, 3) := by decide +kernel
theorem dX5_readText_18 : decode cX5_readText 18 = .ok (.aload_n 0, 1) := by decide +kernel
theorem dX5_readText_19 : decode cX5_readText 19 = .ok (.iconst 0, 1) := by decide +kernel
theorem dX5_readText_20 : decode cX5_readText 20 = .ok (.putfield 9, 3) := by decide +kernel
theorem dX5_readText_23 : decode cX5_readText 23 = .ok (.aload_n 0, 1) := by decide +kernel
theorem dX5_readText_24 : decode cX5_readText 24 = .ok (.iconst (-1), 1) := by decide +kernel
theorem dX5_readText_25 : decode cX5_readText 25 = .ok (.putfield 15, 3) := by decide +kernel
theorem dX5_readText_28 : decode cX5_readText 28 = .ok (.aload_n 0, 1) := by decide +kernel
theorem dX5_readText_29 : decode cX5_readText 29 = .ok (.aload_n 2, 1) := by decide +kernel
theorem dX5_readText_30 : decode cX5_readText 30 = .ok (.putfield 34, 3) := by decide +kernel
theorem dX5_readText_33 : decode cX5_readText 33 = .ok (.aload_n 0, 1) := by decide +kernel
theorem dX5_readText_34 : decode cX5_readText 34 = .ok (.getfield 34, 3) := by decide +kernel
theorem dX5_readText_37 : decode cX5_readText 37 = .ok (.invokevirtual 38, 3) := by decide +kernel
theorem dX5_readText_40 : decode cX5_readText 40 = .ok (.aload_n 0, 1) := by decide +kernel
theorem dX5_readText_41 : decode cX5_readText 41 = .ok (.invokevirtual 43, 3) := by decide +kernel
theorem dX5_readText_44 : decode cX5_readText 44 = .ok (.aload_n 0, 1) := by decide +kernel
theorem dX5_readText_45 : decode cX5_readText 45 = .ok (.invokevirtual 46, 3) := by decide +kernel
theorem dX5_readText_48 : decode cX5_readText 48 = .ok (.istore_n 3, 1) := by decide +kernel
theorem dX5_readText_49 : decode cX5_readText 49 = .ok (.iconst 0, 1) := by decide +kernel
theorem dX5_readText_50 : decode cX5_readText 50 = .ok (.istore 4, 2) := by decide +kernel
theorem dX5_readText_52 : decode cX5_readText 52 = .ok (.iload 4, 2) := by decide +kernel
theorem dX5_readText_54 : decode cX5_readText 54 = .ok (.sipush 900, 3) := by decide +kernel
theorem dX5_readText_57 : decode cX5_readText 57 = .ok (.if_icmp .ge 55, 3) := by decide +kernel
theorem dX5_readText_60 : decode cX5_readText 60 = .ok (.iload_n 3, 1) := by decide +kernel
theorem dX5_readText_61 : decode cX5_readText 61 = .ok (.ifCond .eq 51, 3) := by decide +kernel
theorem dX5_readText_64 : decode cX5_readText 64 = .ok (.aload_n 0, 1) := by decide +kernel
theorem dX5_readText_65 : decode cX5_readText 65 = .ok (.getfield 50, 3) := by decide +kernel
theorem dX5_readText_68 : decode cX5_readText 68 = .ok (.ifCond .eq 44, 3) := by decide +kernel
theorem dX5_readText_71 : decode cX5_readText 71 = .ok (.aload_n 0, 1) := by decide +kernel
theorem dX5_readText_72 : decode cX5_readText 72 = .ok (.invokevirtual 53, 3) := by decide +kernel
theorem dX5_readText_75 : decode cX5_readText 75 = .ok (.ifCond .eq 16, 3) := by decide +kernel
theorem dX5_readText_78 : decode cX5_readText 78 = .ok (.aload_n 0, 1) := by decide +kernel
theorem dX5_readText_79 : decode cX5_readText 79 = .ok (.ldc 56, 2) := by decide +kernel
theorem dX5_readText_81 : decode cX5_readText 81 = .ok (.invokevirtual 58, 3) := by decide +kernel
theorem dX5_readText_84 : decode cX5_readText 84 = .ok (.ifCond .eq 7, 3) := by decide +kernel
theorem dX5_readText_87 : decode cX5_readText 87 = .ok (.iconst 1, 1) := by decide +kernel
theorem dX5_readText_88 : decode cX5_readText 88 = .ok (.goto 4, 3) := by decide +kernel
theorem dX5_readText_91 : decode cX5_readText 91 = .ok (.iconst 0, 1) := by decide +kernel
theorem dX5_readText_92 : decode cX5_readText 92 = .ok (.istore_n 3, 1) := by decide +kernel
theorem dX5_readText_93 : decode cX5_readText 93 = .ok (.aload_n 0, 1) := by decide +kernel
theorem dX5_readText_94 : decode cX5_readText 94 = .ok (.getfield 34, 3) := by decide +kernel
theorem dX5_readText_97 : decode cX5_readText 97 = .ok (.dup, 1) := by decide +kernel
theorem dX5_readText_98 : decode cX5_readText 98 = .ok (.getfield 62, 3) := by decide +kernel
theorem dX5_readText_101 : decode cX5_readText 101 = .ok (.iconst 1, 1) := by decide +kernel
theorem dX5_readText_102 : decode cX5_readText 102 = .ok (.iadd, 1) := by decide +kernel
theorem dX5_readText_103 : decode cX5_readText 103 = .ok (.putfield 62, 3) := by decide +kernel
theorem dX5_readText_106 : decode cX5_readText 106 = .ok (.iinc 4 1, 3) := by decide +kernel
theorem dX5_readText_109 : decode cX5_readText 109 = .ok (.goto (-57), 3) := by decide +kernel
theorem dX5_readText_112 : decode cX5_readText 112 = .ok (.iload_n 3, 1) := by decide +kernel
theorem dX5_readText_113 : decode cX5_readText 113 = .ok (.ireturn, 1) := by decide +kernel
theorem dX5_readFirstLine_0 : decode cX5_readFirstLine 0 = .ok (.aload_n 0, 1) := by decide +kernel
theorem dX5_readFirstLine_1 : decode cX5_readFirstLine 1 = .ok (.ldc 65, 2) := by decide +kernel
theorem dX5_readFirstLine_3 : decode cX5_readFirstLine 3 = .ok (.invokevirtual 58, 3) := by decide +kernel
theorem dX5_readFirstLine_6 : decode cX5_readFirstLine 6 = .ok (.ifCond .eq 12, 3) := by decide +kernel
theorem dX5_readFirstLine_9 : decode cX5_readFirstLine 9 = .ok (.aload_n 0, 1) := by decide +kernel
theorem dX5_readFirstLine_10 : decode cX5_readFirstLine 10 = .ok (.ldc 66, 2) := by decide +kernel
theorem dX5_readFirstLine_12 : decode cX5_readFirstLine 12 = .ok (.invokevirtual 58, 3) := by decide +kernel
theorem dX5_readFirstLine_15 : decode cX5_readFirstLine 15 = .ok (.ifCond .ne 5, 3) := by decide +kernel
theorem dX5_readFirstLine_18 : decode cX5_readFirstLine 18 = .ok (.iconst 0, 1) := by decide +kernel
theorem dX5_readFirstLine_19 : decode cX5_readFirstLine 19 = .ok (.ireturn, 1) := by decide +kernel
theorem dX5_readFirstLine_20 : decode cX5_readFirstLine 20 = .ok (.aload_n 0, 1) := by decide +kernel
theorem dX5_readFirstLine_21 : decode cX5_readFirstLine 21 = .ok (.iconst 1, 1) := by decide +kernel
theorem dX5_readFirstLine_22 : decode cX5_readFirstLine 22 = .ok (.bipush 8, 2) := by decide +kernel
theorem dX5_readFirstLine_24 : decode cX5_readFirstLine 24 = .ok (.invokevirtual 68, 3) := by decide +kernel
theorem dX5_readFirstLine_27 : decode cX5_readFirstLine 27 = .ok (.istore_n 1, 1) := by decide +kernel
theorem dX5_readFirstLine_28 : decode cX5_readFirstLine 28 = .ok (.iload_n 1, 1) := by decide +kernel
theorem dX5_readFirstLine_29 : decode cX5_readFirstLine 29 = .ok (.iconst (-1), 1) := by decide +kernel
theorem dX5_readFirstLine_30 : decode cX5_readFirstLine 30 = .ok (.if_icmp .eq 12, 3) := by decide +kernel
theorem dX5_readFirstLine_33 : decode cX5_readFirstLine 33 = .ok (.aload_n 0, 1) := by decide +kernel
theorem dX5_readFirstLine_34 : decode cX5_readFirstLine 34 = .ok (.ldc 71, 2) := by decide +kernel
theorem dX5_readFirstLine_36 : decode cX5_readFirstLine 36 = .ok (.invokevirtual 58, 3) := by decide +kernel
theorem dX5_readFirstLine_39 : decode cX5_readFirstLine 39 = .ok (.ifCond .ne 5, 3) := by decide +kernel
theorem dX5_readFirstLine_42 : decode cX5_readFirstLine 42 = .ok (.iconst 0, 1) := by decide +kernel
theorem dX5_readFirstLine_43 : decode cX5_readFirstLine 43 = .ok (.ireturn, 1) := by decide +kernel
theorem dX5_readFirstLine_44 : decode cX5_readFirstLine 44 = .ok (.aload_n 0, 1) := by decide +kernel
theorem dX5_readFirstLine_45 : decode cX5_readFirstLine 45 = .ok (.iconst 0, 1) := by decide +kernel
theorem dX5_readFirstLine_46 : decode cX5_readFirstLine 46 = .ok (.bipush 6, 2) := by decide +kernel
theorem dX5_readFirstLine_48 : decode cX5_readFirstLine 48 = .ok (.invokevirtual 68, 3) := by decide +kernel
theorem dX5_readFirstLine_51 : decode cX5_readFirstLine 51 = .ok (.istore_n 2, 1) := by decide +kernel
theorem dX5_readFirstLine_52 : decode cX5_readFirstLine 52 = .ok (.iload_n 2, 1) := by decide +kernel
theorem dX5_readFirstLine_53 : decode cX5_readFirstLine 53 = .ok (.iconst (-1), 1) := by decide +kernel
theorem dX5_readFirstLine_54 : decode cX5_readFirstLine 54 = .ok (.if_icmp .ne 5, 3) := by decide +kernel
theorem dX5_readFirstLine_57 : decode cX5_readFirstLine 57 = .ok (.iconst 0, 1) := by decide +kernel
theorem dX5_readFirstLine_58 : decode cX5_readFirstLine 58 = .ok (.ireturn, 1) := by decide +kernel
theorem dX5_readFirstLine_59 : decode cX5_readFirstLine 59 = .ok (.aload_n 0, 1) := by decide +kernel
theorem dX5_readFirstLine_60 : decode cX5_readFirstLine 60 = .ok (.getfield 34, 3) := by decide +kernel
theorem dX5_readFirstLine_63 : decode cX5_readFirstLine 63 = .ok (.iload_n 1, 1) := by decide +kernel
theorem dX5_readFirstLine_64 : decode cX5_readFirstLine 64 = .ok (.putfield 73, 3) := by decide +kernel
theorem dX5_readFirstLine_67 : decode cX5_readFirstLine 67 = .ok (.aload_n 0, 1) := by decide +kernel
theorem dX5_readFirstLine_68 : decode cX5_readFirstLine 68 = .ok (.getfield 34, 3) := by decide +kernel
theorem dX5_readFirstLine_71 : decode cX5_readFirstLine 71 = .ok (.iload_n 2, 1) := by decide +kernel
theorem dX5_readFirstLine_72 : decode cX5_readFirstLine 72 = .ok (.putfield 76, 3) := by decide +kernel
theorem dX5_readFirstLine_75 : decode cX5_readFirstLine 75 = .ok (.aload_n 0, 1) := by decide +kernel
theorem dX5_readFirstLine_76 : decode cX5_readFirstLine 76 = .ok (.getfield 34, 3) := by decide +kernel
theorem dX5_readFirstLine_79 : decode cX5_readFirstLine 79 = .ok (.iconst 1, 1) := by decide +kernel
theorem dX5_readFirstLine_80 : decode cX5_readFirstLine 80 = .ok (.putfield 62, 3) := by decide +kernel
theorem dX5_readFirstLine_83 : decode cX5_readFirstLine 83 = .ok (.aload_n 0, 1) := by decide +kernel
theorem dX5_readFirstLine_84 : decode cX5_readFirstLine 84 = .ok (.ldc 56, 2) := by decide +kernel
theorem dX5_readFirstLine_86 : decode cX5_readFirstLine 86 = .ok (.invokevirtual 58, 3) := by decide +kernel
theorem dX5_readFirstLine_89 : decode cX5_readFirstLine 89 = .ok (.ireturn, 1) := by decide +kernel
theorem dX5_readLine_0 : decode cX5_readLine 0 = .ok (.aload_n 0, 1) := by decide +kernel
theorem dX5_readLine_1 : decode cX5_readLine 1 = .ok (.ldc 78, 2) := by decide +kernel
theorem dX5_readLine_3 : decode cX5_readLine 3 = .ok (.invokevirtual 80, 3) := by decide +kernel
theorem dX5_readLine_6 : decode cX5_readLine 6 = .ok (.ifCond .eq 8, 3) := by decide +kernel
theorem dX5_readLine_9 : decode cX5_readLine 9 = .ok (.aload_n 0, 1) := by decide +kernel
theorem dX5_readLine_10 : decode cX5_readLine 10 = .ok (.invokevirtual 83, 3) := by decide +kernel
theorem dX5_readLine_13 : decode cX5_readLine 13 = .ok (.ireturn, 1) := by decide +kernel
theorem dX5_readLine_14 : decode cX5_readLine 14 = .ok (.aload_n 0, 1) := by decide +kernel
theorem dX5_readLine_15 : decode cX5_readLine 15 = .ok (.ldc 86, 2) := by decide +kernel
theorem dX5_readLine_17 : decode cX5_readLine 17 = .ok (.invokevirtual 80, 3) := by decide +kernel
theorem dX5_readLine_20 : decode cX5_readLine 20 = .ok (.ifCond .eq 8, 3) := by decide +kernel
theorem dX5_readLine_23 : decode cX5_readLine 23 = .ok (.aload_n 0, 1) := by decide +kernel
theorem dX5_readLine_24 : decode cX5_readLine 24 = .ok (.invokevirtual 88, 3) := by decide +kernel
theorem dX5_readLine_27 : decode cX5_readLine 27 = .ok (.ireturn, 1) := by decide +kernel
theorem dX5_readLine_28 : decode cX5_readLine 28 = .ok (.aload_n 0, 1) := by decide +kernel
theorem dX5_readLine_29 : decode cX5_readLine 29 = .ok (.ldc 91, 2) := by decide +kernel
theorem dX5_readLine_31 : decode cX5_readLine 31 = .ok (.invokevirtual 80, 3) := by decide +kernel
theorem dX5_readLine_34 : decode cX5_readLine 34 = .ok (.ifCond .eq 34, 3) := by decide +kernel
theorem dX5_readLine_37 : decode cX5_readLine 37 = .ok (.aload_n 0, 1) := by decide +kernel
theorem dX5_readLine_38 : decode cX5_readLine 38 = .ok (.getfield 34, 3) := by decide +kernel
theorem dX5_readLine_41 : decode cX5_readLine 41 = .ok (.aload_n 0, 1) := by decide +kernel
theorem dX5_readLine_42 : decode cX5_readLine 42 = .ok (.iconst 0, 1) := by decide +kernel
theorem dX5_readLine_43 : decode cX5_readLine 43 = .ok (.bipush 9, 2) := by decide +kernel
theorem dX5_readLine_45 : decode cX5_readLine 45 = .ok (.invokevirtual 68, 3) := by decide +kernel
theorem dX5_readLine_48 : decode cX5_readLine 48 = .ok (.putfield 93, 3) := by decide +kernel
theorem dX5_readLine_51 : decode cX5_readLine 51 = .ok (.aload_n 0, 1) := by decide +kernel
theorem dX5_readLine_52 : decode cX5_readLine 52 = .ok (.getfield 34, 3) := by decide +kernel
theorem dX5_readLine_55 : decode cX5_readLine 55 = .ok (.getfield 93, 3) := by decide +kernel
theorem dX5_readLine_58 : decode cX5_readLine 58 = .ok (.iconst (-1), 1) := by decide +kernel
theorem dX5_readLine_59 : decode cX5_readLine 59 = .ok (.if_icmp .eq 7, 3) := by decide +kernel
theorem dX5_readLine_62 : decode cX5_readLine 62 = .ok (.iconst 1, 1) := by decide +kernel
theorem dX5_readLine_63 : decode cX5_readLine 63 = .ok (.goto 4, 3) := by decide +kernel
theorem dX5_readLine_66 : decode cX5_readLine 66 = .ok (.iconst 0, 1) := by decide +kernel
theorem dX5_readLine_67 : decode cX5_readLine 67 = .ok (.ireturn, 1) := by decide +kernel
theorem dX5_readLine_68 : decode cX5_readLine 68 = .ok (.aload_n 0, 1) := by decide +kernel
theorem dX5_readLine_69 : decode cX5_readLine 69 = .ok (.ldc 96, 2) := by decide +kernel
theorem dX5_readLine_71 : decode cX5_readLine 71 = .ok (.invokevirtual 80, 3) := by decide +kernel
theorem dX5_readLine_74 : decode cX5_readLine 74 = .ok (.ifCond .eq 34, 3) := by decide +kernel
theorem dX5_readLine_77 : decode cX5_readLine 77 = .ok (.aload_n 0, 1) := by decide +kernel
theorem dX5_readLine_78 : decode cX5_readLine 78 = .ok (.getfield 34, 3) := by decide +kernel
theorem dX5_readLine_81 : decode cX5_readLine 81 = .ok (.aload_n 0, 1) := by decide +kernel
theorem dX5_readLine_82 : decode cX5_readLine 82 = .ok (.iconst 0, 1) := by decide +kernel
theorem dX5_readLine_83 : decode cX5_readLine 83 = .ok (.bipush 10, 2) := by decide +kernel
theorem dX5_readLine_85 : decode cX5_readLine 85 = .ok (.invokevirtual 68, 3) := by decide +kernel
theorem dX5_readLine_88 : decode cX5_readLine 88 = .ok (.putfield 98, 3) := by decide +kernel
theorem dX5_readLine_91 : decode cX5_readLine 91 = .ok (.aload_n 0, 1) := by decide +kernel
theorem dX5_readLine_92 : decode cX5_readLine 92 = .ok (.getfield 34, 3) := by decide +kernel
theorem dX5_readLine_95 : decode cX5_readLine 95 = .ok (.getfield 98, 3) := by decide +kernel
theorem dX5_readLine_98 : decode cX5_readLine 98 = .ok (.iconst (-1), 1) := by decide +kernel
theorem dX5_readLine_99 : decode cX5_readLine 99 = .ok (.if_icmp .eq 7, 3) := by decide +kernel
theorem dX5_readLine_102 : decode cX5_readLine 102 = .ok (.iconst 1, 1) := by decide +kernel
theorem dX5_readLine_103 : decode cX5_readLine 103 = .ok (.goto 4, 3) := by decide +kernel
theorem dX5_readLine_106 : decode cX5_readLine 106 = .ok (.iconst 0, 1) := by decide +kernel
theorem dX5_readLine_107 : decode cX5_readLine 107 = .ok (.ireturn, 1) := by decide +kernel
theorem dX5_readLine_108 : decode cX5_readLine 108 = .ok (.aload_n 0, 1) := by decide +kernel
theorem dX5_readLine_109 : decode cX5_readLine 109 = .ok (.ldc 100, 2) := by decide +kernel
theorem dX5_readLine_111 : decode cX5_readLine 111 = .ok (.invokevirtual 80, 3) := by decide +kernel
theorem dX5_readLine_114 : decode cX5_readLine 114 = .ok (.ifCond .eq 25, 3) := by decide +kernel
theorem dX5_readLine_117 : decode cX5_readLine 117 = .ok (.aload_n 0, 1) := by decide +kernel
theorem dX5_readLine_118 : decode cX5_readLine 118 = .ok (.ldc 102, 2) := by decide +kernel
theorem dX5_readLine_120 : decode cX5_readLine 120 = .ok (.invokevirtual 58, 3) := by decide +kernel
theorem dX5_readLine_123 : decode cX5_readLine 123 = .ok (.ifCond .eq 14, 3) := by decide +kernel
theorem dX5_readLine_126 : decode cX5_readLine 126 = .ok (.aload_n 0, 1) := by decide +kernel
theorem dX5_readLine_127 : decode cX5_readLine 127 = .ok (.invokevirtual 104, 3) := by decide +kernel
theorem dX5_readLine_130 : decode cX5_readLine 130 = .ok (.ifCond .eq 7, 3) := by decide +kernel
theorem dX5_readLine_133 : decode cX5_readLine 133 = .ok (.iconst 1, 1) := by decide +kernel
theorem dX5_readLine_134 : decode cX5_readLine 134 = .ok (.goto 4, 3) := by decide +kernel
theorem dX5_readLine_137 : decode cX5_readLine 137 = .ok (.iconst 0, 1) := by decide +kernel
theorem dX5_readLine_138 : decode cX5_readLine 138 = .ok (.ireturn, 1) := by decide +kernel
theorem dX5_readLine_139 : decode cX5_readLine 139 = .ok (.aload_n 0, 1) := by decide +kernel
theorem dX5_readLine_140 : decode cX5_readLine 140 = .ok (.ldc 107, 2) := by decide +kernel
theorem dX5_readLine_142 : decode cX5_readLine 142 = .ok (.invokevirtual 80, 3) := by decide +kernel
theorem dX5_readLine_145 : decode cX5_readLine 145 = .ok (.ifCond .eq 25, 3) := by decide +kernel
theorem dX5_readLine_148 : decode cX5_readLine 148 = .ok (.aload_n 0, 1) := by decide +kernel
theorem dX5_readLine_149 : decode cX5_readLine 149 = .ok (.ldc 102, 2) := by decide +kernel
theorem dX5_readLine_151 : decode cX5_readLine 151 = .ok (.invokevirtual 58, 3) := by decide +kernel
theorem dX5_readLine_154 : decode cX5_readLine 154 = .ok (.ifCond .eq 14, 3) := by decide +kernel
theorem dX5_readLine_157 : decode cX5_readLine 157 = .ok (.aload_n 0, 1) := by decide +kernel
theorem dX5_readLine_158 : decode cX5_readLine 158 = .ok (.invokevirtual 109, 3) := by decide +kernel
theorem dX5_readLine_161 : decode cX5_readLine 161 = .ok (.ifCond .eq 7, 3) := by decide +kernel
theorem dX5_readLine_164 : decode cX5_readLine 164 = .ok (.iconst 1, 1) := by decide +kernel
theorem dX5_readLine_165 : decode cX5_readLine 165 = .ok (.goto 4, 3) := by decide +kernel
theorem dX5_readLine_168 : decode cX5_readLine 168 = .ok (.iconst 0, 1) := by decide +kernel
theorem dX5_readLine_169 : decode cX5_readLine 169 = .ok (.ireturn, 1) := by decide +kernel
theorem dX5_readLine_170 : decode cX5_readLine 170 = .ok (.aload_n 0, 1) := by decide +kernel
theorem dX5_readLine_171 : decode cX5_readLine 171 = .ok (.invokevirtual 112, 3) := by decide +kernel
theorem dX5_readLine_174 : decode cX5_readLine 174 = .ok (.ireturn, 1) := by decide +kernel
theorem dX5_readHole_0 : decode cX5_readHole 0 = .ok (.aload_n 0, 1) := by decide +kernel
theorem dX5_readHole_1 : decode cX5_readHole 1 = .ok (.iconst 0, 1) := by decide +kernel
theorem dX5_readHole_2 : decode cX5_readHole 2 = .ok (.aload_n 0, 1) := by decide +kernel
theorem dX5_readHole_3 : decode cX5_readHole 3 = .ok (.getfield 34, 3) := by decide +kernel
theorem dX5_readHole_6 : decode cX5_readHole 6 = .ok (.getfield 73, 3) := by decide +kernel
theorem dX5_readHole_9 : decode cX5_readHole 9 = .ok (.invokevirtual 68, 3) := by decide +kernel
theorem dX5_readHole_12 : decode cX5_readHole 12 = .ok (.istore_n 1, 1) := by decide +kernel
theorem dX5_readHole_13 : decode cX5_readHole 13 = .ok (.iload_n 1, 1) := by decide +kernel
theorem dX5_readHole_14 : decode cX5_readHole 14 = .ok (.iconst (-1), 1) := by decide +kernel
theorem dX5_readHole_15 : decode cX5_readHole 15 = .ok (.if_icmp .eq 7, 3) := by decide +kernel
theorem dX5_readHole_18 : decode cX5_readHole 18 = .ok (.iconst 1, 1) := by decide +kernel
theorem dX5_readHole_19 : decode cX5_readHole 19 = .ok (.goto 4, 3) := by decide +kernel
theorem dX5_readHole_22 : decode cX5_readHole 22 = .ok (.iconst 0, 1) := by decide +kernel
theorem dX5_readHole_23 : decode cX5_readHole 23 = .ok (.istore_n 2, 1) := by decide +kernel
theorem dX5_readHole_24 : decode cX5_readHole 24 = .ok (.iconst 0, 1) := by decide +kernel
theorem dX5_readHole_25 : decode cX5_readHole 25 = .ok (.istore_n 3, 1) := by decide +kernel
theorem dX5_readHole_26 : decode cX5_readHole 26 = .ok (.iload_n 3, 1) := by decide +kernel
theorem dX5_readHole_27 : decode cX5_readHole 27 = .ok (.sipush 900, 3) := by decide +kernel
theorem dX5_readHole_30 : decode cX5_readHole 30 = .ok (.if_icmp .ge 170, 3) := by decide +kernel
theorem dX5_readHole_33 : decode cX5_readHole 33 = .ok (.iload_n 2, 1) := by decide +kernel
theorem dX5_readHole_34 : decode cX5_readHole 34 = .ok (.ifCond .eq 166, 3) := by decide +kernel
theorem dX5_readHole_37 : decode cX5_readHole 37 = .ok (.aload_n 0, 1) := by decide +kernel
theorem dX5_readHole_38 : decode cX5_readHole 38 = .ok (.ldc 115, 2) := by decide +kernel
theorem dX5_readHole_40 : decode cX5_readHole 40 = .ok (.invokevirtual 80, 3) := by decide +kernel
theorem dX5_readHole_43 : decode cX5_readHole 43 = .ok (.ifCond .eq 48, 3) := by decide +kernel
theorem dX5_readHole_46 : decode cX5_readHole 46 = .ok (.aload_n 0, 1) := by decide +kernel
theorem dX5_readHole_47 : decode cX5_readHole 47 = .ok (.invokevirtual 117, 3) := by decide +kernel
theorem dX5_readHole_50 : decode cX5_readHole 50 = .ok (.istore 4, 2) := by decide +kernel
theorem dX5_readHole_52 : decode cX5_readHole 52 = .ok (.iload 4, 2) := by decide +kernel
theorem dX5_readHole_54 : decode cX5_readHole 54 = .ok (.iconst (-1), 1) := by decide +kernel
theorem dX5_readHole_55 : decode cX5_readHole 55 = .ok (.if_icmp .eq 7, 3) := by decide +kernel
theorem dX5_readHole_58 : decode cX5_readHole 58 = .ok (.iconst 1, 1) := by decide +kernel
theorem dX5_readHole_59 : decode cX5_readHole 59 = .ok (.goto 4, 3) := by decide +kernel
theorem dX5_readHole_62 : decode cX5_readHole 62 = .ok (.iconst 0, 1) := by decide +kernel
theorem dX5_readHole_63 : decode cX5_readHole 63 = .ok (.istore_n 2, 1) := by decide +kernel
theorem dX5_readHole_64 : decode cX5_readHole 64 = .ok (.aload_n 0, 1) := by decide +kernel
theorem dX5_readHole_65 : decode cX5_readHole 65 = .ok (.getfield 34, 3) := by decide +kernel
theorem dX5_readHole_68 : decode cX5_readHole 68 = .ok (.getfield 121, 3) := by decide +kernel
theorem dX5_readHole_71 : decode cX5_readHole 71 = .ok (.iload_n 1, 1) := by decide +kernel
theorem dX5_readHole_72 : decode cX5_readHole 72 = .ok (.dup2, 1) := by decide +kernel
theorem dX5_readHole_73 : decode cX5_readHole 73 = .ok (.iaload, 1) := by decide +kernel
theorem dX5_readHole_74 : decode cX5_readHole 74 = .ok (.iload_n 2, 1) := by decide +kernel
theorem dX5_readHole_75 : decode cX5_readHole 75 = .ok (.ifCond .eq 10, 3) := by decide +kernel
theorem dX5_readHole_78 : decode cX5_readHole 78 = .ok (.iconst 1, 1) := by decide +kernel
theorem dX5_readHole_79 : decode cX5_readHole 79 = .ok (.iload 4, 2) := by decide +kernel
theorem dX5_readHole_81 : decode cX5_readHole 81 = .ok (.ishl, 1) := by decide +kernel
theorem dX5_readHole_82 : decode cX5_readHole 82 = .ok (.goto 4, 3) := by decide +kernel
theorem dX5_readHole_85 : decode cX5_readHole 85 = .ok (.iconst 0, 1) := by decide +kernel
theorem dX5_readHole_86 : decode cX5_readHole 86 = .ok (.ior, 1) := by decide +kernel
theorem dX5_readHole_87 : decode cX5_readHole 87 = .ok (.iastore, 1) := by decide +kernel
theorem dX5_readHole_88 : decode cX5_readHole 88 = .ok (.goto 106, 3) := by decide +kernel
theorem dX5_readHole_91 : decode cX5_readHole 91 = .ok (.aload_n 0, 1) := by decide +kernel
theorem dX5_readHole_92 : decode cX5_readHole 92 = .ok (.ldc 123, 2) := by decide +kernel
theorem dX5_readHole_94 : decode cX5_readHole 94 = .ok (.invokevirtual 80, 3) := by decide +kernel
theorem dX5_readHole_97 : decode cX5_readHole 97 = .ok (.ifCond .eq 48, 3) := by decide +kernel
theorem dX5_readHole_100 : decode cX5_readHole 100 = .ok (.aload_n 0, 1) := by decide +kernel
theorem dX5_readHole_101 : decode cX5_readHole 101 = .ok (.invokevirtual 117, 3) := by decide +kernel
theorem dX5_readHole_104 : decode cX5_readHole 104 = .ok (.istore 4, 2) := by decide +kernel
theorem dX5_readHole_106 : decode cX5_readHole 106 = .ok (.iload 4, 2) := by decide +kernel
theorem dX5_readHole_108 : decode cX5_readHole 108 = .ok (.iconst (-1), 1) := by decide +kernel
theorem dX5_readHole_109 : decode cX5_readHole 109 = .ok (.if_icmp .eq 7, 3) := by decide +kernel
theorem dX5_readHole_112 : decode cX5_readHole 112 = .ok (.iconst 1, 1) := by decide +kernel
theorem dX5_readHole_113 : decode cX5_readHole 113 = .ok (.goto 4, 3) := by decide +kernel
theorem dX5_readHole_116 : decode cX5_readHole 116 = .ok (.iconst 0, 1) := by decide +kernel
theorem dX5_readHole_117 : decode cX5_readHole 117 = .ok (.istore_n 2, 1) := by decide +kernel
theorem dX5_readHole_118 : decode cX5_readHole 118 = .ok (.aload_n 0, 1) := by decide +kernel
theorem dX5_readHole_119 : decode cX5_readHole 119 = .ok (.getfield 34, 3) := by decide +kernel
theorem dX5_readHole_122 : decode cX5_readHole 122 = .ok (.getfield 125, 3) := by decide +kernel
theorem dX5_readHole_125 : decode cX5_readHole 125 = .ok (.iload_n 1, 1) := by decide +kernel
theorem dX5_readHole_126 : decode cX5_readHole 126 = .ok (.dup2, 1) := by decide +kernel
theorem dX5_readHole_127 : decode cX5_readHole 127 = .ok (.iaload, 1) := by decide +kernel
theorem dX5_readHole_128 : decode cX5_readHole 128 = .ok (.iload_n 2, 1) := by decide +kernel
theorem dX5_readHole_129 : decode cX5_readHole 129 = .ok (.ifCond .eq 10, 3) := by decide +kernel
theorem dX5_readHole_132 : decode cX5_readHole 132 = .ok (.iconst 1, 1) := by decide +kernel
theorem dX5_readHole_133 : decode cX5_readHole 133 = .ok (.iload 4, 2) := by decide +kernel
theorem dX5_readHole_135 : decode cX5_readHole 135 = .ok (.ishl, 1) := by decide +kernel
theorem dX5_readHole_136 : decode cX5_readHole 136 = .ok (.goto 4, 3) := by decide +kernel
theorem dX5_readHole_139 : decode cX5_readHole 139 = .ok (.iconst 0, 1) := by decide +kernel
theorem dX5_readHole_140 : decode cX5_readHole 140 = .ok (.ior, 1) := by decide +kernel
theorem dX5_readHole_141 : decode cX5_readHole 141 = .ok (.iastore, 1) := by decide +kernel
theorem dX5_readHole_142 : decode cX5_readHole 142 = .ok (.goto 52, 3) := by decide +kernel
theorem dX5_readHole_145 : decode cX5_readHole 145 = .ok (.aload_n 0, 1) := by decide +kernel
theorem dX5_readHole_146 : decode cX5_readHole 146 = .ok (.ldc 127, 2) := by decide +kernel
theorem dX5_readHole_148 : decode cX5_readHole 148 = .ok (.invokevirtual 80, 3) := by decide +kernel
theorem dX5_readHole_151 : decode cX5_readHole 151 = .ok (.ifCond .eq 41, 3) := by decide +kernel
theorem dX5_readHole_154 : decode cX5_readHole 154 = .ok (.aload_n 0, 1) := by decide +kernel
theorem dX5_readHole_155 : decode cX5_readHole 155 = .ok (.getfield 34, 3) := by decide +kernel
theorem dX5_readHole_158 : decode cX5_readHole 158 = .ok (.getfield 129, 3) := by decide +kernel
theorem dX5_readHole_161 : decode cX5_readHole 161 = .ok (.iload_n 1, 1) := by decide +kernel
theorem dX5_readHole_162 : decode cX5_readHole 162 = .ok (.aload_n 0, 1) := by decide +kernel
theorem dX5_readHole_163 : decode cX5_readHole 163 = .ok (.iconst 0, 1) := by decide +kernel
theorem dX5_readHole_164 : decode cX5_readHole 164 = .ok (.bipush 9, 2) := by decide +kernel
theorem dX5_readHole_166 : decode cX5_readHole 166 = .ok (.invokevirtual 68, 3) := by decide +kernel
theorem dX5_readHole_169 : decode cX5_readHole 169 = .ok (.iastore, 1) := by decide +kernel
theorem dX5_readHole_170 : decode cX5_readHole 170 = .ok (.aload_n 0, 1) := by decide +kernel
theorem dX5_readHole_171 : decode cX5_readHole 171 = .ok (.getfield 34, 3) := by decide +kernel
theorem dX5_readHole_174 : decode cX5_readHole 174 = .ok (.getfield 129, 3) := by decide +kernel
theorem dX5_readHole_177 : decode cX5_readHole 177 = .ok (.iload_n 1, 1) := by decide +kernel
theorem dX5_readHole_178 : decode cX5_readHole 178 = .ok (.iaload, 1) := by decide +kernel
theorem dX5_readHole_179 : decode cX5_readHole 179 = .ok (.iconst (-1), 1) := by decide +kernel
theorem dX5_readHole_180 : decode cX5_readHole 180 = .ok (.if_icmp .eq 7, 3) := by decide +kernel
theorem dX5_readHole_183 : decode cX5_readHole 183 = .ok (.iconst 1, 1) := by decide +kernel
theorem dX5_readHole_184 : decode cX5_readHole 184 = .ok (.goto 4, 3) := by decide +kernel
theorem dX5_readHole_187 : decode cX5_readHole 187 = .ok (.iconst 0, 1) := by decide +kernel
theorem dX5_readHole_188 : decode cX5_readHole 188 = .ok (.istore_n 2, 1) := by decide +kernel
theorem dX5_readHole_189 : decode cX5_readHole 189 = .ok (.goto 5, 3) := by decide +kernel
theorem dX5_readHole_192 : decode cX5_readHole 192 = .ok (.iconst 1, 1) := by decide +kernel
theorem dX5_readHole_193 : decode cX5_readHole 193 = .ok (.ireturn, 1) := by decide +kernel
theorem dX5_readHole_194 : decode cX5_readHole 194 = .ok (.iinc 3 1, 3) := by decide +kernel
theorem dX5_readHole_197 : decode cX5_readHole 197 = .ok (.goto (-171), 3) := by decide +kernel
theorem dX5_readHole_200 : decode cX5_readHole 200 = .ok (.iload_n 2, 1) := by decide +kernel
theorem dX5_readHole_201 : decode cX5_readHole 201 = .ok (.ireturn, 1) := by decide +kernel
theorem dX5_readPilgrim_0 : decode cX5_readPilgrim 0 = .ok (.aload_n 0, 1) := by decide +kernel
theorem dX5_readPilgrim_1 : decode cX5_readPilgrim 1 = .ok (.ldc 131, 2) := by decide +kernel
theorem dX5_readPilgrim_3 : decode cX5_readPilgrim 3 = .ok (.invokevirtual 58, 3) := by decide +kernel
theorem dX5_readPilgrim_6 : decode cX5_readPilgrim 6 = .ok (.ifCond .ne 5, 3) := by decide +kernel
theorem dX5_readPilgrim_9 : decode cX5_readPilgrim 9 = .ok (.iconst 0, 1) := by decide +kernel
theorem dX5_readPilgrim_10 : decode cX5_readPilgrim 10 = .ok (.ireturn, 1) := by decide +kernel
theorem dX5_readPilgrim_11 : decode cX5_readPilgrim 11 = .ok (.aload_n 0, 1) := by decide +kernel
theorem dX5_readPilgrim_12 : decode cX5_readPilgrim 12 = .ok (.getfield 34, 3) := by decide +kernel
theorem dX5_readPilgrim_15 : decode cX5_readPilgrim 15 = .ok (.aload_n 0, 1) := by decide +kernel
theorem dX5_readPilgrim_16 : decode cX5_readPilgrim 16 = .ok (.iconst 0, 1) := by decide +kernel
theorem dX5_readPilgrim_17 : decode cX5_readPilgrim 17 = .ok (.aload_n 0, 1) := by decide +kernel
theorem dX5_readPilgrim_18 : decode cX5_readPilgrim 18 = .ok (.getfield 34, 3) := by decide +kernel
theorem dX5_readPilgrim_21 : decode cX5_readPilgrim 21 = .ok (.getfield 73, 3) := by decide +kernel
theorem dX5_readPilgrim_24 : decode cX5_readPilgrim 24 = .ok (.invokevirtual 68, 3) := by decide +kernel
theorem dX5_readPilgrim_27 : decode cX5_readPilgrim 27 = .ok (.putfield 133, 3) := by decide +kernel
theorem dX5_readPilgrim_30 : decode cX5_readPilgrim 30 = .ok (.aload_n 0, 1) := by decide +kernel
theorem dX5_readPilgrim_31 : decode cX5_readPilgrim 31 = .ok (.getfield 34, 3) := by decide +kernel
theorem dX5_readPilgrim_34 : decode cX5_readPilgrim 34 = .ok (.getfield 133, 3) := by decide +kernel
theorem dX5_readPilgrim_37 : decode cX5_readPilgrim 37 = .ok (.iconst (-1), 1) := by decide +kernel
theorem dX5_readPilgrim_38 : decode cX5_readPilgrim 38 = .ok (.if_icmp .eq 12, 3) := by decide +kernel
theorem dX5_readPilgrim_41 : decode cX5_readPilgrim 41 = .ok (.aload_n 0, 1) := by decide +kernel
theorem dX5_readPilgrim_42 : decode cX5_readPilgrim 42 = .ok (.ldc 136, 2) := by decide +kernel
theorem dX5_readPilgrim_44 : decode cX5_readPilgrim 44 = .ok (.invokevirtual 58, 3) := by decide +kernel
theorem dX5_readPilgrim_47 : decode cX5_readPilgrim 47 = .ok (.ifCond .ne 5, 3) := by decide +kernel
theorem dX5_readPilgrim_50 : decode cX5_readPilgrim 50 = .ok (.iconst 0, 1) := by decide +kernel
theorem dX5_readPilgrim_51 : decode cX5_readPilgrim 51 = .ok (.ireturn, 1) := by decide +kernel
theorem dX5_readPilgrim_52 : decode cX5_readPilgrim 52 = .ok (.aload_n 0, 1) := by decide +kernel
theorem dX5_readPilgrim_53 : decode cX5_readPilgrim 53 = .ok (.getfield 34, 3) := by decide +kernel
theorem dX5_readPilgrim_56 : decode cX5_readPilgrim 56 = .ok (.aload_n 0, 1) := by decide +kernel
theorem dX5_readPilgrim_57 : decode cX5_readPilgrim 57 = .ok (.iconst 0, 1) := by decide +kernel
theorem dX5_readPilgrim_58 : decode cX5_readPilgrim 58 = .ok (.iconst 4, 1) := by decide +kernel
theorem dX5_readPilgrim_59 : decode cX5_readPilgrim 59 = .ok (.invokevirtual 68, 3) := by decide +kernel
theorem dX5_readPilgrim_62 : decode cX5_readPilgrim 62 = .ok (.putfield 138, 3) := by decide +kernel
theorem dX5_readPilgrim_65 : decode cX5_readPilgrim 65 = .ok (.aload_n 0, 1) := by decide +kernel
theorem dX5_readPilgrim_66 : decode cX5_readPilgrim 66 = .ok (.getfield 34, 3) := by decide +kernel
theorem dX5_readPilgrim_69 : decode cX5_readPilgrim 69 = .ok (.iconst 0, 1) := by decide +kernel
theorem dX5_readPilgrim_70 : decode cX5_readPilgrim 70 = .ok (.putfield 141, 3) := by decide +kernel
theorem dX5_readPilgrim_73 : decode cX5_readPilgrim 73 = .ok (.aload_n 0, 1) := by decide +kernel
theorem dX5_readPilgrim_74 : decode cX5_readPilgrim 74 = .ok (.getfield 34, 3) := by decide +kernel
theorem dX5_readPilgrim_77 : decode cX5_readPilgrim 77 = .ok (.getfield 138, 3) := by decide +kernel
theorem dX5_readPilgrim_80 : decode cX5_readPilgrim 80 = .ok (.iconst (-1), 1) := by decide +kernel
theorem dX5_readPilgrim_81 : decode cX5_readPilgrim 81 = .ok (.if_icmp .eq 7, 3) := by decide +kernel
theorem dX5_readPilgrim_84 : decode cX5_readPilgrim 84 = .ok (.iconst 1, 1) := by decide +kernel
theorem dX5_readPilgrim_85 : decode cX5_readPilgrim 85 = .ok (.goto 4, 3) := by decide +kernel
theorem dX5_readPilgrim_88 : decode cX5_readPilgrim 88 = .ok (.iconst 0, 1) := by decide +kernel
theorem dX5_readPilgrim_89 : decode cX5_readPilgrim 89 = .ok (.istore_n 1, 1) := by decide +kernel
theorem dX5_readPilgrim_90 : decode cX5_readPilgrim 90 = .ok (.iconst 0, 1) := by decide +kernel
theorem dX5_readPilgrim_91 : decode cX5_readPilgrim 91 = .ok (.istore_n 2, 1) := by decide +kernel
theorem dX5_readPilgrim_92 : decode cX5_readPilgrim 92 = .ok (.iload_n 2, 1) := by decide +kernel
theorem dX5_readPilgrim_93 : decode cX5_readPilgrim 93 = .ok (.sipush 900, 3) := by decide +kernel
theorem dX5_readPilgrim_96 : decode cX5_readPilgrim 96 = .ok (.if_icmp .ge 61, 3) := by decide +kernel
theorem dX5_readPilgrim_99 : decode cX5_readPilgrim 99 = .ok (.iload_n 1, 1) := by decide +kernel
theorem dX5_readPilgrim_100 : decode cX5_readPilgrim 100 = .ok (.ifCond .eq 57, 3) := by decide +kernel
theorem dX5_readPilgrim_103 : decode cX5_readPilgrim 103 = .ok (.aload_n 0, 1) := by decide +kernel
theorem dX5_readPilgrim_104 : decode cX5_readPilgrim 104 = .ok (.ldc 144, 2) := by decide +kernel
theorem dX5_readPilgrim_106 : decode cX5_readPilgrim 106 = .ok (.invokevirtual 80, 3) := by decide +kernel
theorem dX5_readPilgrim_109 : decode cX5_readPilgrim 109 = .ok (.ifCond .eq 48, 3) := by decide +kernel
theorem dX5_readPilgrim_112 : decode cX5_readPilgrim 112 = .ok (.aload_n 0, 1) := by decide +kernel
theorem dX5_readPilgrim_113 : decode cX5_readPilgrim 113 = .ok (.invokevirtual 117, 3) := by decide +kernel
theorem dX5_readPilgrim_116 : decode cX5_readPilgrim 116 = .ok (.istore_n 3, 1) := by decide +kernel
theorem dX5_readPilgrim_117 : decode cX5_readPilgrim 117 = .ok (.iload_n 3, 1) := by decide +kernel
theorem dX5_readPilgrim_118 : decode cX5_readPilgrim 118 = .ok (.iconst (-1), 1) := by decide +kernel
theorem dX5_readPilgrim_119 : decode cX5_readPilgrim 119 = .ok (.if_icmp .eq 7, 3) := by decide +kernel
theorem dX5_readPilgrim_122 : decode cX5_readPilgrim 122 = .ok (.iconst 1, 1) := by decide +kernel
theorem dX5_readPilgrim_123 : decode cX5_readPilgrim 123 = .ok (.goto 4, 3) := by decide +kernel
theorem dX5_readPilgrim_126 : decode cX5_readPilgrim 126 = .ok (.iconst 0, 1) := by decide +kernel
theorem dX5_readPilgrim_127 : decode cX5_readPilgrim 127 = .ok (.istore_n 1, 1) := by decide +kernel
theorem dX5_readPilgrim_128 : decode cX5_readPilgrim 128 = .ok (.aload_n 0, 1) := by decide +kernel
theorem dX5_readPilgrim_129 : decode cX5_readPilgrim 129 = .ok (.getfield 34, 3) := by decide +kernel
theorem dX5_readPilgrim_132 : decode cX5_readPilgrim 132 = .ok (.dup, 1) := by decide +kernel
theorem dX5_readPilgrim_133 : decode cX5_readPilgrim 133 = .ok (.getfield 141, 3) := by decide +kernel
theorem dX5_readPilgrim_136 : decode cX5_readPilgrim 136 = .ok (.iload_n 1, 1) := by decide +kernel
theorem dX5_readPilgrim_137 : decode cX5_readPilgrim 137 = .ok (.ifCond .eq 9, 3) := by decide +kernel
theorem dX5_readPilgrim_140 : decode cX5_readPilgrim 140 = .ok (.iconst 1, 1) := by decide +kernel
theorem dX5_readPilgrim_141 : decode cX5_readPilgrim 141 = .ok (.iload_n 3, 1) := by decide +kernel
theorem dX5_readPilgrim_142 : decode cX5_readPilgrim 142 = .ok (.ishl, 1) := by decide +kernel
theorem dX5_readPilgrim_143 : decode cX5_readPilgrim 143 = .ok (.goto 4, 3) := by decide +kernel
theorem dX5_readPilgrim_146 : decode cX5_readPilgrim 146 = .ok (.iconst 0, 1) := by decide +kernel
theorem dX5_readPilgrim_147 : decode cX5_readPilgrim 147 = .ok (.ior, 1) := by decide +kernel
theorem dX5_readPilgrim_148 : decode cX5_readPilgrim 148 = .ok (.putfield 141, 3) := by decide +kernel
theorem dX5_readPilgrim_151 : decode cX5_readPilgrim 151 = .ok (.iinc 2 1, 3) := by decide +kernel
theorem dX5_readPilgrim_154 : decode cX5_readPilgrim 154 = .ok (.goto (-62), 3) := by decide +kernel
theorem dX5_readPilgrim_157 : decode cX5_readPilgrim 157 = .ok (.iload_n 1, 1) := by decide +kernel
theorem dX5_readPilgrim_158 : decode cX5_readPilgrim 158 = .ok (.ireturn, 1) := by decide +kernel
theorem dX5_readTires_0 : decode cX5_readTires 0 = .ok (.aload_n 0, 1) := by decide +kernel
theorem dX5_readTires_1 : decode cX5_readTires 1 = .ok (.iconst 0, 1) := by decide +kernel
theorem dX5_readTires_2 : decode cX5_readTires 2 = .ok (.putfield 146, 3) := by decide +kernel
theorem dX5_readTires_5 : decode cX5_readTires 5 = .ok (.aload_n 0, 1) := by decide +kernel
theorem dX5_readTires_6 : decode cX5_readTires 6 = .ok (.getfield 34, 3) := by decide +kernel
theorem dX5_readTires_9 : decode cX5_readTires 9 = .ok (.getfield 150, 3) := by decide +kernel
theorem dX5_readTires_12 : decode cX5_readTires 12 = .ok (.istore_n 1, 1) := by decide +kernel
theorem dX5_readTires_13 : decode cX5_readTires 13 = .ok (.aload_n 0, 1) := by decide +kernel
theorem dX5_readTires_14 : decode cX5_readTires 14 = .ok (.iconst 0, 1) := by decide +kernel
theorem dX5_readTires_15 : decode cX5_readTires 15 = .ok (.invokevirtual 153, 3) := by decide +kernel
theorem dX5_readTires_18 : decode cX5_readTires 18 = .ok (.istore_n 2, 1) := by decide +kernel
theorem dX5_readTires_19 : decode cX5_readTires 19 = .ok (.aload_n 0, 1) := by decide +kernel
theorem dX5_readTires_20 : decode cX5_readTires 20 = .ok (.getfield 34, 3) := by decide +kernel
theorem dX5_readTires_23 : decode cX5_readTires 23 = .ok (.iload_n 1, 1) := by decide +kernel
theorem dX5_readTires_24 : decode cX5_readTires 24 = .ok (.putfield 157, 3) := by decide +kernel
theorem dX5_readTires_27 : decode cX5_readTires 27 = .ok (.aload_n 0, 1) := by decide +kernel
theorem dX5_readTires_28 : decode cX5_readTires 28 = .ok (.getfield 34, 3) := by decide +kernel
theorem dX5_readTires_31 : decode cX5_readTires 31 = .ok (.aload_n 0, 1) := by decide +kernel
theorem dX5_readTires_32 : decode cX5_readTires 32 = .ok (.getfield 34, 3) := by decide +kernel
theorem dX5_readTires_35 : decode cX5_readTires 35 = .ok (.getfield 150, 3) := by decide +kernel
theorem dX5_readTires_38 : decode cX5_readTires 38 = .ok (.putfield 160, 3) := by decide +kernel
theorem dX5_readTires_41 : decode cX5_readTires 41 = .ok (.iload_n 2, 1) := by decide +kernel
theorem dX5_readTires_42 : decode cX5_readTires 42 = .ok (.ireturn, 1) := by decide +kernel
theorem dX5_readMay_0 : decode cX5_readMay 0 = .ok (.aload_n 0, 1) := by decide +kernel
theorem dX5_readMay_1 : decode cX5_readMay 1 = .ok (.iconst 1, 1) := by decide +kernel
theorem dX5_readMay_2 : decode cX5_readMay 2 = .ok (.putfield 146, 3) := by decide +kernel
theorem dX5_readMay_5 : decode cX5_readMay 5 = .ok (.aload_n 0, 1) := by decide +kernel
theorem dX5_readMay_6 : decode cX5_readMay 6 = .ok (.getfield 34, 3) := by decide +kernel
theorem dX5_readMay_9 : decode cX5_readMay 9 = .ok (.getfield 150, 3) := by decide +kernel
theorem dX5_readMay_12 : decode cX5_readMay 12 = .ok (.istore_n 1, 1) := by decide +kernel
theorem dX5_readMay_13 : decode cX5_readMay 13 = .ok (.aload_n 0, 1) := by decide +kernel
theorem dX5_readMay_14 : decode cX5_readMay 14 = .ok (.iconst 0, 1) := by decide +kernel
theorem dX5_readMay_15 : decode cX5_readMay 15 = .ok (.invokevirtual 163, 3) := by decide +kernel
theorem dX5_readMay_18 : decode cX5_readMay 18 = .ok (.istore_n 2, 1) := by decide +kernel
theorem dX5_readMay_19 : decode cX5_readMay 19 = .ok (.aload_n 0, 1) := by decide +kernel
theorem dX5_readMay_20 : decode cX5_readMay 20 = .ok (.getfield 34, 3) := by decide +kernel
theorem dX5_readMay_23 : decode cX5_readMay 23 = .ok (.iload_n 1, 1) := by decide +kernel
theorem dX5_readMay_24 : decode cX5_readMay 24 = .ok (.putfield 166, 3) := by decide +kernel
theorem dX5_readMay_27 : decode cX5_readMay 27 = .ok (.aload_n 0, 1) := by decide +kernel
theorem dX5_readMay_28 : decode cX5_readMay 28 = .ok (.getfield 34, 3) := by decide +kernel
theorem dX5_readMay_31 : decode cX5_readMay 31 = .ok (.aload_n 0, 1) := by decide +kernel
theorem dX5_readMay_32 : decode cX5_readMay 32 = .ok (.getfield 34, 3) := by decide +kernel
theorem dX5_readMay_35 : decode cX5_readMay 35 = .ok (.getfield 150, 3) := by decide +kernel
theorem dX5_readMay_38 : decode cX5_readMay 38 = .ok (.putfield 169, 3) := by decide +kernel
theorem dX5_readMay_41 : decode cX5_readMay 41 = .ok (.iload_n 2, 1) := by decide +kernel
theorem dX5_readMay_42 : decode cX5_readMay 42 = .ok (.ireturn, 1) := by decide +kernel
theorem dX5_readTruth_0 : decode cX5_readTruth 0 = .ok (.aload_n 0, 1) := by decide +kernel
theorem dX5_readTruth_1 : decode cX5_readTruth 1 = .ok (.iload_n 1, 1) := by decide +kernel
theorem dX5_readTruth_2 : decode cX5_readTruth 2 = .ok (.invokevirtual 172, 3) := by decide +kernel
theorem dX5_readTruth_5 : decode cX5_readTruth 5 = .ok (.istore_n 2, 1) := by decide +kernel
theorem dX5_readTruth_6 : decode cX5_readTruth 6 = .ok (.iconst 0, 1) := by decide +kernel
theorem dX5_readTruth_7 : decode cX5_readTruth 7 = .ok (.istore_n 3, 1) := by decide +kernel
theorem dX5_readTruth_8 : decode cX5_readTruth 8 = .ok (.iload_n 3, 1) := by decide +kernel
theorem dX5_readTruth_9 : decode cX5_readTruth 9 = .ok (.sipush 900, 3) := by decide +kernel
theorem dX5_readTruth_12 : decode cX5_readTruth 12 = .ok (.if_icmp .ge 49, 3) := by decide +kernel
theorem dX5_readTruth_15 : decode cX5_readTruth 15 = .ok (.iload_n 2, 1) := by decide +kernel
theorem dX5_readTruth_16 : decode cX5_readTruth 16 = .ok (.ifCond .eq 45, 3) := by decide +kernel
theorem dX5_readTruth_19 : decode cX5_readTruth 19 = .ok (.aload_n 0, 1) := by decide +kernel
theorem dX5_readTruth_20 : decode cX5_readTruth 20 = .ok (.ldc 175, 2) := by decide +kernel
theorem dX5_readTruth_22 : decode cX5_readTruth 22 = .ok (.invokevirtual 80, 3) := by decide +kernel
theorem dX5_readTruth_25 : decode cX5_readTruth 25 = .ok (.ifCond .eq 36, 3) := by decide +kernel
theorem dX5_readTruth_28 : decode cX5_readTruth 28 = .ok (.aload_n 0, 1) := by decide +kernel
theorem dX5_readTruth_29 : decode cX5_readTruth 29 = .ok (.iload_n 1, 1) := by decide +kernel
theorem dX5_readTruth_30 : decode cX5_readTruth 30 = .ok (.invokevirtual 172, 3) := by decide +kernel
theorem dX5_readTruth_33 : decode cX5_readTruth 33 = .ok (.ifCond .eq 20, 3) := by decide +kernel
theorem dX5_readTruth_36 : decode cX5_readTruth 36 = .ok (.aload_n 0, 1) := by decide +kernel
theorem dX5_readTruth_37 : decode cX5_readTruth 37 = .ok (.getfield 34, 3) := by decide +kernel
theorem dX5_readTruth_40 : decode cX5_readTruth 40 = .ok (.sipush 1017, 3) := by decide +kernel
theorem dX5_readTruth_43 : decode cX5_readTruth 43 = .ok (.invokevirtual 177, 3) := by decide +kernel
theorem dX5_readTruth_46 : decode cX5_readTruth 46 = .ok (.ifCond .eq 7, 3) := by decide +kernel
theorem dX5_readTruth_49 : decode cX5_readTruth 49 = .ok (.iconst 1, 1) := by decide +kernel
theorem dX5_readTruth_50 : decode cX5_readTruth 50 = .ok (.goto 4, 3) := by decide +kernel
theorem dX5_readTruth_53 : decode cX5_readTruth 53 = .ok (.iconst 0, 1) := by decide +kernel
theorem dX5_readTruth_54 : decode cX5_readTruth 54 = .ok (.istore_n 2, 1) := by decide +kernel
theorem dX5_readTruth_55 : decode cX5_readTruth 55 = .ok (.iinc 3 1, 3) := by decide +kernel
theorem dX5_readTruth_58 : decode cX5_readTruth 58 = .ok (.goto (-50), 3) := by decide +kernel
theorem dX5_readTruth_61 : decode cX5_readTruth 61 = .ok (.iload_n 2, 1) := by decide +kernel
theorem dX5_readTruth_62 : decode cX5_readTruth 62 = .ok (.ireturn, 1) := by decide +kernel
theorem dX5_readBoth_0 : decode cX5_readBoth 0 = .ok (.aload_n 0, 1) := by decide +kernel
theorem dX5_readBoth_1 : decode cX5_readBoth 1 = .ok (.iload_n 1, 1) := by decide +kernel
theorem dX5_readBoth_2 : decode cX5_readBoth 2 = .ok (.invokevirtual 180, 3) := by decide +kernel
theorem dX5_readBoth_5 : decode cX5_readBoth 5 = .ok (.istore_n 2, 1) := by decide +kernel
theorem dX5_readBoth_6 : decode cX5_readBoth 6 = .ok (.iconst 0, 1) := by decide +kernel
theorem dX5_readBoth_7 : decode cX5_readBoth 7 = .ok (.istore_n 3, 1) := by decide +kernel
theorem dX5_readBoth_8 : decode cX5_readBoth 8 = .ok (.iload_n 3, 1) := by decide +kernel
theorem dX5_readBoth_9 : decode cX5_readBoth 9 = .ok (.sipush 900, 3) := by decide +kernel
theorem dX5_readBoth_12 : decode cX5_readBoth 12 = .ok (.if_icmp .ge 49, 3) := by decide +kernel
theorem dX5_readBoth_15 : decode cX5_readBoth 15 = .ok (.iload_n 2, 1) := by decide +kernel
theorem dX5_readBoth_16 : decode cX5_readBoth 16 = .ok (.ifCond .eq 45, 3) := by decide +kernel
theorem dX5_readBoth_19 : decode cX5_readBoth 19 = .ok (.aload_n 0, 1) := by decide +kernel
theorem dX5_readBoth_20 : decode cX5_readBoth 20 = .ok (.ldc 183, 2) := by decide +kernel
theorem dX5_readBoth_22 : decode cX5_readBoth 22 = .ok (.invokevirtual 80, 3) := by decide +kernel
theorem dX5_readBoth_25 : decode cX5_readBoth 25 = .ok (.ifCond .eq 36, 3) := by decide +kernel
theorem dX5_readBoth_28 : decode cX5_readBoth 28 = .ok (.aload_n 0, 1) := by decide +kernel
theorem dX5_readBoth_29 : decode cX5_readBoth 29 = .ok (.iload_n 1, 1) := by decide +kernel
theorem dX5_readBoth_30 : decode cX5_readBoth 30 = .ok (.invokevirtual 180, 3) := by decide +kernel
theorem dX5_readBoth_33 : decode cX5_readBoth 33 = .ok (.ifCond .eq 20, 3) := by decide +kernel
theorem dX5_readBoth_36 : decode cX5_readBoth 36 = .ok (.aload_n 0, 1) := by decide +kernel
theorem dX5_readBoth_37 : decode cX5_readBoth 37 = .ok (.getfield 34, 3) := by decide +kernel
theorem dX5_readBoth_40 : decode cX5_readBoth 40 = .ok (.sipush 1016, 3) := by decide +kernel
theorem dX5_readBoth_43 : decode cX5_readBoth 43 = .ok (.invokevirtual 177, 3) := by decide +kernel
theorem dX5_readBoth_46 : decode cX5_readBoth 46 = .ok (.ifCond .eq 7, 3) := by decide +kernel
theorem dX5_readBoth_49 : decode cX5_readBoth 49 = .ok (.iconst 1, 1) := by decide +kernel
theorem dX5_readBoth_50 : decode cX5_readBoth 50 = .ok (.goto 4, 3) := by decide +kernel
theorem dX5_readBoth_53 : decode cX5_readBoth 53 = .ok (.iconst 0, 1) := by decide +kernel
theorem dX5_readBoth_54 : decode cX5_readBoth 54 = .ok (.istore_n 2, 1) := by decide +kernel
theorem dX5_readBoth_55 : decode cX5_readBoth 55 = .ok (.iinc 3 1, 3) := by decide +kernel
theorem dX5_readBoth_58 : decode cX5_readBoth 58 = .ok (.goto (-50), 3) := by decide +kernel
theorem dX5_readBoth_61 : decode cX5_readBoth 61 = .ok (.iload_n 2, 1) := by decide +kernel
theorem dX5_readBoth_62 : decode cX5_readBoth 62 = .ok (.ireturn, 1) := by decide +kernel
theorem dX5_readUnit_0 : decode cX5_readUnit 0 = .ok (.aload_n 0, 1) := by decide +kernel
theorem dX5_readUnit_1 : decode cX5_readUnit 1 = .ok (.ldc 185, 2) := by decide +kernel
theorem dX5_readUnit_3 : decode cX5_readUnit 3 = .ok (.invokevirtual 187, 3) := by decide +kernel
theorem dX5_readUnit_6 : decode cX5_readUnit 6 = .ok (.ifCond .eq 40, 3) := by decide +kernel
theorem dX5_readUnit_9 : decode cX5_readUnit 9 = .ok (.aload_n 0, 1) := by decide +kernel
theorem dX5_readUnit_10 : decode cX5_readUnit 10 = .ok (.iload_n 1, 1) := by decide +kernel
theorem dX5_readUnit_11 : decode cX5_readUnit 11 = .ok (.invokevirtual 190, 3) := by decide +kernel
theorem dX5_readUnit_14 : decode cX5_readUnit 14 = .ok (.ifCond .eq 30, 3) := by decide +kernel
theorem dX5_readUnit_17 : decode cX5_readUnit 17 = .ok (.aload_n 0, 1) := by decide +kernel
theorem dX5_readUnit_18 : decode cX5_readUnit 18 = .ok (.iload_n 1, 1) := by decide +kernel
theorem dX5_readUnit_19 : decode cX5_readUnit 19 = .ok (.iconst 1, 1) := by decide +kernel
theorem dX5_readUnit_20 : decode cX5_readUnit 20 = .ok (.iadd, 1) := by decide +kernel
theorem dX5_readUnit_21 : decode cX5_readUnit 21 = .ok (.invokevirtual 180, 3) := by decide +kernel
theorem dX5_readUnit_24 : decode cX5_readUnit 24 = .ok (.ifCond .eq 20, 3) := by decide +kernel
theorem dX5_readUnit_27 : decode cX5_readUnit 27 = .ok (.aload_n 0, 1) := by decide +kernel
theorem dX5_readUnit_28 : decode cX5_readUnit 28 = .ok (.getfield 34, 3) := by decide +kernel
theorem dX5_readUnit_31 : decode cX5_readUnit 31 = .ok (.sipush 1018, 3) := by decide +kernel
theorem dX5_readUnit_34 : decode cX5_readUnit 34 = .ok (.invokevirtual 177, 3) := by decide +kernel
theorem dX5_readUnit_37 : decode cX5_readUnit 37 = .ok (.ifCond .eq 7, 3) := by decide +kernel
theorem dX5_readUnit_40 : decode cX5_readUnit 40 = .ok (.iconst 1, 1) := by decide +kernel
theorem dX5_readUnit_41 : decode cX5_readUnit 41 = .ok (.goto 4, 3) := by decide +kernel
theorem dX5_readUnit_44 : decode cX5_readUnit 44 = .ok (.iconst 0, 1) := by decide +kernel
theorem dX5_readUnit_45 : decode cX5_readUnit 45 = .ok (.ireturn, 1) := by decide +kernel
theorem dX5_readUnit_46 : decode cX5_readUnit 46 = .ok (.aload_n 0, 1) := by decide +kernel
theorem dX5_readUnit_47 : decode cX5_readUnit 47 = .ok (.ldc 193, 2) := by decide +kernel
theorem dX5_readUnit_49 : decode cX5_readUnit 49 = .ok (.invokevirtual 187, 3) := by decide +kernel
theorem dX5_readUnit_52 : decode cX5_readUnit 52 = .ok (.ifCond .eq 36, 3) := by decide +kernel
theorem dX5_readUnit_55 : decode cX5_readUnit 55 = .ok (.aload_n 0, 1) := by decide +kernel
theorem dX5_readUnit_56 : decode cX5_readUnit 56 = .ok (.iload_n 1, 1) := by decide +kernel
theorem dX5_readUnit_57 : decode cX5_readUnit 57 = .ok (.invokevirtual 190, 3) := by decide +kernel
theorem dX5_readUnit_60 : decode cX5_readUnit 60 = .ok (.ifCond .eq 26, 3) := by decide +kernel
theorem dX5_readUnit_63 : decode cX5_readUnit 63 = .ok (.aload_n 0, 1) := by decide +kernel
theorem dX5_readUnit_64 : decode cX5_readUnit 64 = .ok (.iload_n 1, 1) := by decide +kernel
theorem dX5_readUnit_65 : decode cX5_readUnit 65 = .ok (.iconst 1, 1) := by decide +kernel
theorem dX5_readUnit_66 : decode cX5_readUnit 66 = .ok (.iadd, 1) := by decide +kernel
theorem dX5_readUnit_67 : decode cX5_readUnit 67 = .ok (.invokevirtual 163, 3) := by decide +kernel
theorem dX5_readUnit_70 : decode cX5_readUnit 70 = .ok (.ifCond .eq 16, 3) := by decide +kernel
theorem dX5_readUnit_73 : decode cX5_readUnit 73 = .ok (.aload_n 0, 1) := by decide +kernel
theorem dX5_readUnit_74 : decode cX5_readUnit 74 = .ok (.ldc 195, 2) := by decide +kernel
theorem dX5_readUnit_76 : decode cX5_readUnit 76 = .ok (.invokevirtual 58, 3) := by decide +kernel
theorem dX5_readUnit_79 : decode cX5_readUnit 79 = .ok (.ifCond .eq 7, 3) := by decide +kernel
theorem dX5_readUnit_82 : decode cX5_readUnit 82 = .ok (.iconst 1, 1) := by decide +kernel
theorem dX5_readUnit_83 : decode cX5_readUnit 83 = .ok (.goto 4, 3) := by decide +kernel
theorem dX5_readUnit_86 : decode cX5_readUnit 86 = .ok (.iconst 0, 1) := by decide +kernel
theorem dX5_readUnit_87 : decode cX5_readUnit 87 = .ok (.ireturn, 1) := by decide +kernel
theorem dX5_readUnit_88 : decode cX5_readUnit 88 = .ok (.aload_n 0, 1) := by decide +kernel
theorem dX5_readUnit_89 : decode cX5_readUnit 89 = .ok (.iload_n 1, 1) := by decide +kernel
theorem dX5_readUnit_90 : decode cX5_readUnit 90 = .ok (.invokevirtual 153, 3) := by decide +kernel
theorem dX5_readUnit_93 : decode cX5_readUnit 93 = .ok (.ifCond .ne 5, 3) := by decide +kernel
theorem dX5_readUnit_96 : decode cX5_readUnit 96 = .ok (.iconst 0, 1) := by decide +kernel
theorem dX5_readUnit_97 : decode cX5_readUnit 97 = .ok (.ireturn, 1) := by decide +kernel
theorem dX5_readUnit_98 : decode cX5_readUnit 98 = .ok (.aload_n 0, 1) := by decide +kernel
theorem dX5_readUnit_99 : decode cX5_readUnit 99 = .ok (.invokevirtual 197, 3) := by decide +kernel
theorem dX5_readUnit_102 : decode cX5_readUnit 102 = .ok (.istore_n 2, 1) := by decide +kernel
theorem dX5_readUnit_103 : decode cX5_readUnit 103 = .ok (.iload_n 2, 1) := by decide +kernel
theorem dX5_readUnit_104 : decode cX5_readUnit 104 = .ok (.iconst (-1), 1) := by decide +kernel
theorem dX5_readUnit_105 : decode cX5_readUnit 105 = .ok (.if_icmp .ne 8, 3) := by decide +kernel
theorem dX5_readUnit_108 : decode cX5_readUnit 108 = .ok (.aload_n 0, 1) := by decide +kernel
theorem dX5_readUnit_109 : decode cX5_readUnit 109 = .ok (.invokevirtual 112, 3) := by decide +kernel
theorem dX5_readUnit_112 : decode cX5_readUnit 112 = .ok (.ireturn, 1) := by decide +kernel
theorem dX5_readUnit_113 : decode cX5_readUnit 113 = .ok (.aload_n 0, 1) := by decide +kernel
theorem dX5_readUnit_114 : decode cX5_readUnit 114 = .ok (.invokevirtual 43, 3) := by decide +kernel
theorem dX5_readUnit_117 : decode cX5_readUnit 117 = .ok (.aload_n 0, 1) := by decide +kernel
theorem dX5_readUnit_118 : decode cX5_readUnit 118 = .ok (.iload_n 1, 1) := by decide +kernel
theorem dX5_readUnit_119 : decode cX5_readUnit 119 = .ok (.invokevirtual 153, 3) := by decide +kernel
theorem dX5_readUnit_122 : decode cX5_readUnit 122 = .ok (.ifCond .eq 18, 3) := by decide +kernel
theorem dX5_readUnit_125 : decode cX5_readUnit 125 = .ok (.aload_n 0, 1) := by decide +kernel
theorem dX5_readUnit_126 : decode cX5_readUnit 126 = .ok (.getfield 34, 3) := by decide +kernel
theorem dX5_readUnit_129 : decode cX5_readUnit 129 = .ok (.iload_n 2, 1) := by decide +kernel
theorem dX5_readUnit_130 : decode cX5_readUnit 130 = .ok (.invokevirtual 177, 3) := by decide +kernel
theorem dX5_readUnit_133 : decode cX5_readUnit 133 = .ok (.ifCond .eq 7, 3) := by decide +kernel
theorem dX5_readUnit_136 : decode cX5_readUnit 136 = .ok (.iconst 1, 1) := by decide +kernel
theorem dX5_readUnit_137 : decode cX5_readUnit 137 = .ok (.goto 4, 3) := by decide +kernel
theorem dX5_readUnit_140 : decode cX5_readUnit 140 = .ok (.iconst 0, 1) := by decide +kernel
theorem dX5_readUnit_141 : decode cX5_readUnit 141 = .ok (.ireturn, 1) := by decide +kernel
theorem dX5_comparison_0 : decode cX5_comparison 0 = .ok (.aload_n 0, 1) := by decide +kernel
theorem dX5_comparison_1 : decode cX5_comparison 1 = .ok (.ldc 200, 2) := by decide +kernel
theorem dX5_comparison_3 : decode cX5_comparison 3 = .ok (.invokevirtual 187, 3) := by decide +kernel
theorem dX5_comparison_6 : decode cX5_comparison 6 = .ok (.ifCond .eq 7, 3) := by decide +kernel
theorem dX5_comparison_9 : decode cX5_comparison 9 = .ok (.sipush 1013, 3) := by decide +kernel
theorem dX5_comparison_12 : decode cX5_comparison 12 = .ok (.ireturn, 1) := by decide +kernel
theorem dX5_comparison_13 : decode cX5_comparison 13 = .ok (.aload_n 0, 1) := by decide +kernel
theorem dX5_comparison_14 : decode cX5_comparison 14 = .ok (.ldc 202, 2) := by decide +kernel
theorem dX5_comparison_16 : decode cX5_comparison 16 = .ok (.invokevirtual 187, 3) := by decide +kernel
theorem dX5_comparison_19 : decode cX5_comparison 19 = .ok (.ifCond .eq 7, 3) := by decide +kernel
theorem dX5_comparison_22 : decode cX5_comparison 22 = .ok (.sipush 1014, 3) := by decide +kernel
theorem dX5_comparison_25 : decode cX5_comparison 25 = .ok (.ireturn, 1) := by decide +kernel
theorem dX5_comparison_26 : decode cX5_comparison 26 = .ok (.aload_n 0, 1) := by decide +kernel
theorem dX5_comparison_27 : decode cX5_comparison 27 = .ok (.ldc 204, 2) := by decide +kernel
theorem dX5_comparison_29 : decode cX5_comparison 29 = .ok (.invokevirtual 187, 3) := by decide +kernel
theorem dX5_comparison_32 : decode cX5_comparison 32 = .ok (.ifCond .eq 9, 3) := by decide +kernel
theorem dX5_comparison_35 : decode cX5_comparison 35 = .ok (.sipush 1015, 3) := by decide +kernel
theorem dX5_comparison_38 : decode cX5_comparison 38 = .ok (.goto 4, 3) := by decide +kernel
theorem dX5_comparison_41 : decode cX5_comparison 41 = .ok (.iconst (-1), 1) := by decide +kernel
theorem dX5_comparison_42 : decode cX5_comparison 42 = .ok (.ireturn, 1) := by decide +kernel
theorem dX5_readSum_0 : decode cX5_readSum 0 = .ok (.aload_n 0, 1) := by decide +kernel
theorem dX5_readSum_1 : decode cX5_readSum 1 = .ok (.iload_n 1, 1) := by decide +kernel
theorem dX5_readSum_2 : decode cX5_readSum 2 = .ok (.invokevirtual 206, 3) := by decide +kernel
theorem dX5_readSum_5 : decode cX5_readSum 5 = .ok (.istore_n 2, 1) := by decide +kernel
theorem dX5_readSum_6 : decode cX5_readSum 6 = .ok (.iconst 0, 1) := by decide +kernel
theorem dX5_readSum_7 : decode cX5_readSum 7 = .ok (.istore_n 3, 1) := by decide +kernel
theorem dX5_readSum_8 : decode cX5_readSum 8 = .ok (.iload_n 3, 1) := by decide +kernel
theorem dX5_readSum_9 : decode cX5_readSum 9 = .ok (.sipush 900, 3) := by decide +kernel
theorem dX5_readSum_12 : decode cX5_readSum 12 = .ok (.if_icmp .ge 93, 3) := by decide +kernel
theorem dX5_readSum_15 : decode cX5_readSum 15 = .ok (.iload_n 2, 1) := by decide +kernel
theorem dX5_readSum_16 : decode cX5_readSum 16 = .ok (.ifCond .eq 89, 3) := by decide +kernel
theorem dX5_readSum_19 : decode cX5_readSum 19 = .ok (.aload_n 0, 1) := by decide +kernel
theorem dX5_readSum_20 : decode cX5_readSum 20 = .ok (.ldc 209, 2) := by decide +kernel
theorem dX5_readSum_22 : decode cX5_readSum 22 = .ok (.invokevirtual 80, 3) := by decide +kernel
theorem dX5_readSum_25 : decode cX5_readSum 25 = .ok (.ifCond .eq 33, 3) := by decide +kernel
theorem dX5_readSum_28 : decode cX5_readSum 28 = .ok (.aload_n 0, 1) := by decide +kernel
theorem dX5_readSum_29 : decode cX5_readSum 29 = .ok (.iload_n 1, 1) := by decide +kernel
theorem dX5_readSum_30 : decode cX5_readSum 30 = .ok (.invokevirtual 206, 3) := by decide +kernel
theorem dX5_readSum_33 : decode cX5_readSum 33 = .ok (.ifCond .eq 20, 3) := by decide +kernel
theorem dX5_readSum_36 : decode cX5_readSum 36 = .ok (.aload_n 0, 1) := by decide +kernel
theorem dX5_readSum_37 : decode cX5_readSum 37 = .ok (.getfield 34, 3) := by decide +kernel
theorem dX5_readSum_40 : decode cX5_readSum 40 = .ok (.sipush 1010, 3) := by decide +kernel
theorem dX5_readSum_43 : decode cX5_readSum 43 = .ok (.invokevirtual 177, 3) := by decide +kernel
theorem dX5_readSum_46 : decode cX5_readSum 46 = .ok (.ifCond .eq 7, 3) := by decide +kernel
theorem dX5_readSum_49 : decode cX5_readSum 49 = .ok (.iconst 1, 1) := by decide +kernel
theorem dX5_readSum_50 : decode cX5_readSum 50 = .ok (.goto 4, 3) := by decide +kernel
theorem dX5_readSum_53 : decode cX5_readSum 53 = .ok (.iconst 0, 1) := by decide +kernel
theorem dX5_readSum_54 : decode cX5_readSum 54 = .ok (.istore_n 2, 1) := by decide +kernel
theorem dX5_readSum_55 : decode cX5_readSum 55 = .ok (.goto 44, 3) := by decide +kernel
theorem dX5_readSum_58 : decode cX5_readSum 58 = .ok (.aload_n 0, 1) := by decide +kernel
theorem dX5_readSum_59 : decode cX5_readSum 59 = .ok (.ldc 211, 2) := by decide +kernel
theorem dX5_readSum_61 : decode cX5_readSum 61 = .ok (.invokevirtual 80, 3) := by decide +kernel
theorem dX5_readSum_64 : decode cX5_readSum 64 = .ok (.ifCond .eq 33, 3) := by decide +kernel
theorem dX5_readSum_67 : decode cX5_readSum 67 = .ok (.aload_n 0, 1) := by decide +kernel
theorem dX5_readSum_68 : decode cX5_readSum 68 = .ok (.iload_n 1, 1) := by decide +kernel
theorem dX5_readSum_69 : decode cX5_readSum 69 = .ok (.invokevirtual 206, 3) := by decide +kernel
theorem dX5_readSum_72 : decode cX5_readSum 72 = .ok (.ifCond .eq 20, 3) := by decide +kernel
theorem dX5_readSum_75 : decode cX5_readSum 75 = .ok (.aload_n 0, 1) := by decide +kernel
theorem dX5_readSum_76 : decode cX5_readSum 76 = .ok (.getfield 34, 3) := by decide +kernel
theorem dX5_readSum_79 : decode cX5_readSum 79 = .ok (.sipush 1011, 3) := by decide +kernel
theorem dX5_readSum_82 : decode cX5_readSum 82 = .ok (.invokevirtual 177, 3) := by decide +kernel
theorem dX5_readSum_85 : decode cX5_readSum 85 = .ok (.ifCond .eq 7, 3) := by decide +kernel
theorem dX5_readSum_88 : decode cX5_readSum 88 = .ok (.iconst 1, 1) := by decide +kernel
theorem dX5_readSum_89 : decode cX5_readSum 89 = .ok (.goto 4, 3) := by decide +kernel
theorem dX5_readSum_92 : decode cX5_readSum 92 = .ok (.iconst 0, 1) := by decide +kernel
theorem dX5_readSum_93 : decode cX5_readSum 93 = .ok (.istore_n 2, 1) := by decide +kernel
theorem dX5_readSum_94 : decode cX5_readSum 94 = .ok (.goto 5, 3) := by decide +kernel
theorem dX5_readSum_97 : decode cX5_readSum 97 = .ok (.iconst 1, 1) := by decide +kernel
theorem dX5_readSum_98 : decode cX5_readSum 98 = .ok (.ireturn, 1) := by decide +kernel
theorem dX5_readSum_99 : decode cX5_readSum 99 = .ok (.iinc 3 1, 3) := by decide +kernel
theorem dX5_readSum_102 : decode cX5_readSum 102 = .ok (.goto (-94), 3) := by decide +kernel
theorem dX5_readSum_105 : decode cX5_readSum 105 = .ok (.iload_n 2, 1) := by decide +kernel
theorem dX5_readSum_106 : decode cX5_readSum 106 = .ok (.ireturn, 1) := by decide +kernel
theorem dX5_readTerm_0 : decode cX5_readTerm 0 = .ok (.aload_n 0, 1) := by decide +kernel
theorem dX5_readTerm_1 : decode cX5_readTerm 1 = .ok (.iload_n 1, 1) := by decide +kernel
theorem dX5_readTerm_2 : decode cX5_readTerm 2 = .ok (.invokevirtual 213, 3) := by decide +kernel
theorem dX5_readTerm_5 : decode cX5_readTerm 5 = .ok (.istore_n 2, 1) := by decide +kernel
theorem dX5_readTerm_6 : decode cX5_readTerm 6 = .ok (.iconst 0, 1) := by decide +kernel
theorem dX5_readTerm_7 : decode cX5_readTerm 7 = .ok (.istore_n 3, 1) := by decide +kernel
theorem dX5_readTerm_8 : decode cX5_readTerm 8 = .ok (.iload_n 3, 1) := by decide +kernel
theorem dX5_readTerm_9 : decode cX5_readTerm 9 = .ok (.sipush 900, 3) := by decide +kernel
theorem dX5_readTerm_12 : decode cX5_readTerm 12 = .ok (.if_icmp .ge 49, 3) := by decide +kernel
theorem dX5_readTerm_15 : decode cX5_readTerm 15 = .ok (.iload_n 2, 1) := by decide +kernel
theorem dX5_readTerm_16 : decode cX5_readTerm 16 = .ok (.ifCond .eq 45, 3) := by decide +kernel
theorem dX5_readTerm_19 : decode cX5_readTerm 19 = .ok (.aload_n 0, 1) := by decide +kernel
theorem dX5_readTerm_20 : decode cX5_readTerm 20 = .ok (.ldc 216, 2) := by decide +kernel
theorem dX5_readTerm_22 : decode cX5_readTerm 22 = .ok (.invokevirtual 80, 3) := by decide +kernel
theorem dX5_readTerm_25 : decode cX5_readTerm 25 = .ok (.ifCond .eq 36, 3) := by decide +kernel
theorem dX5_readTerm_28 : decode cX5_readTerm 28 = .ok (.aload_n 0, 1) := by decide +kernel
theorem dX5_readTerm_29 : decode cX5_readTerm 29 = .ok (.iload_n 1, 1) := by decide +kernel
theorem dX5_readTerm_30 : decode cX5_readTerm 30 = .ok (.invokevirtual 213, 3) := by decide +kernel
theorem dX5_readTerm_33 : decode cX5_readTerm 33 = .ok (.ifCond .eq 20, 3) := by decide +kernel
theorem dX5_readTerm_36 : decode cX5_readTerm 36 = .ok (.aload_n 0, 1) := by decide +kernel
theorem dX5_readTerm_37 : decode cX5_readTerm 37 = .ok (.getfield 34, 3) := by decide +kernel
theorem dX5_readTerm_40 : decode cX5_readTerm 40 = .ok (.sipush 1012, 3) := by decide +kernel
theorem dX5_readTerm_43 : decode cX5_readTerm 43 = .ok (.invokevirtual 177, 3) := by decide +kernel
theorem dX5_readTerm_46 : decode cX5_readTerm 46 = .ok (.ifCond .eq 7, 3) := by decide +kernel
theorem dX5_readTerm_49 : decode cX5_readTerm 49 = .ok (.iconst 1, 1) := by decide +kernel
theorem dX5_readTerm_50 : decode cX5_readTerm 50 = .ok (.goto 4, 3) := by decide +kernel
theorem dX5_readTerm_53 : decode cX5_readTerm 53 = .ok (.iconst 0, 1) := by decide +kernel
theorem dX5_readTerm_54 : decode cX5_readTerm 54 = .ok (.istore_n 2, 1) := by decide +kernel
theorem dX5_readTerm_55 : decode cX5_readTerm 55 = .ok (.iinc 3 1, 3) := by decide +kernel
theorem dX5_readTerm_58 : decode cX5_readTerm 58 = .ok (.goto (-50), 3) := by decide +kernel
theorem dX5_readTerm_61 : decode cX5_readTerm 61 = .ok (.iload_n 2, 1) := by decide +kernel
theorem dX5_readTerm_62 : decode cX5_readTerm 62 = .ok (.ireturn, 1) := by decide +kernel
theorem dX5_readAtom_0 : decode cX5_readAtom 0 = .ok (.aload_n 0, 1) := by decide +kernel
theorem dX5_readAtom_1 : decode cX5_readAtom 1 = .ok (.getfield 50, 3) := by decide +kernel
theorem dX5_readAtom_4 : decode cX5_readAtom 4 = .ok (.iconst 2, 1) := by decide +kernel
theorem dX5_readAtom_5 : decode cX5_readAtom 5 = .ok (.if_icmp .ne 21, 3) := by decide +kernel
theorem dX5_readAtom_8 : decode cX5_readAtom 8 = .ok (.aload_n 0, 1) := by decide +kernel
theorem dX5_readAtom_9 : decode cX5_readAtom 9 = .ok (.getfield 34, 3) := by decide +kernel
theorem dX5_readAtom_12 : decode cX5_readAtom 12 = .ok (.aload_n 0, 1) := by decide +kernel
theorem dX5_readAtom_13 : decode cX5_readAtom 13 = .ok (.getfield 218, 3) := by decide +kernel
theorem dX5_readAtom_16 : decode cX5_readAtom 16 = .ok (.invokevirtual 177, 3) := by decide +kernel
theorem dX5_readAtom_19 : decode cX5_readAtom 19 = .ok (.pop, 1) := by decide +kernel
theorem dX5_readAtom_20 : decode cX5_readAtom 20 = .ok (.aload_n 0, 1) := by decide +kernel
theorem dX5_readAtom_21 : decode cX5_readAtom 21 = .ok (.invokevirtual 43, 3) := by decide +kernel
theorem dX5_readAtom_24 : decode cX5_readAtom 24 = .ok (.iconst 1, 1) := by decide +kernel
theorem dX5_readAtom_25 : decode cX5_readAtom 25 = .ok (.ireturn, 1) := by decide +kernel
theorem dX5_readAtom_26 : decode cX5_readAtom 26 = .ok (.aload_n 0, 1) := by decide +kernel
theorem dX5_readAtom_27 : decode cX5_readAtom 27 = .ok (.ldc 221, 2) := by decide +kernel
theorem dX5_readAtom_29 : decode cX5_readAtom 29 = .ok (.invokevirtual 187, 3) := by decide +kernel
theorem dX5_readAtom_32 : decode cX5_readAtom 32 = .ok (.ifCond .eq 36, 3) := by decide +kernel
theorem dX5_readAtom_35 : decode cX5_readAtom 35 = .ok (.aload_n 0, 1) := by decide +kernel
theorem dX5_readAtom_36 : decode cX5_readAtom 36 = .ok (.iload_n 1, 1) := by decide +kernel
theorem dX5_readAtom_37 : decode cX5_readAtom 37 = .ok (.invokevirtual 190, 3) := by decide +kernel
theorem dX5_readAtom_40 : decode cX5_readAtom 40 = .ok (.ifCond .eq 26, 3) := by decide +kernel
theorem dX5_readAtom_43 : decode cX5_readAtom 43 = .ok (.aload_n 0, 1) := by decide +kernel
theorem dX5_readAtom_44 : decode cX5_readAtom 44 = .ok (.iload_n 1, 1) := by decide +kernel
theorem dX5_readAtom_45 : decode cX5_readAtom 45 = .ok (.iconst 1, 1) := by decide +kernel
theorem dX5_readAtom_46 : decode cX5_readAtom 46 = .ok (.iadd, 1) := by decide +kernel
theorem dX5_readAtom_47 : decode cX5_readAtom 47 = .ok (.invokevirtual 153, 3) := by decide +kernel
theorem dX5_readAtom_50 : decode cX5_readAtom 50 = .ok (.ifCond .eq 16, 3) := by decide +kernel
theorem dX5_readAtom_53 : decode cX5_readAtom 53 = .ok (.aload_n 0, 1) := by decide +kernel
theorem dX5_readAtom_54 : decode cX5_readAtom 54 = .ok (.ldc 223, 2) := by decide +kernel
theorem dX5_readAtom_56 : decode cX5_readAtom 56 = .ok (.invokevirtual 58, 3) := by decide +kernel
theorem dX5_readAtom_59 : decode cX5_readAtom 59 = .ok (.ifCond .eq 7, 3) := by decide +kernel
theorem dX5_readAtom_62 : decode cX5_readAtom 62 = .ok (.iconst 1, 1) := by decide +kernel
theorem dX5_readAtom_63 : decode cX5_readAtom 63 = .ok (.goto 4, 3) := by decide +kernel
theorem dX5_readAtom_66 : decode cX5_readAtom 66 = .ok (.iconst 0, 1) := by decide +kernel
theorem dX5_readAtom_67 : decode cX5_readAtom 67 = .ok (.ireturn, 1) := by decide +kernel
theorem dX5_readAtom_68 : decode cX5_readAtom 68 = .ok (.aload_n 0, 1) := by decide +kernel
theorem dX5_readAtom_69 : decode cX5_readAtom 69 = .ok (.ldc 225, 2) := by decide +kernel
theorem dX5_readAtom_71 : decode cX5_readAtom 71 = .ok (.invokevirtual 187, 3) := by decide +kernel
theorem dX5_readAtom_74 : decode cX5_readAtom 74 = .ok (.ifCond .eq 27, 3) := by decide +kernel
theorem dX5_readAtom_77 : decode cX5_readAtom 77 = .ok (.aload_n 0, 1) := by decide +kernel
theorem dX5_readAtom_78 : decode cX5_readAtom 78 = .ok (.iload_n 1, 1) := by decide +kernel
theorem dX5_readAtom_79 : decode cX5_readAtom 79 = .ok (.invokevirtual 190, 3) := by decide +kernel
theorem dX5_readAtom_82 : decode cX5_readAtom 82 = .ok (.ifCond .eq 17, 3) := by decide +kernel
theorem dX5_readAtom_85 : decode cX5_readAtom 85 = .ok (.aload_n 0, 1) := by decide +kernel
theorem dX5_readAtom_86 : decode cX5_readAtom 86 = .ok (.iload_n 1, 1) := by decide +kernel
theorem dX5_readAtom_87 : decode cX5_readAtom 87 = .ok (.iconst 1, 1) := by decide +kernel
theorem dX5_readAtom_88 : decode cX5_readAtom 88 = .ok (.iadd, 1) := by decide +kernel
theorem dX5_readAtom_89 : decode cX5_readAtom 89 = .ok (.invokevirtual 227, 3) := by decide +kernel
theorem dX5_readAtom_92 : decode cX5_readAtom 92 = .ok (.ifCond .eq 7, 3) := by decide +kernel
theorem dX5_readAtom_95 : decode cX5_readAtom 95 = .ok (.iconst 1, 1) := by decide +kernel
theorem dX5_readAtom_96 : decode cX5_readAtom 96 = .ok (.goto 4, 3) := by decide +kernel
theorem dX5_readAtom_99 : decode cX5_readAtom 99 = .ok (.iconst 0, 1) := by decide +kernel
theorem dX5_readAtom_100 : decode cX5_readAtom 100 = .ok (.ireturn, 1) := by decide +kernel
theorem dX5_readAtom_101 : decode cX5_readAtom 101 = .ok (.aload_n 0, 1) := by decide +kernel
theorem dX5_readAtom_102 : decode cX5_readAtom 102 = .ok (.invokevirtual 230, 3) := by decide +kernel
theorem dX5_readAtom_105 : decode cX5_readAtom 105 = .ok (.istore_n 2, 1) := by decide +kernel
theorem dX5_readAtom_106 : decode cX5_readAtom 106 = .ok (.iload_n 2, 1) := by decide +kernel
theorem dX5_readAtom_107 : decode cX5_readAtom 107 = .ok (.iconst (-1), 1) := by decide +kernel
theorem dX5_readAtom_108 : decode cX5_readAtom 108 = .ok (.if_icmp .ne 8, 3) := by decide +kernel
theorem dX5_readAtom_111 : decode cX5_readAtom 111 = .ok (.aload_n 0, 1) := by decide +kernel
theorem dX5_readAtom_112 : decode cX5_readAtom 112 = .ok (.invokevirtual 112, 3) := by decide +kernel
theorem dX5_readAtom_115 : decode cX5_readAtom 115 = .ok (.ireturn, 1) := by decide +kernel
theorem dX5_readAtom_116 : decode cX5_readAtom 116 = .ok (.aload_n 0, 1) := by decide +kernel
theorem dX5_readAtom_117 : decode cX5_readAtom 117 = .ok (.getfield 34, 3) := by decide +kernel
theorem dX5_readAtom_120 : decode cX5_readAtom 120 = .ok (.sipush 1000, 3) := by decide +kernel
theorem dX5_readAtom_123 : decode cX5_readAtom 123 = .ok (.iload_n 2, 1) := by decide +kernel
theorem dX5_readAtom_124 : decode cX5_readAtom 124 = .ok (.iadd, 1) := by decide +kernel
theorem dX5_readAtom_125 : decode cX5_readAtom 125 = .ok (.invokevirtual 177, 3) := by decide +kernel
theorem dX5_readAtom_128 : decode cX5_readAtom 128 = .ok (.pop, 1) := by decide +kernel
theorem dX5_readAtom_129 : decode cX5_readAtom 129 = .ok (.aload_n 0, 1) := by decide +kernel
theorem dX5_readAtom_130 : decode cX5_readAtom 130 = .ok (.invokevirtual 43, 3) := by decide +kernel
theorem dX5_readAtom_133 : decode cX5_readAtom 133 = .ok (.iconst 1, 1) := by decide +kernel
theorem dX5_readAtom_134 : decode cX5_readAtom 134 = .ok (.ireturn, 1) := by decide +kernel
theorem dX5_readIf_0 : decode cX5_readIf 0 = .ok (.aload_n 0, 1) := by decide +kernel
theorem dX5_readIf_1 : decode cX5_readIf 1 = .ok (.iload_n 1, 1) := by decide +kernel
theorem dX5_readIf_2 : decode cX5_readIf 2 = .ok (.invokevirtual 163, 3) := by decide +kernel
theorem dX5_readIf_5 : decode cX5_readIf 5 = .ok (.ifCond .eq 63, 3) := by decide +kernel
theorem dX5_readIf_8 : decode cX5_readIf 8 = .ok (.aload_n 0, 1) := by decide +kernel
theorem dX5_readIf_9 : decode cX5_readIf 9 = .ok (.ldc 233, 2) := by decide +kernel
theorem dX5_readIf_11 : decode cX5_readIf 11 = .ok (.invokevirtual 58, 3) := by decide +kernel
theorem dX5_readIf_14 : decode cX5_readIf 14 = .ok (.ifCond .eq 54, 3) := by decide +kernel
theorem dX5_readIf_17 : decode cX5_readIf 17 = .ok (.aload_n 0, 1) := by decide +kernel
theorem dX5_readIf_18 : decode cX5_readIf 18 = .ok (.iload_n 1, 1) := by decide +kernel
theorem dX5_readIf_19 : decode cX5_readIf 19 = .ok (.invokevirtual 153, 3) := by decide +kernel
theorem dX5_readIf_22 : decode cX5_readIf 22 = .ok (.ifCond .eq 46, 3) := by decide +kernel
theorem dX5_readIf_25 : decode cX5_readIf 25 = .ok (.aload_n 0, 1) := by decide +kernel
theorem dX5_readIf_26 : decode cX5_readIf 26 = .ok (.ldc 235, 2) := by decide +kernel
theorem dX5_readIf_28 : decode cX5_readIf 28 = .ok (.invokevirtual 58, 3) := by decide +kernel
theorem dX5_readIf_31 : decode cX5_readIf 31 = .ok (.ifCond .eq 37, 3) := by decide +kernel
theorem dX5_readIf_34 : decode cX5_readIf 34 = .ok (.aload_n 0, 1) := by decide +kernel
theorem dX5_readIf_35 : decode cX5_readIf 35 = .ok (.iload_n 1, 1) := by decide +kernel
theorem dX5_readIf_36 : decode cX5_readIf 36 = .ok (.invokevirtual 153, 3) := by decide +kernel
theorem dX5_readIf_39 : decode cX5_readIf 39 = .ok (.ifCond .eq 29, 3) := by decide +kernel
theorem dX5_readIf_42 : decode cX5_readIf 42 = .ok (.aload_n 0, 1) := by decide +kernel
theorem dX5_readIf_43 : decode cX5_readIf 43 = .ok (.ldc 237, 2) := by decide +kernel
theorem dX5_readIf_45 : decode cX5_readIf 45 = .ok (.invokevirtual 58, 3) := by decide +kernel
theorem dX5_readIf_48 : decode cX5_readIf 48 = .ok (.ifCond .eq 20, 3) := by decide +kernel
theorem dX5_readIf_51 : decode cX5_readIf 51 = .ok (.aload_n 0, 1) := by decide +kernel
theorem dX5_readIf_52 : decode cX5_readIf 52 = .ok (.getfield 34, 3) := by decide +kernel
theorem dX5_readIf_55 : decode cX5_readIf 55 = .ok (.sipush 1019, 3) := by decide +kernel
theorem dX5_readIf_58 : decode cX5_readIf 58 = .ok (.invokevirtual 177, 3) := by decide +kernel
theorem dX5_readIf_61 : decode cX5_readIf 61 = .ok (.ifCond .eq 7, 3) := by decide +kernel
theorem dX5_readIf_64 : decode cX5_readIf 64 = .ok (.iconst 1, 1) := by decide +kernel
theorem dX5_readIf_65 : decode cX5_readIf 65 = .ok (.goto 4, 3) := by decide +kernel
theorem dX5_readIf_68 : decode cX5_readIf 68 = .ok (.iconst 0, 1) := by decide +kernel
theorem dX5_readIf_69 : decode cX5_readIf 69 = .ok (.ireturn, 1) := by decide +kernel
theorem dX5_factTold_0 : decode cX5_factTold 0 = .ok (.aload_n 0, 1) := by decide +kernel
theorem dX5_factTold_1 : decode cX5_factTold 1 = .ok (.ldc 238, 2) := by decide +kernel
theorem dX5_factTold_3 : decode cX5_factTold 3 = .ok (.invokevirtual 187, 3) := by decide +kernel
theorem dX5_factTold_6 : decode cX5_factTold 6 = .ok (.ifCond .eq 5, 3) := by decide +kernel
theorem dX5_factTold_9 : decode cX5_factTold 9 = .ok (.iconst 0, 1) := by decide +kernel
theorem dX5_factTold_10 : decode cX5_factTold 10 = .ok (.ireturn, 1) := by decide +kernel
theorem dX5_factTold_11 : decode cX5_factTold 11 = .ok (.aload_n 0, 1) := by decide +kernel
theorem dX5_factTold_12 : decode cX5_factTold 12 = .ok (.ldc 127, 2) := by decide +kernel
theorem dX5_factTold_14 : decode cX5_factTold 14 = .ok (.invokevirtual 187, 3) := by decide +kernel
theorem dX5_factTold_17 : decode cX5_factTold 17 = .ok (.ifCond .eq 5, 3) := by decide +kernel
theorem dX5_factTold_20 : decode cX5_factTold 20 = .ok (.iconst 1, 1) := by decide +kernel
theorem dX5_factTold_21 : decode cX5_factTold 21 = .ok (.ireturn, 1) := by decide +kernel
theorem dX5_factTold_22 : decode cX5_factTold 22 = .ok (.aload_n 0, 1) := by decide +kernel
theorem dX5_factTold_23 : decode cX5_factTold 23 = .ok (.ldc 136, 2) := by decide +kernel
theorem dX5_factTold_25 : decode cX5_factTold 25 = .ok (.invokevirtual 187, 3) := by decide +kernel
theorem dX5_factTold_28 : decode cX5_factTold 28 = .ok (.ifCond .eq 5, 3) := by decide +kernel
theorem dX5_factTold_31 : decode cX5_factTold 31 = .ok (.iconst 2, 1) := by decide +kernel
theorem dX5_factTold_32 : decode cX5_factTold 32 = .ok (.ireturn, 1) := by decide +kernel
theorem dX5_factTold_33 : decode cX5_factTold 33 = .ok (.aload_n 0, 1) := by decide +kernel
theorem dX5_factTold_34 : decode cX5_factTold 34 = .ok (.ldc 71, 2) := by decide +kernel
theorem dX5_factTold_36 : decode cX5_factTold 36 = .ok (.invokevirtual 187, 3) := by decide +kernel
theorem dX5_factTold_39 : decode cX5_factTold 39 = .ok (.ifCond .eq 5, 3) := by decide +kernel
theorem dX5_factTold_42 : decode cX5_factTold 42 = .ok (.iconst 3, 1) := by decide +kernel
theorem dX5_factTold_43 : decode cX5_factTold 43 = .ok (.ireturn, 1) := by decide +kernel
theorem dX5_factTold_44 : decode cX5_factTold 44 = .ok (.aload_n 0, 1) := by decide +kernel
theorem dX5_factTold_45 : decode cX5_factTold 45 = .ok (.ldc 91, 2) := by decide +kernel
theorem dX5_factTold_47 : decode cX5_factTold 47 = .ok (.invokevirtual 187, 3) := by decide +kernel
theorem dX5_factTold_50 : decode cX5_factTold 50 = .ok (.ifCond .eq 5, 3) := by decide +kernel
theorem dX5_factTold_53 : decode cX5_factTold 53 = .ok (.iconst 4, 1) := by decide +kernel
theorem dX5_factTold_54 : decode cX5_factTold 54 = .ok (.ireturn, 1) := by decide +kernel
theorem dX5_factTold_55 : decode cX5_factTold 55 = .ok (.aload_n 0, 1) := by decide +kernel
theorem dX5_factTold_56 : decode cX5_factTold 56 = .ok (.getfield 146, 3) := by decide +kernel
theorem dX5_factTold_59 : decode cX5_factTold 59 = .ok (.ifCond .eq 16, 3) := by decide +kernel
theorem dX5_factTold_62 : decode cX5_factTold 62 = .ok (.aload_n 0, 1) := by decide +kernel
theorem dX5_factTold_63 : decode cX5_factTold 63 = .ok (.ldc 242, 2) := by decide +kernel
theorem dX5_factTold_65 : decode cX5_factTold 65 = .ok (.invokevirtual 187, 3) := by decide +kernel
theorem dX5_factTold_68 : decode cX5_factTold 68 = .ok (.ifCond .eq 7, 3) := by decide +kernel
theorem dX5_factTold_71 : decode cX5_factTold 71 = .ok (.iconst 5, 1) := by decide +kernel
theorem dX5_factTold_72 : decode cX5_factTold 72 = .ok (.goto 4, 3) := by decide +kernel
theorem dX5_factTold_75 : decode cX5_factTold 75 = .ok (.iconst (-1), 1) := by decide +kernel
theorem dX5_factTold_76 : decode cX5_factTold 76 = .ok (.ireturn, 1) := by decide +kernel
theorem dX5_goDeeper_0 : decode cX5_goDeeper 0 = .ok (.iload_n 1, 1) := by decide +kernel
theorem dX5_goDeeper_1 : decode cX5_goDeeper 1 = .ok (.bipush 6, 2) := by decide +kernel
theorem dX5_goDeeper_3 : decode cX5_goDeeper 3 = .ok (.if_icmp .lt 9, 3) := by decide +kernel
theorem dX5_goDeeper_6 : decode cX5_goDeeper 6 = .ok (.aload_n 0, 1) := by decide +kernel
theorem dX5_goDeeper_7 : decode cX5_goDeeper 7 = .ok (.iconst 4, 1) := by decide +kernel
theorem dX5_goDeeper_8 : decode cX5_goDeeper 8 = .ok (.invokevirtual 244, 3) := by decide +kernel
theorem dX5_goDeeper_11 : decode cX5_goDeeper 11 = .ok (.ireturn, 1) := by decide +kernel
theorem dX5_goDeeper_12 : decode cX5_goDeeper 12 = .ok (.aload_n 0, 1) := by decide +kernel
theorem dX5_goDeeper_13 : decode cX5_goDeeper 13 = .ok (.invokevirtual 43, 3) := by decide +kernel
theorem dX5_goDeeper_16 : decode cX5_goDeeper 16 = .ok (.iconst 1, 1) := by decide +kernel
theorem dX5_goDeeper_17 : decode cX5_goDeeper 17 = .ok (.ireturn, 1) := by decide +kernel
theorem dX5_accept_0 : decode cX5_accept 0 = .ok (.aload_n 0, 1) := by decide +kernel
theorem dX5_accept_1 : decode cX5_accept 1 = .ok (.aload_n 1, 1) := by decide +kernel
theorem dX5_accept_2 : decode cX5_accept 2 = .ok (.invokevirtual 187, 3) := by decide +kernel
theorem dX5_accept_5 : decode cX5_accept 5 = .ok (.ifCond .ne 5, 3) := by decide +kernel
theorem dX5_accept_8 : decode cX5_accept 8 = .ok (.iconst 0, 1) := by decide +kernel
theorem dX5_accept_9 : decode cX5_accept 9 = .ok (.ireturn, 1) := by decide +kernel
theorem dX5_accept_10 : decode cX5_accept 10 = .ok (.aload_n 0, 1) := by decide +kernel
theorem dX5_accept_11 : decode cX5_accept 11 = .ok (.invokevirtual 43, 3) := by decide +kernel
theorem dX5_accept_14 : decode cX5_accept 14 = .ok (.iconst 1, 1) := by decide +kernel
theorem dX5_accept_15 : decode cX5_accept 15 = .ok (.ireturn, 1) := by decide +kernel
theorem dX5_expect_0 : decode cX5_expect 0 = .ok (.aload_n 0, 1) := by decide +kernel
theorem dX5_expect_1 : decode cX5_expect 1 = .ok (.aload_n 1, 1) := by decide +kernel
theorem dX5_expect_2 : decode cX5_expect 2 = .ok (.invokevirtual 187, 3) := by decide +kernel
theorem dX5_expect_5 : decode cX5_expect 5 = .ok (.ifCond .ne 8, 3) := by decide +kernel
theorem dX5_expect_8 : decode cX5_expect 8 = .ok (.aload_n 0, 1) := by decide +kernel
theorem dX5_expect_9 : decode cX5_expect 9 = .ok (.invokevirtual 112, 3) := by decide +kernel
theorem dX5_expect_12 : decode cX5_expect 12 = .ok (.ireturn, 1) := by decide +kernel
theorem dX5_expect_13 : decode cX5_expect 13 = .ok (.aload_n 0, 1) := by decide +kernel
theorem dX5_expect_14 : decode cX5_expect 14 = .ok (.invokevirtual 43, 3) := by decide +kernel
theorem dX5_expect_17 : decode cX5_expect 17 = .ok (.iconst 1, 1) := by decide +kernel
theorem dX5_expect_18 : decode cX5_expect 18 = .ok (.ireturn, 1) := by decide +kernel
theorem dX5_readThing_0 : decode cX5_readThing 0 = .ok (.aload_n 0, 1) := by decide +kernel
theorem dX5_readThing_1 : decode cX5_readThing 1 = .ok (.iconst 0, 1) := by decide +kernel
theorem dX5_readThing_2 : decode cX5_readThing 2 = .ok (.aload_n 0, 1) := by decide +kernel
theorem dX5_readThing_3 : decode cX5_readThing 3 = .ok (.getfield 34, 3) := by decide +kernel
theorem dX5_readThing_6 : decode cX5_readThing 6 = .ok (.getfield 76, 3) := by decide +kernel
theorem dX5_readThing_9 : decode cX5_readThing 9 = .ok (.iconst 1, 1) := by decide +kernel
theorem dX5_readThing_10 : decode cX5_readThing 10 = .ok (.isub, 1) := by decide +kernel
theorem dX5_readThing_11 : decode cX5_readThing 11 = .ok (.invokevirtual 68, 3) := by decide +kernel
theorem dX5_readThing_14 : decode cX5_readThing 14 = .ok (.ireturn, 1) := by decide +kernel
theorem dX5_readNumber_0 : decode cX5_readNumber 0 = .ok (.aload_n 0, 1) := by decide +kernel
theorem dX5_readNumber_1 : decode cX5_readNumber 1 = .ok (.getfield 50, 3) := by decide +kernel
theorem dX5_readNumber_4 : decode cX5_readNumber 4 = .ok (.iconst 2, 1) := by decide +kernel
theorem dX5_readNumber_5 : decode cX5_readNumber 5 = .ok (.if_icmp .eq 10, 3) := by decide +kernel
theorem dX5_readNumber_8 : decode cX5_readNumber 8 = .ok (.aload_n 0, 1) := by decide +kernel
theorem dX5_readNumber_9 : decode cX5_readNumber 9 = .ok (.invokevirtual 112, 3) := by decide +kernel
theorem dX5_readNumber_12 : decode cX5_readNumber 12 = .ok (.pop, 1) := by decide +kernel
theorem dX5_readNumber_13 : decode cX5_readNumber 13 = .ok (.iconst (-1), 1) := by decide +kernel
theorem dX5_readNumber_14 : decode cX5_readNumber 14 = .ok (.ireturn, 1) := by decide +kernel
theorem dX5_readNumber_15 : decode cX5_readNumber 15 = .ok (.aload_n 0, 1) := by decide +kernel
theorem dX5_readNumber_16 : decode cX5_readNumber 16 = .ok (.getfield 218, 3) := by decide +kernel
theorem dX5_readNumber_19 : decode cX5_readNumber 19 = .ok (.iload_n 1, 1) := by decide +kernel
theorem dX5_readNumber_20 : decode cX5_readNumber 20 = .ok (.if_icmp .lt 11, 3) := by decide +kernel
theorem dX5_readNumber_23 : decode cX5_readNumber 23 = .ok (.aload_n 0, 1) := by decide +kernel
theorem dX5_readNumber_24 : decode cX5_readNumber 24 = .ok (.getfield 218, 3) := by decide +kernel
theorem dX5_readNumber_27 : decode cX5_readNumber 27 = .ok (.iload_n 2, 1) := by decide +kernel
theorem dX5_readNumber_28 : decode cX5_readNumber 28 = .ok (.if_icmp .le 11, 3) := by decide +kernel
theorem dX5_readNumber_31 : decode cX5_readNumber 31 = .ok (.aload_n 0, 1) := by decide +kernel
theorem dX5_readNumber_32 : decode cX5_readNumber 32 = .ok (.iconst 3, 1) := by decide +kernel
theorem dX5_readNumber_33 : decode cX5_readNumber 33 = .ok (.invokevirtual 244, 3) := by decide +kernel
theorem dX5_readNumber_36 : decode cX5_readNumber 36 = .ok (.pop, 1) := by decide +kernel
theorem dX5_readNumber_37 : decode cX5_readNumber 37 = .ok (.iconst (-1), 1) := by decide +kernel
theorem dX5_readNumber_38 : decode cX5_readNumber 38 = .ok (.ireturn, 1) := by decide +kernel
theorem dX5_readNumber_39 : decode cX5_readNumber 39 = .ok (.aload_n 0, 1) := by decide +kernel
theorem dX5_readNumber_40 : decode cX5_readNumber 40 = .ok (.getfield 218, 3) := by decide +kernel
theorem dX5_readNumber_43 : decode cX5_readNumber 43 = .ok (.istore_n 3, 1) := by decide +kernel
theorem dX5_readNumber_44 : decode cX5_readNumber 44 = .ok (.aload_n 0, 1) := by decide +kernel
theorem dX5_readNumber_45 : decode cX5_readNumber 45 = .ok (.invokevirtual 43, 3) := by decide +kernel
theorem dX5_readNumber_48 : decode cX5_readNumber 48 = .ok (.iload_n 3, 1) := by decide +kernel
theorem dX5_readNumber_49 : decode cX5_readNumber 49 = .ok (.ireturn, 1) := by decide +kernel
theorem dX5_refuse_0 : decode cX5_refuse 0 = .ok (.aload_n 0, 1) := by decide +kernel
theorem dX5_refuse_1 : decode cX5_refuse 1 = .ok (.aload_n 0, 1) := by decide +kernel
theorem dX5_refuse_2 : decode cX5_refuse 2 = .ok (.getfield 50, 3) := by decide +kernel
theorem dX5_refuse_5 : decode cX5_refuse 5 = .ok (.iconst 1, 1) := by decide +kernel
theorem dX5_refuse_6 : decode cX5_refuse 6 = .ok (.if_icmp .ne 7, 3) := by decide +kernel
theorem dX5_refuse_9 : decode cX5_refuse 9 = .ok (.iconst 1, 1) := by decide +kernel
theorem dX5_refuse_10 : decode cX5_refuse 10 = .ok (.goto 4, 3) := by decide +kernel
theorem dX5_refuse_13 : decode cX5_refuse 13 = .ok (.iconst 2, 1) := by decide +kernel
theorem dX5_refuse_14 : decode cX5_refuse 14 = .ok (.invokevirtual 244, 3) := by decide +kernel
theorem dX5_refuse_17 : decode cX5_refuse 17 = .ok (.ireturn, 1) := by decide +kernel
theorem dX5_findFault_0 : decode cX5_findFault 0 = .ok (.aload_n 0, 1) := by decide +kernel
theorem dX5_findFault_1 : decode cX5_findFault 1 = .ok (.iload_n 1, 1) := by decide +kernel
theorem dX5_findFault_2 : decode cX5_findFault 2 = .ok (.putfield 9, 3) := by decide +kernel
theorem dX5_findFault_5 : decode cX5_findFault 5 = .ok (.aload_n 0, 1) := by decide +kernel
theorem dX5_findFault_6 : decode cX5_findFault 6 = .ok (.aload_n 0, 1) := by decide +kernel
theorem dX5_findFault_7 : decode cX5_findFault 7 = .ok (.getfield 247, 3) := by decide +kernel
theorem dX5_findFault_10 : decode cX5_findFault 10 = .ok (.putfield 15, 3) := by decide +kernel
theorem dX5_findFault_13 : decode cX5_findFault 13 = .ok (.iconst 0, 1) := by decide +kernel
theorem dX5_findFault_14 : decode cX5_findFault 14 = .ok (.ireturn, 1) := by decide +kernel
theorem dX5_tokenIs_0 : decode cX5_tokenIs 0 = .ok (.aload_n 0, 1) := by decide +kernel
theorem dX5_tokenIs_1 : decode cX5_tokenIs 1 = .ok (.getfield 50, 3) := by decide +kernel
theorem dX5_tokenIs_4 : decode cX5_tokenIs 4 = .ok (.iconst 3, 1) := by decide +kernel
theorem dX5_tokenIs_5 : decode cX5_tokenIs 5 = .ok (.if_icmp .ne 19, 3) := by decide +kernel
theorem dX5_tokenIs_8 : decode cX5_tokenIs 8 = .ok (.aload_n 0, 1) := by decide +kernel
theorem dX5_tokenIs_9 : decode cX5_tokenIs 9 = .ok (.getfield 31, 3) := by decide +kernel
theorem dX5_tokenIs_12 : decode cX5_tokenIs 12 = .ok (.aload_n 0, 1) := by decide +kernel
theorem dX5_tokenIs_13 : decode cX5_tokenIs 13 = .ok (.getfield 247, 3) := by decide +kernel
theorem dX5_tokenIs_16 : decode cX5_tokenIs 16 = .ok (.isub, 1) := by decide +kernel
theorem dX5_tokenIs_17 : decode cX5_tokenIs 17 = .ok (.aload_n 1, 1) := by decide +kernel
theorem dX5_tokenIs_18 : decode cX5_tokenIs 18 = .ok (.invokevirtual 250, 3) := by decide +kernel
theorem dX5_tokenIs_21 : decode cX5_tokenIs 21 = .ok (.if_icmp .eq 5, 3) := by decide +kernel
theorem dX5_tokenIs_24 : decode cX5_tokenIs 24 = .ok (.iconst 0, 1) := by decide +kernel
theorem dX5_tokenIs_25 : decode cX5_tokenIs 25 = .ok (.ireturn, 1) := by decide +kernel
theorem dX5_tokenIs_26 : decode cX5_tokenIs 26 = .ok (.iconst 0, 1) := by decide +kernel
theorem dX5_tokenIs_27 : decode cX5_tokenIs 27 = .ok (.istore_n 2, 1) := by decide +kernel
theorem dX5_tokenIs_28 : decode cX5_tokenIs 28 = .ok (.iload_n 2, 1) := by decide +kernel
theorem dX5_tokenIs_29 : decode cX5_tokenIs 29 = .ok (.aload_n 1, 1) := by decide +kernel
theorem dX5_tokenIs_30 : decode cX5_tokenIs 30 = .ok (.invokevirtual 250, 3) := by decide +kernel
theorem dX5_tokenIs_33 : decode cX5_tokenIs 33 = .ok (.if_icmp .ge 30, 3) := by decide +kernel
theorem dX5_tokenIs_36 : decode cX5_tokenIs 36 = .ok (.aload_n 0, 1) := by decide +kernel
theorem dX5_tokenIs_37 : decode cX5_tokenIs 37 = .ok (.getfield 18, 3) := by decide +kernel
theorem dX5_tokenIs_40 : decode cX5_tokenIs 40 = .ok (.aload_n 0, 1) := by decide +kernel
theorem dX5_tokenIs_41 : decode cX5_tokenIs 41 = .ok (.getfield 247, 3) := by decide +kernel
theorem dX5_tokenIs_44 : decode cX5_tokenIs 44 = .ok (.iload_n 2, 1) := by decide +kernel
theorem dX5_tokenIs_45 : decode cX5_tokenIs 45 = .ok (.iadd, 1) := by decide +kernel
theorem dX5_tokenIs_46 : decode cX5_tokenIs 46 = .ok (.iaload, 1) := by decide +kernel
theorem dX5_tokenIs_47 : decode cX5_tokenIs 47 = .ok (.aload_n 1, 1) := by decide +kernel
theorem dX5_tokenIs_48 : decode cX5_tokenIs 48 = .ok (.iload_n 2, 1) := by decide +kernel
theorem dX5_tokenIs_49 : decode cX5_tokenIs 49 = .ok (.invokevirtual 254, 3) := by decide +kernel
theorem dX5_tokenIs_52 : decode cX5_tokenIs 52 = .ok (.if_icmp .eq 5, 3) := by decide +kernel
theorem dX5_tokenIs_55 : decode cX5_tokenIs 55 = .ok (.iconst 0, 1) := by decide +kernel
theorem dX5_tokenIs_56 : decode cX5_tokenIs 56 = .ok (.ireturn, 1) := by decide +kernel
theorem dX5_tokenIs_57 : decode cX5_tokenIs 57 = .ok (.iinc 2 1, 3) := by decide +kernel
theorem dX5_tokenIs_60 : decode cX5_tokenIs 60 = .ok (.goto (-32), 3) := by decide +kernel
theorem dX5_tokenIs_63 : decode cX5_tokenIs 63 = .ok (.iconst 1, 1) := by decide +kernel
theorem dX5_tokenIs_64 : decode cX5_tokenIs 64 = .ok (.ireturn, 1) := by decide +kernel
theorem dX5_advance_0 : decode cX5_advance 0 = .ok (.aload_n 0, 1) := by decide +kernel
theorem dX5_advance_1 : decode cX5_advance 1 = .ok (.aload_n 0, 1) := by decide +kernel
theorem dX5_advance_2 : decode cX5_advance 2 = .ok (.getfield 31, 3) := by decide +kernel
theorem dX5_advance_5 : decode cX5_advance 5 = .ok (.putfield 247, 3) := by decide +kernel
theorem dX5_advance_8 : decode cX5_advance 8 = .ok (.aload_n 0, 1) := by decide +kernel
theorem dX5_advance_9 : decode cX5_advance 9 = .ok (.getfield 247, 3) := by decide +kernel
theorem dX5_advance_12 : decode cX5_advance 12 = .ok (.aload_n 0, 1) := by decide +kernel
theorem dX5_advance_13 : decode cX5_advance 13 = .ok (.getfield 28, 3) := by decide +kernel
theorem dX5_advance_16 : decode cX5_advance 16 = .ok (.if_icmp .ge 44, 3) := by decide +kernel
theorem dX5_advance_19 : decode cX5_advance 19 = .ok (.aload_n 0, 1) := by decide +kernel
theorem dX5_advance_20 : decode cX5_advance 20 = .ok (.getfield 18, 3) := by decide +kernel
theorem dX5_advance_23 : decode cX5_advance 23 = .ok (.aload_n 0, 1) := by decide +kernel
theorem dX5_advance_24 : decode cX5_advance 24 = .ok (.getfield 247, 3) := by decide +kernel
theorem dX5_advance_27 : decode cX5_advance 27 = .ok (.iaload, 1) := by decide +kernel
theorem dX5_advance_28 : decode cX5_advance 28 = .ok (.bipush 10, 2) := by decide +kernel
theorem dX5_advance_30 : decode cX5_advance 30 = .ok (.if_icmp .eq 17, 3) := by decide +kernel
theorem dX5_advance_33 : decode cX5_advance 33 = .ok (.aload_n 0, 1) := by decide +kernel
theorem dX5_advance_34 : decode cX5_advance 34 = .ok (.getfield 18, 3) := by decide +kernel
theorem dX5_advance_37 : decode cX5_advance 37 = .ok (.aload_n 0, 1) := by decide +kernel
theorem dX5_advance_38 : decode cX5_advance 38 = .ok (.getfield 247, 3) := by decide +kernel
theorem dX5_advance_41 : decode cX5_advance 41 = .ok (.iaload, 1) := by decide +kernel
theorem dX5_advance_42 : decode cX5_advance 42 = .ok (.bipush 32, 2) := by decide +kernel
theorem dX5_advance_44 : decode cX5_advance 44 = .ok (.if_icmp .ne 16, 3) := by decide +kernel
theorem dX5_advance_47 : decode cX5_advance 47 = .ok (.aload_n 0, 1) := by decide +kernel
theorem dX5_advance_48 : decode cX5_advance 48 = .ok (.dup, 1) := by decide +kernel
theorem dX5_advance_49 : decode cX5_advance 49 = .ok (.getfield 247, 3) := by decide +kernel
theorem dX5_advance_52 : decode cX5_advance 52 = .ok (.iconst 1, 1) := by decide +kernel
theorem dX5_advance_53 : decode cX5_advance 53 = .ok (.iadd, 1) := by decide +kernel
theorem dX5_advance_54 : decode cX5_advance 54 = .ok (.putfield 247, 3) := by decide +kernel
theorem dX5_advance_57 : decode cX5_advance 57 = .ok (.goto (-49), 3) := by decide +kernel
theorem dX5_advance_60 : decode cX5_advance 60 = .ok (.aload_n 0, 1) := by decide +kernel
theorem dX5_advance_61 : decode cX5_advance 61 = .ok (.aload_n 0, 1) := by decide +kernel
theorem dX5_advance_62 : decode cX5_advance 62 = .ok (.getfield 247, 3) := by decide +kernel
theorem dX5_advance_65 : decode cX5_advance 65 = .ok (.putfield 31, 3) := by decide +kernel
theorem dX5_advance_68 : decode cX5_advance 68 = .ok (.aload_n 0, 1) := by decide +kernel
theorem dX5_advance_69 : decode cX5_advance 69 = .ok (.iconst 0, 1) := by decide +kernel
theorem dX5_advance_70 : decode cX5_advance 70 = .ok (.putfield 218, 3) := by decide +kernel
theorem dX5_advance_73 : decode cX5_advance 73 = .ok (.aload_n 0, 1) := by decide +kernel
theorem dX5_advance_74 : decode cX5_advance 74 = .ok (.getfield 247, 3) := by decide +kernel
theorem dX5_advance_77 : decode cX5_advance 77 = .ok (.aload_n 0, 1) := by decide +kernel
theorem dX5_advance_78 : decode cX5_advance 78 = .ok (.getfield 28, 3) := by decide +kernel
theorem dX5_advance_81 : decode cX5_advance 81 = .ok (.if_icmp .lt 9, 3) := by decide +kernel
theorem dX5_advance_84 : decode cX5_advance 84 = .ok (.aload_n 0, 1) := by decide +kernel
theorem dX5_advance_85 : decode cX5_advance 85 = .ok (.iconst 0, 1) := by decide +kernel
theorem dX5_advance_86 : decode cX5_advance 86 = .ok (.putfield 50, 3) := by decide +kernel
theorem dX5_advance_89 : decode cX5_advance 89 = .ok (.return_, 1) := by decide +kernel
theorem dX5_advance_90 : decode cX5_advance 90 = .ok (.aload_n 0, 1) := by decide +kernel
theorem dX5_advance_91 : decode cX5_advance 91 = .ok (.getfield 31, 3) := by decide +kernel
theorem dX5_advance_94 : decode cX5_advance 94 = .ok (.aload_n 0, 1) := by decide +kernel
theorem dX5_advance_95 : decode cX5_advance 95 = .ok (.getfield 28, 3) := by decide +kernel
theorem dX5_advance_98 : decode cX5_advance 98 = .ok (.if_icmp .ge 75, 3) := by decide +kernel
theorem dX5_advance_101 : decode cX5_advance 101 = .ok (.aload_n 0, 1) := by decide +kernel
theorem dX5_advance_102 : decode cX5_advance 102 = .ok (.getfield 18, 3) := by decide +kernel
theorem dX5_advance_105 : decode cX5_advance 105 = .ok (.aload_n 0, 1) := by decide +kernel
theorem dX5_advance_106 : decode cX5_advance 106 = .ok (.getfield 31, 3) := by decide +kernel
theorem dX5_advance_109 : decode cX5_advance 109 = .ok (.iaload, 1) := by decide +kernel
theorem dX5_advance_110 : decode cX5_advance 110 = .ok (.invokestatic 258, 3) := by decide +kernel
theorem dX5_advance_113 : decode cX5_advance 113 = .ok (.ifCond .eq 60, 3) := by decide +kernel
theorem dX5_advance_116 : decode cX5_advance 116 = .ok (.aload_n 0, 1) := by decide +kernel
theorem dX5_advance_117 : decode cX5_advance 117 = .ok (.aload_n 0, 1) := by decide +kernel
theorem dX5_advance_118 : decode cX5_advance 118 = .ok (.getfield 31, 3) := by decide +kernel
theorem dX5_advance_121 : decode cX5_advance 121 = .ok (.aload_n 0, 1) := by decide +kernel
theorem dX5_advance_122 : decode cX5_advance 122 = .ok (.getfield 247, 3) := by decide +kernel
theorem dX5_advance_125 : decode cX5_advance 125 = .ok (.isub, 1) := by decide +kernel
theorem dX5_advance_126 : decode cX5_advance 126 = .ok (.iconst 3, 1) := by decide +kernel
theorem dX5_advance_127 : decode cX5_advance 127 = .ok (.if_icmp .ge 26, 3) := by decide +kernel
theorem dX5_advance_130 : decode cX5_advance 130 = .ok (.aload_n 0, 1) := by decide +kernel
theorem dX5_advance_131 : decode cX5_advance 131 = .ok (.getfield 218, 3) := by decide +kernel
theorem dX5_advance_134 : decode cX5_advance 134 = .ok (.bipush 10, 2) := by decide +kernel
theorem dX5_advance_136 : decode cX5_advance 136 = .ok (.imul, 1) := by decide +kernel
theorem dX5_advance_137 : decode cX5_advance 137 = .ok (.aload_n 0, 1) := by decide +kernel
theorem dX5_advance_138 : decode cX5_advance 138 = .ok (.getfield 18, 3) := by decide +kernel
theorem dX5_advance_141 : decode cX5_advance 141 = .ok (.aload_n 0, 1) := by decide +kernel
theorem dX5_advance_142 : decode cX5_advance 142 = .ok (.getfield 31, 3) := by decide +kernel
theorem dX5_advance_145 : decode cX5_advance 145 = .ok (.iaload, 1) := by decide +kernel
theorem dX5_advance_146 : decode cX5_advance 146 = .ok (.iadd, 1) := by decide +kernel
theorem dX5_advance_147 : decode cX5_advance 147 = .ok (.bipush 48, 2) := by decide +kernel
theorem dX5_advance_149 : decode cX5_advance 149 = .ok (.isub, 1) := by decide +kernel
theorem dX5_advance_150 : decode cX5_advance 150 = .ok (.goto 7, 3) := by decide +kernel
theorem dX5_advance_153 : decode cX5_advance 153 = .ok (.aload_n 0, 1) := by decide +kernel
theorem dX5_advance_154 : decode cX5_advance 154 = .ok (.getfield 218, 3) := by decide +kernel
theorem dX5_advance_157 : decode cX5_advance 157 = .ok (.putfield 218, 3) := by decide +kernel
theorem dX5_advance_160 : decode cX5_advance 160 = .ok (.aload_n 0, 1) := by decide +kernel
theorem dX5_advance_161 : decode cX5_advance 161 = .ok (.dup, 1) := by decide +kernel
theorem dX5_advance_162 : decode cX5_advance 162 = .ok (.getfield 31, 3) := by decide +kernel
theorem dX5_advance_165 : decode cX5_advance 165 = .ok (.iconst 1, 1) := by decide +kernel
theorem dX5_advance_166 : decode cX5_advance 166 = .ok (.iadd, 1) := by decide +kernel
theorem dX5_advance_167 : decode cX5_advance 167 = .ok (.putfield 31, 3) := by decide +kernel
theorem dX5_advance_170 : decode cX5_advance 170 = .ok (.goto (-80), 3) := by decide +kernel
theorem dX5_advance_173 : decode cX5_advance 173 = .ok (.aload_n 0, 1) := by decide +kernel
theorem dX5_advance_174 : decode cX5_advance 174 = .ok (.getfield 31, 3) := by decide +kernel
theorem dX5_advance_177 : decode cX5_advance 177 = .ok (.aload_n 0, 1) := by decide +kernel
theorem dX5_advance_178 : decode cX5_advance 178 = .ok (.getfield 247, 3) := by decide +kernel
theorem dX5_advance_181 : decode cX5_advance 181 = .ok (.if_icmp .le 26, 3) := by decide +kernel
theorem dX5_advance_184 : decode cX5_advance 184 = .ok (.aload_n 0, 1) := by decide +kernel
theorem dX5_advance_185 : decode cX5_advance 185 = .ok (.aload_n 0, 1) := by decide +kernel
theorem dX5_advance_186 : decode cX5_advance 186 = .ok (.getfield 31, 3) := by decide +kernel
theorem dX5_advance_189 : decode cX5_advance 189 = .ok (.aload_n 0, 1) := by decide +kernel
theorem dX5_advance_190 : decode cX5_advance 190 = .ok (.getfield 247, 3) := by decide +kernel
theorem dX5_advance_193 : decode cX5_advance 193 = .ok (.isub, 1) := by decide +kernel
theorem dX5_advance_194 : decode cX5_advance 194 = .ok (.iconst 3, 1) := by decide +kernel
theorem dX5_advance_195 : decode cX5_advance 195 = .ok (.if_icmp .gt 7, 3) := by decide +kernel
theorem dX5_advance_198 : decode cX5_advance 198 = .ok (.iconst 2, 1) := by decide +kernel
theorem dX5_advance_199 : decode cX5_advance 199 = .ok (.goto 4, 3) := by decide +kernel
theorem dX5_advance_202 : decode cX5_advance 202 = .ok (.iconst 1, 1) := by decide +kernel
theorem dX5_advance_203 : decode cX5_advance 203 = .ok (.putfield 50, 3) := by decide +kernel
theorem dX5_advance_206 : decode cX5_advance 206 = .ok (.return_, 1) := by decide +kernel
theorem dX5_advance_207 : decode cX5_advance 207 = .ok (.aload_n 0, 1) := by decide +kernel
theorem dX5_advance_208 : decode cX5_advance 208 = .ok (.getfield 31, 3) := by decide +kernel
theorem dX5_advance_211 : decode cX5_advance 211 = .ok (.aload_n 0, 1) := by decide +kernel
theorem dX5_advance_212 : decode cX5_advance 212 = .ok (.getfield 28, 3) := by decide +kernel
theorem dX5_advance_215 : decode cX5_advance 215 = .ok (.if_icmp .ge 31, 3) := by decide +kernel
theorem dX5_advance_218 : decode cX5_advance 218 = .ok (.aload_n 0, 1) := by decide +kernel
theorem dX5_advance_219 : decode cX5_advance 219 = .ok (.getfield 18, 3) := by decide +kernel
theorem dX5_advance_222 : decode cX5_advance 222 = .ok (.aload_n 0, 1) := by decide +kernel
theorem dX5_advance_223 : decode cX5_advance 223 = .ok (.getfield 31, 3) := by decide +kernel
theorem dX5_advance_226 : decode cX5_advance 226 = .ok (.iaload, 1) := by decide +kernel
theorem dX5_advance_227 : decode cX5_advance 227 = .ok (.invokestatic 261, 3) := by decide +kernel
theorem dX5_advance_230 : decode cX5_advance 230 = .ok (.ifCond .eq 16, 3) := by decide +kernel
theorem dX5_advance_233 : decode cX5_advance 233 = .ok (.aload_n 0, 1) := by decide +kernel
theorem dX5_advance_234 : decode cX5_advance 234 = .ok (.dup, 1) := by decide +kernel
theorem dX5_advance_235 : decode cX5_advance 235 = .ok (.getfield 31, 3) := by decide +kernel
theorem dX5_advance_238 : decode cX5_advance 238 = .ok (.iconst 1, 1) := by decide +kernel
theorem dX5_advance_239 : decode cX5_advance 239 = .ok (.iadd, 1) := by decide +kernel
theorem dX5_advance_240 : decode cX5_advance 240 = .ok (.putfield 31, 3) := by decide +kernel
theorem dX5_advance_243 : decode cX5_advance 243 = .ok (.goto (-36), 3) := by decide +kernel
theorem dX5_advance_246 : decode cX5_advance 246 = .ok (.aload_n 0, 1) := by decide +kernel
theorem dX5_advance_247 : decode cX5_advance 247 = .ok (.aload_n 0, 1) := by decide +kernel
theorem dX5_advance_248 : decode cX5_advance 248 = .ok (.getfield 31, 3) := by decide +kernel
theorem dX5_advance_251 : decode cX5_advance 251 = .ok (.aload_n 0, 1) := by decide +kernel
theorem dX5_advance_252 : decode cX5_advance 252 = .ok (.getfield 247, 3) := by decide +kernel
theorem dX5_advance_255 : decode cX5_advance 255 = .ok (.if_icmp .gt 18, 3) := by decide +kernel
theorem dX5_advance_258 : decode cX5_advance 258 = .ok (.aload_n 0, 1) := by decide +kernel
theorem dX5_advance_259 : decode cX5_advance 259 = .ok (.getfield 18, 3) := by decide +kernel
theorem dX5_advance_262 : decode cX5_advance 262 = .ok (.aload_n 0, 1) := by decide +kernel
theorem dX5_advance_263 : decode cX5_advance 263 = .ok (.getfield 247, 3) := by decide +kernel
theorem dX5_advance_266 : decode cX5_advance 266 = .ok (.iaload, 1) := by decide +kernel
theorem dX5_advance_267 : decode cX5_advance 267 = .ok (.invokestatic 264, 3) := by decide +kernel
theorem dX5_advance_270 : decode cX5_advance 270 = .ok (.ifCond .eq 7, 3) := by decide +kernel
theorem dX5_advance_273 : decode cX5_advance 273 = .ok (.iconst 3, 1) := by decide +kernel
theorem dX5_advance_274 : decode cX5_advance 274 = .ok (.goto 4, 3) := by decide +kernel
theorem dX5_advance_277 : decode cX5_advance 277 = .ok (.iconst 1, 1) := by decide +kernel
theorem dX5_advance_278 : decode cX5_advance 278 = .ok (.putfield 50, 3) := by decide +kernel
theorem dX5_advance_281 : decode cX5_advance 281 = .ok (.aload_n 0, 1) := by decide +kernel
theorem dX5_advance_282 : decode cX5_advance 282 = .ok (.aload_n 0, 1) := by decide +kernel
theorem dX5_advance_283 : decode cX5_advance 283 = .ok (.getfield 31, 3) := by decide +kernel
theorem dX5_advance_286 : decode cX5_advance 286 = .ok (.aload_n 0, 1) := by decide +kernel
theorem dX5_advance_287 : decode cX5_advance 287 = .ok (.getfield 247, 3) := by decide +kernel
theorem dX5_advance_290 : decode cX5_advance 290 = .ok (.iconst 1, 1) := by decide +kernel
theorem dX5_advance_291 : decode cX5_advance 291 = .ok (.iadd, 1) := by decide +kernel
theorem dX5_advance_292 : decode cX5_advance 292 = .ok (.invokestatic 267, 3) := by decide +kernel
theorem dX5_advance_295 : decode cX5_advance 295 = .ok (.putfield 31, 3) := by decide +kernel
theorem dX5_advance_298 : decode cX5_advance 298 = .ok (.return_, 1) := by decide +kernel
theorem dX5_isDigit_0 : decode cX5_isDigit 0 = .ok (.iload_n 0, 1) := by decide +kernel
theorem dX5_isDigit_1 : decode cX5_isDigit 1 = .ok (.bipush 48, 2) := by decide +kernel
theorem dX5_isDigit_3 : decode cX5_isDigit 3 = .ok (.if_icmp .lt 13, 3) := by decide +kernel
theorem dX5_isDigit_6 : decode cX5_isDigit 6 = .ok (.iload_n 0, 1) := by decide +kernel
theorem dX5_isDigit_7 : decode cX5_isDigit 7 = .ok (.bipush 57, 2) := by decide +kernel
theorem dX5_isDigit_9 : decode cX5_isDigit 9 = .ok (.if_icmp .gt 7, 3) := by decide +kernel
theorem dX5_isDigit_12 : decode cX5_isDigit 12 = .ok (.iconst 1, 1) := by decide +kernel
theorem dX5_isDigit_13 : decode cX5_isDigit 13 = .ok (.goto 4, 3) := by decide +kernel
theorem dX5_isDigit_16 : decode cX5_isDigit 16 = .ok (.iconst 0, 1) := by decide +kernel
theorem dX5_isDigit_17 : decode cX5_isDigit 17 = .ok (.ireturn, 1) := by decide +kernel
theorem dX5_isLetter_0 : decode cX5_isLetter 0 = .ok (.iload_n 0, 1) := by decide +kernel
theorem dX5_isLetter_1 : decode cX5_isLetter 1 = .ok (.bipush 97, 2) := by decide +kernel
theorem dX5_isLetter_3 : decode cX5_isLetter 3 = .ok (.if_icmp .lt 13, 3) := by decide +kernel
theorem dX5_isLetter_6 : decode cX5_isLetter 6 = .ok (.iload_n 0, 1) := by decide +kernel
theorem dX5_isLetter_7 : decode cX5_isLetter 7 = .ok (.bipush 122, 2) := by decide +kernel
theorem dX5_isLetter_9 : decode cX5_isLetter 9 = .ok (.if_icmp .gt 7, 3) := by decide +kernel
theorem dX5_isLetter_12 : decode cX5_isLetter 12 = .ok (.iconst 1, 1) := by decide +kernel
theorem dX5_isLetter_13 : decode cX5_isLetter 13 = .ok (.goto 4, 3) := by decide +kernel
theorem dX5_isLetter_16 : decode cX5_isLetter 16 = .ok (.iconst 0, 1) := by decide +kernel
theorem dX5_isLetter_17 : decode cX5_isLetter 17 = .ok (.ireturn, 1) := by decide +kernel
theorem dX5_isSign_0 : decode cX5_isSign 0 = .ok (.ldc_w 270, 3) := by decide +kernel
theorem dX5_isSign_3 : decode cX5_isSign 3 = .ok (.iload_n 0, 1) := by decide +kernel
theorem dX5_isSign_4 : decode cX5_isSign 4 = .ok (.i2c, 1) := by decide +kernel
theorem dX5_isSign_5 : decode cX5_isSign 5 = .ok (.invokevirtual 272, 3) := by decide +kernel
theorem dX5_isSign_8 : decode cX5_isSign 8 = .ok (.ifCond .lt 7, 3) := by decide +kernel
theorem dX5_isSign_11 : decode cX5_isSign 11 = .ok (.iconst 1, 1) := by decide +kernel
theorem dX5_isSign_12 : decode cX5_isSign 12 = .ok (.goto 4, 3) := by decide +kernel
theorem dX5_isSign_15 : decode cX5_isSign 15 = .ok (.iconst 0, 1) := by decide +kernel
theorem dX5_isSign_16 : decode cX5_isSign 16 = .ok (.ireturn, 1) := by decide +kernel
theorem dX6_init_0 : decode cX6_init 0 = .ok (.aload_n 0, 1) := by decide +kernel
theorem dX6_init_1 : decode cX6_init 1 = .ok (.invokespecial 3, 3) := by decide +kernel
theorem dX6_init_4 : decode cX6_init 4 = .ok (.aload_n 0, 1) := by decide +kernel
theorem dX6_init_5 : decode cX6_init 5 = .ok (.bipush 10, 2) := by decide +kernel
theorem dX6_init_7 : decode cX6_init 7 = .ok (.newarray .int, 2) := by decide +kernel
theorem dX6_init_9 : decode cX6_init 9 = .ok (.putfield 9, 3) := by decide +kernel
theorem dX6_init_12 : decode cX6_init 12 = .ok (.aload_n 0, 1) := by decide +kernel
theorem dX6_init_13 : decode cX6_init 13 = .ok (.iconst 0, 1) := by decide +kernel
theorem dX6_init_14 : decode cX6_init 14 = .ok (.putfield 15, 3) := by decide +kernel
theorem dX6_init_17 : decode cX6_init 17 = .ok (.aload_n 0, 1) := by decide +kernel
theorem dX6_init_18 : decode cX6_init 18 = .ok (.aload_n 1, 1) := by decide +kernel
theorem dX6_init_19 : decode cX6_init 19 = .ok (.putfield 19, 3) := by decide +kernel
theorem dX6_init_22 : decode cX6_init 22 = .ok (.aload_n 0, 1) := by decide +kernel
theorem dX6_init_23 : decode cX6_init 23 = .ok (.aload_n 2, 1) := by decide +kernel
theorem dX6_init_24 : decode cX6_init 24 = .ok (.putfield 23, 3) := by decide +kernel
theorem dX6_init_27 : decode cX6_init 27 = .ok (.aload_n 0, 1) := by decide +kernel
theorem dX6_init_28 : decode cX6_init 28 = .ok (.aload_n 3, 1) := by decide +kernel
theorem dX6_init_29 : decode cX6_init 29 = .ok (.putfield 27, 3) := by decide +kernel
theorem dX6_init_32 : decode cX6_init 32 = .ok (.aload_n 0, 1) := by decide +kernel
theorem dX6_init_33 : decode cX6_init 33 = .ok (.aload 4, 2) := by decide +kernel
theorem dX6_init_35 : decode cX6_init 35 = .ok (.putfield 30, 3) := by decide +kernel
theorem dX6_init_38 : decode cX6_init 38 = .ok (.aload_n 0, 1) := by decide +kernel
theorem dX6_init_39 : decode cX6_init 39 = .ok (.aload 5, 2) := by decide +kernel
theorem dX6_init_41 : decode cX6_init 41 = .ok (.putfield 34, 3) := by decide +kernel
theorem dX6_init_44 : decode cX6_init 44 = .ok (.return_, 1) := by decide +kernel
theorem dX6_wantNothing_0 : decode cX6_wantNothing 0 = .ok (.aload_n 0, 1) := by decide +kernel
theorem dX6_wantNothing_1 : decode cX6_wantNothing 1 = .ok (.iload_n 1, 1) := by decide +kernel
theorem dX6_wantNothing_2 : decode cX6_wantNothing 2 = .ok (.bipush 10, 2) := by decide +kernel
theorem dX6_wantNothing_4 : decode cX6_wantNothing 4 = .ok (.invokestatic 37, 3) := by decide +kernel
theorem dX6_wantNothing_7 : decode cX6_wantNothing 7 = .ok (.putfield 15, 3) := by decide +kernel
theorem dX6_wantNothing_10 : decode cX6_wantNothing 10 = .ok (.aload_n 0, 1) := by decide +kernel
theorem dX6_wantNothing_11 : decode cX6_wantNothing 11 = .ok (.getfield 9, 3) := by decide +kernel
theorem dX6_wantNothing_14 : decode cX6_wantNothing 14 = .ok (.iconst (-1), 1) := by decide +kernel
theorem dX6_wantNothing_15 : decode cX6_wantNothing 15 = .ok (.invokestatic 43, 3) := by decide +kernel
theorem dX6_wantNothing_18 : decode cX6_wantNothing 18 = .ok (.return_, 1) := by decide +kernel
theorem dX6_want_0 : decode cX6_want 0 = .ok (.aload_n 0, 1) := by decide +kernel
theorem dX6_want_1 : decode cX6_want 1 = .ok (.aload_n 1, 1) := by decide +kernel
theorem dX6_want_2 : decode cX6_want 2 = .ok (.getfield 49, 3) := by decide +kernel
theorem dX6_want_5 : decode cX6_want 5 = .ok (.bipush 10, 2) := by decide +kernel
theorem dX6_want_7 : decode cX6_want 7 = .ok (.invokestatic 37, 3) := by decide +kernel
theorem dX6_want_10 : decode cX6_want 10 = .ok (.putfield 15, 3) := by decide +kernel
theorem dX6_want_13 : decode cX6_want 13 = .ok (.iconst 0, 1) := by decide +kernel
theorem dX6_want_14 : decode cX6_want 14 = .ok (.istore_n 2, 1) := by decide +kernel
theorem dX6_want_15 : decode cX6_want 15 = .ok (.iload_n 2, 1) := by decide +kernel
theorem dX6_want_16 : decode cX6_want 16 = .ok (.aload_n 0, 1) := by decide +kernel
theorem dX6_want_17 : decode cX6_want 17 = .ok (.getfield 15, 3) := by decide +kernel
theorem dX6_want_20 : decode cX6_want 20 = .ok (.if_icmp .ge 22, 3) := by decide +kernel
theorem dX6_want_23 : decode cX6_want 23 = .ok (.aload_n 0, 1) := by decide +kernel
theorem dX6_want_24 : decode cX6_want 24 = .ok (.getfield 9, 3) := by decide +kernel
theorem dX6_want_27 : decode cX6_want 27 = .ok (.iload_n 2, 1) := by decide +kernel
theorem dX6_want_28 : decode cX6_want 28 = .ok (.aload_n 1, 1) := by decide +kernel
theorem dX6_want_29 : decode cX6_want 29 = .ok (.getfield 54, 3) := by decide +kernel
theorem dX6_want_32 : decode cX6_want 32 = .ok (.iload_n 2, 1) := by decide +kernel
theorem dX6_want_33 : decode cX6_want 33 = .ok (.laload, 1) := by decide +kernel
theorem dX6_want_34 : decode cX6_want 34 = .ok (.l2i, 1) := by decide +kernel
theorem dX6_want_35 : decode cX6_want 35 = .ok (.iastore, 1) := by decide +kernel
theorem dX6_want_36 : decode cX6_want 36 = .ok (.iinc 2 1, 3) := by decide +kernel
theorem dX6_want_39 : decode cX6_want 39 = .ok (.goto (-24), 3) := by decide +kernel
theorem dX6_want_42 : decode cX6_want 42 = .ok (.return_, 1) := by decide +kernel
theorem dX6_tally_0 : decode cX6_tally 0 = .ok (.iconst 0, 1) := by decide +kernel
theorem dX6_tally_1 : decode cX6_tally 1 = .ok (.istore_n 2, 1) := by decide +kernel
theorem dX6_tally_2 : decode cX6_tally 2 = .ok (.iload_n 2, 1) := by decide +kernel
theorem dX6_tally_3 : decode cX6_tally 3 = .ok (.aload_n 0, 1) := by decide +kernel
theorem dX6_tally_4 : decode cX6_tally 4 = .ok (.getfield 23, 3) := by decide +kernel
theorem dX6_tally_7 : decode cX6_tally 7 = .ok (.getfield 57, 3) := by decide +kernel
theorem dX6_tally_10 : decode cX6_tally 10 = .ok (.if_icmp .ge 24, 3) := by decide +kernel
theorem dX6_tally_13 : decode cX6_tally 13 = .ok (.aload_n 0, 1) := by decide +kernel
theorem dX6_tally_14 : decode cX6_tally 14 = .ok (.getfield 27, 3) := by decide +kernel
theorem dX6_tally_17 : decode cX6_tally 17 = .ok (.aload_n 0, 1) := by decide +kernel
theorem dX6_tally_18 : decode cX6_tally 18 = .ok (.getfield 23, 3) := by decide +kernel
theorem dX6_tally_21 : decode cX6_tally 21 = .ok (.getfield 60, 3) := by decide +kernel
theorem dX6_tally_24 : decode cX6_tally 24 = .ok (.iload_n 2, 1) := by decide +kernel
theorem dX6_tally_25 : decode cX6_tally 25 = .ok (.iaload, 1) := by decide +kernel
theorem dX6_tally_26 : decode cX6_tally 26 = .ok (.iconst 0, 1) := by decide +kernel
theorem dX6_tally_27 : decode cX6_tally 27 = .ok (.iastore, 1) := by decide +kernel
theorem dX6_tally_28 : decode cX6_tally 28 = .ok (.iinc 2 1, 3) := by decide +kernel
theorem dX6_tally_31 : decode cX6_tally 31 = .ok (.goto (-29), 3) := by decide +kernel
theorem dX6_tally_34 : decode cX6_tally 34 = .ok (.aload_n 0, 1) := by decide +kernel
theorem dX6_tally_35 : decode cX6_tally 35 = .ok (.getfield 30, 3) := by decide +kernel
theorem dX6_tally_38 : decode cX6_tally 38 = .ok (.iload_n 1, 1) := by decide +kernel
theorem dX6_tally_39 : decode cX6_tally 39 = .ok (.lconst 1, 1) := by decide +kernel
theorem dX6_tally_40 : decode cX6_tally 40 = .ok (.lastore, 1) := by decide +kernel
theorem dX6_tally_41 : decode cX6_tally 41 = .ok (.aload_n 0, 1) := by decide +kernel
theorem dX6_tally_42 : decode cX6_tally 42 = .ok (.getfield 27, 3) := by decide +kernel
theorem dX6_tally_45 : decode cX6_tally 45 = .ok (.iload_n 1, 1) := by decide +kernel
theorem dX6_tally_46 : decode cX6_tally 46 = .ok (.iconst 1, 1) := by decide +kernel
theorem dX6_tally_47 : decode cX6_tally 47 = .ok (.iastore, 1) := by decide +kernel
theorem dX6_tally_48 : decode cX6_tally 48 = .ok (.iconst 1, 1) := by decide +kernel
theorem dX6_tally_49 : decode cX6_tally 49 = .ok (.istore_n 2, 1) := by decide +kernel
theorem dX6_tally_50 : decode cX6_tally 50 = .ok (.iload_n 2, 1) := by decide +kernel
theorem dX6_tally_51 : decode cX6_tally 51 = .ok (.aload_n 0, 1) := by decide +kernel
theorem dX6_tally_52 : decode cX6_tally 52 = .ok (.getfield 15, 3) := by decide +kernel
theorem dX6_tally_55 : decode cX6_tally 55 = .ok (.if_icmp .gt 14, 3) := by decide +kernel
theorem dX6_tally_58 : decode cX6_tally 58 = .ok (.aload_n 0, 1) := by decide +kernel
theorem dX6_tally_59 : decode cX6_tally 59 = .ok (.iload_n 2, 1) := by decide +kernel
theorem dX6_tally_60 : decode cX6_tally 60 = .ok (.invokevirtual 63, 3) := by decide +kernel
theorem dX6_tally_63 : decode cX6_tally 63 = .ok (.iinc 2 1, 3) := by decide +kernel
theorem dX6_tally_66 : decode cX6_tally 66 = .ok (.goto (-16), 3) := by decide +kernel
theorem dX6_tally_69 : decode cX6_tally 69 = .ok (.return_, 1) := by decide +kernel
theorem dX6_spread_0 : decode cX6_spread 0 = .ok (.aload_n 0, 1) := by decide +kernel
theorem dX6_spread_1 : decode cX6_spread 1 = .ok (.iload_n 1, 1) := by decide +kernel
theorem dX6_spread_2 : decode cX6_spread 2 = .ok (.invokevirtual 67, 3) := by decide +kernel
theorem dX6_spread_5 : decode cX6_spread 5 = .ok (.istore_n 2, 1) := by decide +kernel
theorem dX6_spread_6 : decode cX6_spread 6 = .ok (.iconst 0, 1) := by decide +kernel
theorem dX6_spread_7 : decode cX6_spread 7 = .ok (.istore_n 3, 1) := by decide +kernel
theorem dX6_spread_8 : decode cX6_spread 8 = .ok (.iload_n 3, 1) := by decide +kernel
theorem dX6_spread_9 : decode cX6_spread 9 = .ok (.iload_n 2, 1) := by decide +kernel
theorem dX6_spread_10 : decode cX6_spread 10 = .ok (.if_icmp .ge 24, 3) := by decide +kernel
theorem dX6_spread_13 : decode cX6_spread 13 = .ok (.aload_n 0, 1) := by decide +kernel
theorem dX6_spread_14 : decode cX6_spread 14 = .ok (.getfield 34, 3) := by decide +kernel
theorem dX6_spread_17 : decode cX6_spread 17 = .ok (.aload_n 0, 1) := by decide +kernel
theorem dX6_spread_18 : decode cX6_spread 18 = .ok (.getfield 23, 3) := by decide +kernel
theorem dX6_spread_21 : decode cX6_spread 21 = .ok (.getfield 60, 3) := by decide +kernel
theorem dX6_spread_24 : decode cX6_spread 24 = .ok (.iload_n 3, 1) := by decide +kernel
theorem dX6_spread_25 : decode cX6_spread 25 = .ok (.iaload, 1) := by decide +kernel
theorem dX6_spread_26 : decode cX6_spread 26 = .ok (.lconst 0, 1) := by decide +kernel
theorem dX6_spread_27 : decode cX6_spread 27 = .ok (.lastore, 1) := by decide +kernel
theorem dX6_spread_28 : decode cX6_spread 28 = .ok (.iinc 3 1, 3) := by decide +kernel
theorem dX6_spread_31 : decode cX6_spread 31 = .ok (.goto (-23), 3) := by decide +kernel
theorem dX6_spread_34 : decode cX6_spread 34 = .ok (.aload_n 0, 1) := by decide +kernel
theorem dX6_spread_35 : decode cX6_spread 35 = .ok (.iload_n 1, 1) := by decide +kernel
theorem dX6_spread_36 : decode cX6_spread 36 = .ok (.iconst 1, 1) := by decide +kernel
theorem dX6_spread_37 : decode cX6_spread 37 = .ok (.isub, 1) := by decide +kernel
theorem dX6_spread_38 : decode cX6_spread 38 = .ok (.invokevirtual 67, 3) := by decide +kernel
theorem dX6_spread_41 : decode cX6_spread 41 = .ok (.istore_n 3, 1) := by decide +kernel
theorem dX6_spread_42 : decode cX6_spread 42 = .ok (.iconst 0, 1) := by decide +kernel
theorem dX6_spread_43 : decode cX6_spread 43 = .ok (.istore 4, 2) := by decide +kernel
theorem dX6_spread_45 : decode cX6_spread 45 = .ok (.iload 4, 2) := by decide +kernel
theorem dX6_spread_47 : decode cX6_spread 47 = .ok (.iload_n 3, 1) := by decide +kernel
theorem dX6_spread_48 : decode cX6_spread 48 = .ok (.if_icmp .ge 122, 3) := by decide +kernel
theorem dX6_spread_51 : decode cX6_spread 51 = .ok (.aload_n 0, 1) := by decide +kernel
theorem dX6_spread_52 : decode cX6_spread 52 = .ok (.getfield 23, 3) := by decide +kernel
theorem dX6_spread_55 : decode cX6_spread 55 = .ok (.getfield 60, 3) := by decide +kernel
theorem dX6_spread_58 : decode cX6_spread 58 = .ok (.iload 4, 2) := by decide +kernel
theorem dX6_spread_60 : decode cX6_spread 60 = .ok (.iaload, 1) := by decide +kernel
theorem dX6_spread_61 : decode cX6_spread 61 = .ok (.istore 5, 2) := by decide +kernel
theorem dX6_spread_63 : decode cX6_spread 63 = .ok (.aload_n 0, 1) := by decide +kernel
theorem dX6_spread_64 : decode cX6_spread 64 = .ok (.getfield 30, 3) := by decide +kernel
theorem dX6_spread_67 : decode cX6_spread 67 = .ok (.iload 5, 2) := by decide +kernel
theorem dX6_spread_69 : decode cX6_spread 69 = .ok (.laload, 1) := by decide +kernel
theorem dX6_spread_70 : decode cX6_spread 70 = .ok (.lconst 0, 1) := by decide +kernel
theorem dX6_spread_71 : decode cX6_spread 71 = .ok (.lcmp, 1) := by decide +kernel
theorem dX6_spread_72 : decode cX6_spread 72 = .ok (.ifCond .ne 7, 3) := by decide +kernel
theorem dX6_spread_75 : decode cX6_spread 75 = .ok (.iconst 0, 1) := by decide +kernel
theorem dX6_spread_76 : decode cX6_spread 76 = .ok (.goto 12, 3) := by decide +kernel
theorem dX6_spread_79 : decode cX6_spread 79 = .ok (.aload_n 0, 1) := by decide +kernel
theorem dX6_spread_80 : decode cX6_spread 80 = .ok (.getfield 19, 3) := by decide +kernel
theorem dX6_spread_83 : decode cX6_spread 83 = .ok (.iload 5, 2) := by decide +kernel
theorem dX6_spread_85 : decode cX6_spread 85 = .ok (.invokevirtual 71, 3) := by decide +kernel
theorem dX6_spread_88 : decode cX6_spread 88 = .ok (.istore 6, 2) := by decide +kernel
theorem dX6_spread_90 : decode cX6_spread 90 = .ok (.iconst 0, 1) := by decide +kernel
theorem dX6_spread_91 : decode cX6_spread 91 = .ok (.istore 7, 2) := by decide +kernel
theorem dX6_spread_93 : decode cX6_spread 93 = .ok (.iload 7, 2) := by decide +kernel
theorem dX6_spread_95 : decode cX6_spread 95 = .ok (.iload 6, 2) := by decide +kernel
theorem dX6_spread_97 : decode cX6_spread 97 = .ok (.if_icmp .ge 67, 3) := by decide +kernel
theorem dX6_spread_100 : decode cX6_spread 100 = .ok (.aload_n 0, 1) := by decide +kernel
theorem dX6_spread_101 : decode cX6_spread 101 = .ok (.getfield 19, 3) := by decide +kernel
theorem dX6_spread_104 : decode cX6_spread 104 = .ok (.getfield 76, 3) := by decide +kernel
theorem dX6_spread_107 : decode cX6_spread 107 = .ok (.iload 7, 2) := by decide +kernel
theorem dX6_spread_109 : decode cX6_spread 109 = .ok (.iaload, 1) := by decide +kernel
theorem dX6_spread_110 : decode cX6_spread 110 = .ok (.istore 8, 2) := by decide +kernel
theorem dX6_spread_112 : decode cX6_spread 112 = .ok (.aload_n 0, 1) := by decide +kernel
theorem dX6_spread_113 : decode cX6_spread 113 = .ok (.iload 8, 2) := by decide +kernel
theorem dX6_spread_115 : decode cX6_spread 115 = .ok (.invokestatic 79, 3) := by decide +kernel
theorem dX6_spread_118 : decode cX6_spread 118 = .ok (.invokestatic 82, 3) := by decide +kernel
theorem dX6_spread_121 : decode cX6_spread 121 = .ok (.iload_n 1, 1) := by decide +kernel
theorem dX6_spread_122 : decode cX6_spread 122 = .ok (.invokevirtual 87, 3) := by decide +kernel
theorem dX6_spread_125 : decode cX6_spread 125 = .ok (.ifCond .eq 33, 3) := by decide +kernel
theorem dX6_spread_128 : decode cX6_spread 128 = .ok (.aload_n 0, 1) := by decide +kernel
theorem dX6_spread_129 : decode cX6_spread 129 = .ok (.getfield 34, 3) := by decide +kernel
theorem dX6_spread_132 : decode cX6_spread 132 = .ok (.iload 8, 2) := by decide +kernel
theorem dX6_spread_134 : decode cX6_spread 134 = .ok (.dup2, 1) := by decide +kernel
theorem dX6_spread_135 : decode cX6_spread 135 = .ok (.laload, 1) := by decide +kernel
theorem dX6_spread_136 : decode cX6_spread 136 = .ok (.aload_n 0, 1) := by decide +kernel
theorem dX6_spread_137 : decode cX6_spread 137 = .ok (.getfield 30, 3) := by decide +kernel
theorem dX6_spread_140 : decode cX6_spread 140 = .ok (.iload 5, 2) := by decide +kernel
theorem dX6_spread_142 : decode cX6_spread 142 = .ok (.laload, 1) := by decide +kernel
theorem dX6_spread_143 : decode cX6_spread 143 = .ok (.ladd, 1) := by decide +kernel
theorem dX6_spread_144 : decode cX6_spread 144 = .ok (.lastore, 1) := by decide +kernel
theorem dX6_spread_145 : decode cX6_spread 145 = .ok (.aload_n 0, 1) := by decide +kernel
theorem dX6_spread_146 : decode cX6_spread 146 = .ok (.getfield 27, 3) := by decide +kernel
theorem dX6_spread_149 : decode cX6_spread 149 = .ok (.iload 8, 2) := by decide +kernel
theorem dX6_spread_151 : decode cX6_spread 151 = .ok (.dup2, 1) := by decide +kernel
theorem dX6_spread_152 : decode cX6_spread 152 = .ok (.iaload, 1) := by decide +kernel
theorem dX6_spread_153 : decode cX6_spread 153 = .ok (.iconst 1, 1) := by decide +kernel
theorem dX6_spread_154 : decode cX6_spread 154 = .ok (.iload_n 1, 1) := by decide +kernel
theorem dX6_spread_155 : decode cX6_spread 155 = .ok (.ishl, 1) := by decide +kernel
theorem dX6_spread_156 : decode cX6_spread 156 = .ok (.ior, 1) := by decide +kernel
theorem dX6_spread_157 : decode cX6_spread 157 = .ok (.iastore, 1) := by decide +kernel
theorem dX6_spread_158 : decode cX6_spread 158 = .ok (.iinc 7 1, 3) := by decide +kernel
theorem dX6_spread_161 : decode cX6_spread 161 = .ok (.goto (-68), 3) := by decide +kernel
theorem dX6_spread_164 : decode cX6_spread 164 = .ok (.iinc 4 1, 3) := by decide +kernel
theorem dX6_spread_167 : decode cX6_spread 167 = .ok (.goto (-122), 3) := by decide +kernel
theorem dX6_spread_170 : decode cX6_spread 170 = .ok (.aload_n 0, 1) := by decide +kernel
theorem dX6_spread_171 : decode cX6_spread 171 = .ok (.getfield 30, 3) := by decide +kernel
theorem dX6_spread_174 : decode cX6_spread 174 = .ok (.astore 4, 2) := by decide +kernel
theorem dX6_spread_176 : decode cX6_spread 176 = .ok (.aload_n 0, 1) := by decide +kernel
theorem dX6_spread_177 : decode cX6_spread 177 = .ok (.aload_n 0, 1) := by decide +kernel
theorem dX6_spread_178 : decode cX6_spread 178 = .ok (.getfield 34, 3) := by decide +kernel
theorem dX6_spread_181 : decode cX6_spread 181 = .ok (.putfield 30, 3) := by decide +kernel
theorem dX6_spread_184 : decode cX6_spread 184 = .ok (.aload_n 0, 1) := by decide +kernel
theorem dX6_spread_185 : decode cX6_spread 185 = .ok (.aload 4, 2) := by decide +kernel
theorem dX6_spread_187 : decode cX6_spread 187 = .ok (.putfield 34, 3) := by decide +kernel
theorem dX6_spread_190 : decode cX6_spread 190 = .ok (.return_, 1) := by decide +kernel
theorem dX6_isWanted_0 : decode cX6_isWanted 0 = .ok (.aload_n 0, 1) := by decide +kernel
theorem dX6_isWanted_1 : decode cX6_isWanted 1 = .ok (.getfield 9, 3) := by decide +kernel
theorem dX6_isWanted_4 : decode cX6_isWanted 4 = .ok (.iload_n 2, 1) := by decide +kernel
theorem dX6_isWanted_5 : decode cX6_isWanted 5 = .ok (.iconst 1, 1) := by decide +kernel
theorem dX6_isWanted_6 : decode cX6_isWanted 6 = .ok (.isub, 1) := by decide +kernel
theorem dX6_isWanted_7 : decode cX6_isWanted 7 = .ok (.iaload, 1) := by decide +kernel
theorem dX6_isWanted_8 : decode cX6_isWanted 8 = .ok (.iconst (-1), 1) := by decide +kernel
theorem dX6_isWanted_9 : decode cX6_isWanted 9 = .ok (.if_icmp .eq 15, 3) := by decide +kernel
theorem dX6_isWanted_12 : decode cX6_isWanted 12 = .ok (.aload_n 0, 1) := by decide +kernel
theorem dX6_isWanted_13 : decode cX6_isWanted 13 = .ok (.getfield 9, 3) := by decide +kernel
theorem dX6_isWanted_16 : decode cX6_isWanted 16 = .ok (.iload_n 2, 1) := by decide +kernel
theorem dX6_isWanted_17 : decode cX6_isWanted 17 = .ok (.iconst 1, 1) := by decide +kernel
theorem dX6_isWanted_18 : decode cX6_isWanted 18 = .ok (.isub, 1) := by decide +kernel
theorem dX6_isWanted_19 : decode cX6_isWanted 19 = .ok (.iaload, 1) := by decide +kernel
theorem dX6_isWanted_20 : decode cX6_isWanted 20 = .ok (.iload_n 1, 1) := by decide +kernel
theorem dX6_isWanted_21 : decode cX6_isWanted 21 = .ok (.if_icmp .ne 7, 3) := by decide +kernel
theorem dX6_isWanted_24 : decode cX6_isWanted 24 = .ok (.iconst 1, 1) := by decide +kernel
theorem dX6_isWanted_25 : decode cX6_isWanted 25 = .ok (.goto 4, 3) := by decide +kernel
theorem dX6_isWanted_28 : decode cX6_isWanted 28 = .ok (.iconst 0, 1) := by decide +kernel
theorem dX6_isWanted_29 : decode cX6_isWanted 29 = .ok (.ireturn, 1) := by decide +kernel
theorem dX6_within_0 : decode cX6_within 0 = .ok (.iconst 0, 1) := by decide +kernel
theorem dX6_within_1 : decode cX6_within 1 = .ok (.istore_n 2, 1) := by decide +kernel
theorem dX6_within_2 : decode cX6_within 2 = .ok (.iload_n 2, 1) := by decide +kernel
theorem dX6_within_3 : decode cX6_within 3 = .ok (.aload_n 0, 1) := by decide +kernel
theorem dX6_within_4 : decode cX6_within 4 = .ok (.getfield 23, 3) := by decide +kernel
theorem dX6_within_7 : decode cX6_within 7 = .ok (.getfield 57, 3) := by decide +kernel
theorem dX6_within_10 : decode cX6_within 10 = .ok (.if_icmp .ge 30, 3) := by decide +kernel
theorem dX6_within_13 : decode cX6_within 13 = .ok (.aload_n 0, 1) := by decide +kernel
theorem dX6_within_14 : decode cX6_within 14 = .ok (.getfield 23, 3) := by decide +kernel
theorem dX6_within_17 : decode cX6_within 17 = .ok (.getfield 91, 3) := by decide +kernel
theorem dX6_within_20 : decode cX6_within 20 = .ok (.aload_n 0, 1) := by decide +kernel
theorem dX6_within_21 : decode cX6_within 21 = .ok (.getfield 23, 3) := by decide +kernel
theorem dX6_within_24 : decode cX6_within 24 = .ok (.getfield 60, 3) := by decide +kernel
theorem dX6_within_27 : decode cX6_within 27 = .ok (.iload_n 2, 1) := by decide +kernel
theorem dX6_within_28 : decode cX6_within 28 = .ok (.iaload, 1) := by decide +kernel
theorem dX6_within_29 : decode cX6_within 29 = .ok (.iaload, 1) := by decide +kernel
theorem dX6_within_30 : decode cX6_within 30 = .ok (.iload_n 1, 1) := by decide +kernel
theorem dX6_within_31 : decode cX6_within 31 = .ok (.if_icmp .gt 9, 3) := by decide +kernel
theorem dX6_within_34 : decode cX6_within 34 = .ok (.iinc 2 1, 3) := by decide +kernel
theorem dX6_within_37 : decode cX6_within 37 = .ok (.goto (-35), 3) := by decide +kernel
theorem dX6_within_40 : decode cX6_within 40 = .ok (.iload_n 2, 1) := by decide +kernel
theorem dX6_within_41 : decode cX6_within 41 = .ok (.ireturn, 1) := by decide +kernel
theorem dX6_endingOn_0 : decode cX6_endingOn 0 = .ok (.lconst 0, 1) := by decide +kernel
theorem dX6_endingOn_1 : decode cX6_endingOn 1 = .ok (.lstore_n 3, 1) := by decide +kernel
theorem dX6_endingOn_2 : decode cX6_endingOn 2 = .ok (.aload_n 0, 1) := by decide +kernel
theorem dX6_endingOn_3 : decode cX6_endingOn 3 = .ok (.aload_n 0, 1) := by decide +kernel
theorem dX6_endingOn_4 : decode cX6_endingOn 4 = .ok (.getfield 15, 3) := by decide +kernel
theorem dX6_endingOn_7 : decode cX6_endingOn 7 = .ok (.invokevirtual 67, 3) := by decide +kernel
theorem dX6_endingOn_10 : decode cX6_endingOn 10 = .ok (.istore 5, 2) := by decide +kernel
theorem dX6_endingOn_12 : decode cX6_endingOn 12 = .ok (.iconst 0, 1) := by decide +kernel
theorem dX6_endingOn_13 : decode cX6_endingOn 13 = .ok (.istore 6, 2) := by decide +kernel
theorem dX6_endingOn_15 : decode cX6_endingOn 15 = .ok (.iload 6, 2) := by decide +kernel
theorem dX6_endingOn_17 : decode cX6_endingOn 17 = .ok (.iload 5, 2) := by decide +kernel
theorem dX6_endingOn_19 : decode cX6_endingOn 19 = .ok (.if_icmp .ge 57, 3) := by decide +kernel
theorem dX6_endingOn_22 : decode cX6_endingOn 22 = .ok (.aload_n 0, 1) := by decide +kernel
theorem dX6_endingOn_23 : decode cX6_endingOn 23 = .ok (.getfield 23, 3) := by decide +kernel
theorem dX6_endingOn_26 : decode cX6_endingOn 26 = .ok (.getfield 60, 3) := by decide +kernel
theorem dX6_endingOn_29 : decode cX6_endingOn 29 = .ok (.iload 6, 2) := by decide +kernel
theorem dX6_endingOn_31 : decode cX6_endingOn 31 = .ok (.iaload, 1) := by decide +kernel
theorem dX6_endingOn_32 : decode cX6_endingOn 32 = .ok (.istore 7, 2) := by decide +kernel
theorem dX6_endingOn_34 : decode cX6_endingOn 34 = .ok (.iload_n 1, 1) := by decide +kernel
theorem dX6_endingOn_35 : decode cX6_endingOn 35 = .ok (.iconst (-1), 1) := by decide +kernel
theorem dX6_endingOn_36 : decode cX6_endingOn 36 = .ok (.if_icmp .eq 12, 3) := by decide +kernel
theorem dX6_endingOn_39 : decode cX6_endingOn 39 = .ok (.iload 7, 2) := by decide +kernel
theorem dX6_endingOn_41 : decode cX6_endingOn 41 = .ok (.invokestatic 94, 3) := by decide +kernel
theorem dX6_endingOn_44 : decode cX6_endingOn 44 = .ok (.iload_n 1, 1) := by decide +kernel
theorem dX6_endingOn_45 : decode cX6_endingOn 45 = .ok (.if_icmp .ne 25, 3) := by decide +kernel
theorem dX6_endingOn_48 : decode cX6_endingOn 48 = .ok (.iload_n 2, 1) := by decide +kernel
theorem dX6_endingOn_49 : decode cX6_endingOn 49 = .ok (.iload 7, 2) := by decide +kernel
theorem dX6_endingOn_51 : decode cX6_endingOn 51 = .ok (.invokestatic 79, 3) := by decide +kernel
theorem dX6_endingOn_54 : decode cX6_endingOn 54 = .ok (.iconst (-1), 1) := by decide +kernel
theorem dX6_endingOn_55 : decode cX6_endingOn 55 = .ok (.ixor, 1) := by decide +kernel
theorem dX6_endingOn_56 : decode cX6_endingOn 56 = .ok (.iand, 1) := by decide +kernel
theorem dX6_endingOn_57 : decode cX6_endingOn 57 = .ok (.ifCond .ne 13, 3) := by decide +kernel
theorem dX6_endingOn_60 : decode cX6_endingOn 60 = .ok (.lload_n 3, 1) := by decide +kernel
theorem dX6_endingOn_61 : decode cX6_endingOn 61 = .ok (.aload_n 0, 1) := by decide +kernel
theorem dX6_endingOn_62 : decode cX6_endingOn 62 = .ok (.getfield 30, 3) := by decide +kernel
theorem dX6_endingOn_65 : decode cX6_endingOn 65 = .ok (.iload 7, 2) := by decide +kernel
theorem dX6_endingOn_67 : decode cX6_endingOn 67 = .ok (.laload, 1) := by decide +kernel
theorem dX6_endingOn_68 : decode cX6_endingOn 68 = .ok (.ladd, 1) := by decide +kernel
theorem dX6_endingOn_69 : decode cX6_endingOn 69 = .ok (.lstore_n 3, 1) := by decide +kernel
theorem dX6_endingOn_70 : decode cX6_endingOn 70 = .ok (.iinc 6 1, 3) := by decide +kernel
theorem dX6_endingOn_73 : decode cX6_endingOn 73 = .ok (.goto (-58), 3) := by decide +kernel
theorem dX6_endingOn_76 : decode cX6_endingOn 76 = .ok (.lload_n 3, 1) := by decide +kernel
theorem dX6_endingOn_77 : decode cX6_endingOn 77 = .ok (.lreturn, 1) := by decide +kernel
theorem dX6_commonThings_0 : decode cX6_commonThings 0 = .ok (.iconst (-1), 1) := by decide +kernel
theorem dX6_commonThings_1 : decode cX6_commonThings 1 = .ok (.istore_n 1, 1) := by decide +kernel
theorem dX6_commonThings_2 : decode cX6_commonThings 2 = .ok (.aload_n 0, 1) := by decide +kernel
theorem dX6_commonThings_3 : decode cX6_commonThings 3 = .ok (.aload_n 0, 1) := by decide +kernel
theorem dX6_commonThings_4 : decode cX6_commonThings 4 = .ok (.getfield 15, 3) := by decide +kernel
theorem dX6_commonThings_7 : decode cX6_commonThings 7 = .ok (.invokevirtual 67, 3) := by decide +kernel
theorem dX6_commonThings_10 : decode cX6_commonThings 10 = .ok (.istore_n 2, 1) := by decide +kernel
theorem dX6_commonThings_11 : decode cX6_commonThings 11 = .ok (.iconst 0, 1) := by decide +kernel
theorem dX6_commonThings_12 : decode cX6_commonThings 12 = .ok (.istore_n 3, 1) := by decide +kernel
theorem dX6_commonThings_13 : decode cX6_commonThings 13 = .ok (.iload_n 3, 1) := by decide +kernel
theorem dX6_commonThings_14 : decode cX6_commonThings 14 = .ok (.iload_n 2, 1) := by decide +kernel
theorem dX6_commonThings_15 : decode cX6_commonThings 15 = .ok (.if_icmp .ge 43, 3) := by decide +kernel
theorem dX6_commonThings_18 : decode cX6_commonThings 18 = .ok (.aload_n 0, 1) := by decide +kernel
theorem dX6_commonThings_19 : decode cX6_commonThings 19 = .ok (.getfield 30, 3) := by decide +kernel
theorem dX6_commonThings_22 : decode cX6_commonThings 22 = .ok (.aload_n 0, 1) := by decide +kernel
theorem dX6_commonThings_23 : decode cX6_commonThings 23 = .ok (.getfield 23, 3) := by decide +kernel
theorem dX6_commonThings_26 : decode cX6_commonThings 26 = .ok (.getfield 60, 3) := by decide +kernel
theorem dX6_commonThings_29 : decode cX6_commonThings 29 = .ok (.iload_n 3, 1) := by decide +kernel
theorem dX6_commonThings_30 : decode cX6_commonThings 30 = .ok (.iaload, 1) := by decide +kernel
theorem dX6_commonThings_31 : decode cX6_commonThings 31 = .ok (.laload, 1) := by decide +kernel
theorem dX6_commonThings_32 : decode cX6_commonThings 32 = .ok (.lconst 0, 1) := by decide +kernel
theorem dX6_commonThings_33 : decode cX6_commonThings 33 = .ok (.lcmp, 1) := by decide +kernel
theorem dX6_commonThings_34 : decode cX6_commonThings 34 = .ok (.ifCond .eq 18, 3) := by decide +kernel
theorem dX6_commonThings_37 : decode cX6_commonThings 37 = .ok (.iload_n 1, 1) := by decide +kernel
theorem dX6_commonThings_38 : decode cX6_commonThings 38 = .ok (.aload_n 0, 1) := by decide +kernel
theorem dX6_commonThings_39 : decode cX6_commonThings 39 = .ok (.getfield 23, 3) := by decide +kernel
theorem dX6_commonThings_42 : decode cX6_commonThings 42 = .ok (.getfield 60, 3) := by decide +kernel
theorem dX6_commonThings_45 : decode cX6_commonThings 45 = .ok (.iload_n 3, 1) := by decide +kernel
theorem dX6_commonThings_46 : decode cX6_commonThings 46 = .ok (.iaload, 1) := by decide +kernel
theorem dX6_commonThings_47 : decode cX6_commonThings 47 = .ok (.invokestatic 79, 3) := by decide +kernel
theorem dX6_commonThings_50 : decode cX6_commonThings 50 = .ok (.iand, 1) := by decide +kernel
theorem dX6_commonThings_51 : decode cX6_commonThings 51 = .ok (.istore_n 1, 1) := by decide +kernel
theorem dX6_commonThings_52 : decode cX6_commonThings 52 = .ok (.iinc 3 1, 3) := by decide +kernel
theorem dX6_commonThings_55 : decode cX6_commonThings 55 = .ok (.goto (-42), 3) := by decide +kernel
theorem dX6_commonThings_58 : decode cX6_commonThings 58 = .ok (.iload_n 1, 1) := by decide +kernel
theorem dX6_commonThings_59 : decode cX6_commonThings 59 = .ok (.iconst (-1), 1) := by decide +kernel
theorem dX6_commonThings_60 : decode cX6_commonThings 60 = .ok (.if_icmp .ne 7, 3) := by decide +kernel
theorem dX6_commonThings_63 : decode cX6_commonThings 63 = .ok (.iconst 0, 1) := by decide +kernel
theorem dX6_commonThings_64 : decode cX6_commonThings 64 = .ok (.goto 4, 3) := by decide +kernel
theorem dX6_commonThings_67 : decode cX6_commonThings 67 = .ok (.iload_n 1, 1) := by decide +kernel
theorem dX6_commonThings_68 : decode cX6_commonThings 68 = .ok (.ireturn, 1) := by decide +kernel
theorem dX6_deedOfFirst_0 : decode cX6_deedOfFirst 0 = .ok (.aload_n 0, 1) := by decide +kernel
theorem dX6_deedOfFirst_1 : decode cX6_deedOfFirst 1 = .ok (.invokevirtual 97, 3) := by decide +kernel
theorem dX6_deedOfFirst_4 : decode cX6_deedOfFirst 4 = .ok (.iload_n 2, 1) := by decide +kernel
theorem dX6_deedOfFirst_5 : decode cX6_deedOfFirst 5 = .ok (.aload_n 0, 1) := by decide +kernel
theorem dX6_deedOfFirst_6 : decode cX6_deedOfFirst 6 = .ok (.getfield 15, 3) := by decide +kernel
theorem dX6_deedOfFirst_9 : decode cX6_deedOfFirst 9 = .ok (.if_icmp .ge 14, 3) := by decide +kernel
theorem dX6_deedOfFirst_12 : decode cX6_deedOfFirst 12 = .ok (.aload_n 0, 1) := by decide +kernel
theorem dX6_deedOfFirst_13 : decode cX6_deedOfFirst 13 = .ok (.getfield 27, 3) := by decide +kernel
theorem dX6_deedOfFirst_16 : decode cX6_deedOfFirst 16 = .ok (.iload_n 1, 1) := by decide +kernel
theorem dX6_deedOfFirst_17 : decode cX6_deedOfFirst 17 = .ok (.iaload, 1) := by decide +kernel
theorem dX6_deedOfFirst_18 : decode cX6_deedOfFirst 18 = .ok (.iconst 1, 1) := by decide +kernel
theorem dX6_deedOfFirst_19 : decode cX6_deedOfFirst 19 = .ok (.iand, 1) := by decide +kernel
theorem dX6_deedOfFirst_20 : decode cX6_deedOfFirst 20 = .ok (.ifCond .ne 5, 3) := by decide +kernel
theorem dX6_deedOfFirst_23 : decode cX6_deedOfFirst 23 = .ok (.iconst (-1), 1) := by decide +kernel
theorem dX6_deedOfFirst_24 : decode cX6_deedOfFirst 24 = .ok (.ireturn, 1) := by decide +kernel
theorem dX6_deedOfFirst_25 : decode cX6_deedOfFirst 25 = .ok (.iload_n 1, 1) := by decide +kernel
theorem dX6_deedOfFirst_26 : decode cX6_deedOfFirst 26 = .ok (.istore_n 3, 1) := by decide +kernel
theorem dX6_deedOfFirst_27 : decode cX6_deedOfFirst 27 = .ok (.iconst (-1), 1) := by decide +kernel
theorem dX6_deedOfFirst_28 : decode cX6_deedOfFirst 28 = .ok (.istore 4, 2) := by decide +kernel
theorem dX6_deedOfFirst_30 : decode cX6_deedOfFirst 30 = .ok (.iconst 1, 1) := by decide +kernel
theorem dX6_deedOfFirst_31 : decode cX6_deedOfFirst 31 = .ok (.istore 5, 2) := by decide +kernel
theorem dX6_deedOfFirst_33 : decode cX6_deedOfFirst 33 = .ok (.iload 5, 2) := by decide +kernel
theorem dX6_deedOfFirst_35 : decode cX6_deedOfFirst 35 = .ok (.iload_n 2, 1) := by decide +kernel
theorem dX6_deedOfFirst_36 : decode cX6_deedOfFirst 36 = .ok (.iconst 1, 1) := by decide +kernel
theorem dX6_deedOfFirst_37 : decode cX6_deedOfFirst 37 = .ok (.iadd, 1) := by decide +kernel
theorem dX6_deedOfFirst_38 : decode cX6_deedOfFirst 38 = .ok (.if_icmp .gt 49, 3) := by decide +kernel
theorem dX6_deedOfFirst_41 : decode cX6_deedOfFirst 41 = .ok (.aload_n 0, 1) := by decide +kernel
theorem dX6_deedOfFirst_42 : decode cX6_deedOfFirst 42 = .ok (.iload_n 3, 1) := by decide +kernel
theorem dX6_deedOfFirst_43 : decode cX6_deedOfFirst 43 = .ok (.iload 5, 2) := by decide +kernel
theorem dX6_deedOfFirst_45 : decode cX6_deedOfFirst 45 = .ok (.invokevirtual 100, 3) := by decide +kernel
theorem dX6_deedOfFirst_48 : decode cX6_deedOfFirst 48 = .ok (.istore 6, 2) := by decide +kernel
theorem dX6_deedOfFirst_50 : decode cX6_deedOfFirst 50 = .ok (.iload 6, 2) := by decide +kernel
theorem dX6_deedOfFirst_52 : decode cX6_deedOfFirst 52 = .ok (.iconst (-1), 1) := by decide +kernel
theorem dX6_deedOfFirst_53 : decode cX6_deedOfFirst 53 = .ok (.if_icmp .ne 5, 3) := by decide +kernel
theorem dX6_deedOfFirst_56 : decode cX6_deedOfFirst 56 = .ok (.iconst (-1), 1) := by decide +kernel
theorem dX6_deedOfFirst_57 : decode cX6_deedOfFirst 57 = .ok (.ireturn, 1) := by decide +kernel
theorem dX6_deedOfFirst_58 : decode cX6_deedOfFirst 58 = .ok (.aload_n 0, 1) := by decide +kernel
theorem dX6_deedOfFirst_59 : decode cX6_deedOfFirst 59 = .ok (.getfield 19, 3) := by decide +kernel
theorem dX6_deedOfFirst_62 : decode cX6_deedOfFirst 62 = .ok (.getfield 76, 3) := by decide +kernel
theorem dX6_deedOfFirst_65 : decode cX6_deedOfFirst 65 = .ok (.iload 6, 2) := by decide +kernel
theorem dX6_deedOfFirst_67 : decode cX6_deedOfFirst 67 = .ok (.iaload, 1) := by decide +kernel
theorem dX6_deedOfFirst_68 : decode cX6_deedOfFirst 68 = .ok (.istore_n 3, 1) := by decide +kernel
theorem dX6_deedOfFirst_69 : decode cX6_deedOfFirst 69 = .ok (.aload_n 0, 1) := by decide +kernel
theorem dX6_deedOfFirst_70 : decode cX6_deedOfFirst 70 = .ok (.getfield 19, 3) := by decide +kernel
theorem dX6_deedOfFirst_73 : decode cX6_deedOfFirst 73 = .ok (.getfield 103, 3) := by decide +kernel
theorem dX6_deedOfFirst_76 : decode cX6_deedOfFirst 76 = .ok (.iload 6, 2) := by decide +kernel
theorem dX6_deedOfFirst_78 : decode cX6_deedOfFirst 78 = .ok (.iaload, 1) := by decide +kernel
theorem dX6_deedOfFirst_79 : decode cX6_deedOfFirst 79 = .ok (.istore 4, 2) := by decide +kernel
theorem dX6_deedOfFirst_81 : decode cX6_deedOfFirst 81 = .ok (.iinc 5 1, 3) := by decide +kernel
theorem dX6_deedOfFirst_84 : decode cX6_deedOfFirst 84 = .ok (.goto (-51), 3) := by decide +kernel
theorem dX6_deedOfFirst_87 : decode cX6_deedOfFirst 87 = .ok (.iload 4, 2) := by decide +kernel
theorem dX6_deedOfFirst_89 : decode cX6_deedOfFirst 89 = .ok (.ireturn, 1) := by decide +kernel
theorem dX6_dropDeadEnds_0 : decode cX6_dropDeadEnds 0 = .ok (.aload_n 0, 1) := by decide +kernel
theorem dX6_dropDeadEnds_1 : decode cX6_dropDeadEnds 1 = .ok (.getfield 15, 3) := by decide +kernel
theorem dX6_dropDeadEnds_4 : decode cX6_dropDeadEnds 4 = .ok (.iconst 1, 1) := by decide +kernel
theorem dX6_dropDeadEnds_5 : decode cX6_dropDeadEnds 5 = .ok (.isub, 1) := by decide +kernel
theorem dX6_dropDeadEnds_6 : decode cX6_dropDeadEnds 6 = .ok (.istore_n 1, 1) := by decide +kernel
theorem dX6_dropDeadEnds_7 : decode cX6_dropDeadEnds 7 = .ok (.iload_n 1, 1) := by decide +kernel
theorem dX6_dropDeadEnds_8 : decode cX6_dropDeadEnds 8 = .ok (.ifCond .lt 81, 3) := by decide +kernel
theorem dX6_dropDeadEnds_11 : decode cX6_dropDeadEnds 11 = .ok (.aload_n 0, 1) := by decide +kernel
theorem dX6_dropDeadEnds_12 : decode cX6_dropDeadEnds 12 = .ok (.iload_n 1, 1) := by decide +kernel
theorem dX6_dropDeadEnds_13 : decode cX6_dropDeadEnds 13 = .ok (.invokevirtual 67, 3) := by decide +kernel
theorem dX6_dropDeadEnds_16 : decode cX6_dropDeadEnds 16 = .ok (.istore_n 2, 1) := by decide +kernel
theorem dX6_dropDeadEnds_17 : decode cX6_dropDeadEnds 17 = .ok (.iconst 0, 1) := by decide +kernel
theorem dX6_dropDeadEnds_18 : decode cX6_dropDeadEnds 18 = .ok (.istore_n 3, 1) := by decide +kernel
theorem dX6_dropDeadEnds_19 : decode cX6_dropDeadEnds 19 = .ok (.iload_n 3, 1) := by decide +kernel
theorem dX6_dropDeadEnds_20 : decode cX6_dropDeadEnds 20 = .ok (.iload_n 2, 1) := by decide +kernel
theorem dX6_dropDeadEnds_21 : decode cX6_dropDeadEnds 21 = .ok (.if_icmp .ge 62, 3) := by decide +kernel
theorem dX6_dropDeadEnds_24 : decode cX6_dropDeadEnds 24 = .ok (.aload_n 0, 1) := by decide +kernel
theorem dX6_dropDeadEnds_25 : decode cX6_dropDeadEnds 25 = .ok (.getfield 23, 3) := by decide +kernel
theorem dX6_dropDeadEnds_28 : decode cX6_dropDeadEnds 28 = .ok (.getfield 60, 3) := by decide +kernel
theorem dX6_dropDeadEnds_31 : decode cX6_dropDeadEnds 31 = .ok (.iload_n 3, 1) := by decide +kernel
theorem dX6_dropDeadEnds_32 : decode cX6_dropDeadEnds 32 = .ok (.iaload, 1) := by decide +kernel
theorem dX6_dropDeadEnds_33 : decode cX6_dropDeadEnds 33 = .ok (.istore 4, 2) := by decide +kernel
theorem dX6_dropDeadEnds_35 : decode cX6_dropDeadEnds 35 = .ok (.aload_n 0, 1) := by decide +kernel
theorem dX6_dropDeadEnds_36 : decode cX6_dropDeadEnds 36 = .ok (.getfield 27, 3) := by decide +kernel
theorem dX6_dropDeadEnds_39 : decode cX6_dropDeadEnds 39 = .ok (.iload 4, 2) := by decide +kernel
theorem dX6_dropDeadEnds_41 : decode cX6_dropDeadEnds 41 = .ok (.iaload, 1) := by decide +kernel
theorem dX6_dropDeadEnds_42 : decode cX6_dropDeadEnds 42 = .ok (.iload_n 1, 1) := by decide +kernel
theorem dX6_dropDeadEnds_43 : decode cX6_dropDeadEnds 43 = .ok (.ishr, 1) := by decide +kernel
theorem dX6_dropDeadEnds_44 : decode cX6_dropDeadEnds 44 = .ok (.iconst 1, 1) := by decide +kernel
theorem dX6_dropDeadEnds_45 : decode cX6_dropDeadEnds 45 = .ok (.iand, 1) := by decide +kernel
theorem dX6_dropDeadEnds_46 : decode cX6_dropDeadEnds 46 = .ok (.ifCond .eq 31, 3) := by decide +kernel
theorem dX6_dropDeadEnds_49 : decode cX6_dropDeadEnds 49 = .ok (.aload_n 0, 1) := by decide +kernel
theorem dX6_dropDeadEnds_50 : decode cX6_dropDeadEnds 50 = .ok (.iload 4, 2) := by decide +kernel
theorem dX6_dropDeadEnds_52 : decode cX6_dropDeadEnds 52 = .ok (.iload_n 1, 1) := by decide +kernel
theorem dX6_dropDeadEnds_53 : decode cX6_dropDeadEnds 53 = .ok (.iconst 1, 1) := by decide +kernel
theorem dX6_dropDeadEnds_54 : decode cX6_dropDeadEnds 54 = .ok (.iadd, 1) := by decide +kernel
theorem dX6_dropDeadEnds_55 : decode cX6_dropDeadEnds 55 = .ok (.invokevirtual 100, 3) := by decide +kernel
theorem dX6_dropDeadEnds_58 : decode cX6_dropDeadEnds 58 = .ok (.iconst (-1), 1) := by decide +kernel
theorem dX6_dropDeadEnds_59 : decode cX6_dropDeadEnds 59 = .ok (.if_icmp .ne 18, 3) := by decide +kernel
theorem dX6_dropDeadEnds_62 : decode cX6_dropDeadEnds 62 = .ok (.aload_n 0, 1) := by decide +kernel
theorem dX6_dropDeadEnds_63 : decode cX6_dropDeadEnds 63 = .ok (.getfield 27, 3) := by decide +kernel
theorem dX6_dropDeadEnds_66 : decode cX6_dropDeadEnds 66 = .ok (.iload 4, 2) := by decide +kernel
theorem dX6_dropDeadEnds_68 : decode cX6_dropDeadEnds 68 = .ok (.dup2, 1) := by decide +kernel
theorem dX6_dropDeadEnds_69 : decode cX6_dropDeadEnds 69 = .ok (.iaload, 1) := by decide +kernel
theorem dX6_dropDeadEnds_70 : decode cX6_dropDeadEnds 70 = .ok (.iconst 1, 1) := by decide +kernel
theorem dX6_dropDeadEnds_71 : decode cX6_dropDeadEnds 71 = .ok (.iload_n 1, 1) := by decide +kernel
theorem dX6_dropDeadEnds_72 : decode cX6_dropDeadEnds 72 = .ok (.ishl, 1) := by decide +kernel
theorem dX6_dropDeadEnds_73 : decode cX6_dropDeadEnds 73 = .ok (.iconst (-1), 1) := by decide +kernel
theorem dX6_dropDeadEnds_74 : decode cX6_dropDeadEnds 74 = .ok (.ixor, 1) := by decide +kernel
theorem dX6_dropDeadEnds_75 : decode cX6_dropDeadEnds 75 = .ok (.iand, 1) := by decide +kernel
theorem dX6_dropDeadEnds_76 : decode cX6_dropDeadEnds 76 = .ok (.iastore, 1) := by decide +kernel
theorem dX6_dropDeadEnds_77 : decode cX6_dropDeadEnds 77 = .ok (.iinc 3 1, 3) := by decide +kernel
theorem dX6_dropDeadEnds_80 : decode cX6_dropDeadEnds 80 = .ok (.goto (-61), 3) := by decide +kernel
theorem dX6_dropDeadEnds_83 : decode cX6_dropDeadEnds 83 = .ok (.iinc 1 (-1), 3) := by decide +kernel
theorem dX6_dropDeadEnds_86 : decode cX6_dropDeadEnds 86 = .ok (.goto (-79), 3) := by decide +kernel
theorem dX6_dropDeadEnds_89 : decode cX6_dropDeadEnds 89 = .ok (.return_, 1) := by decide +kernel
theorem dX6_firstOnward_0 : decode cX6_firstOnward 0 = .ok (.aload_n 0, 1) := by decide +kernel
theorem dX6_firstOnward_1 : decode cX6_firstOnward 1 = .ok (.getfield 19, 3) := by decide +kernel
theorem dX6_firstOnward_4 : decode cX6_firstOnward 4 = .ok (.iload_n 1, 1) := by decide +kernel
theorem dX6_firstOnward_5 : decode cX6_firstOnward 5 = .ok (.invokevirtual 71, 3) := by decide +kernel
theorem dX6_firstOnward_8 : decode cX6_firstOnward 8 = .ok (.istore_n 3, 1) := by decide +kernel
theorem dX6_firstOnward_9 : decode cX6_firstOnward 9 = .ok (.iconst 0, 1) := by decide +kernel
theorem dX6_firstOnward_10 : decode cX6_firstOnward 10 = .ok (.istore 4, 2) := by decide +kernel
theorem dX6_firstOnward_12 : decode cX6_firstOnward 12 = .ok (.iload 4, 2) := by decide +kernel
theorem dX6_firstOnward_14 : decode cX6_firstOnward 14 = .ok (.iload_n 3, 1) := by decide +kernel
theorem dX6_firstOnward_15 : decode cX6_firstOnward 15 = .ok (.if_icmp .ge 34, 3) := by decide +kernel
theorem dX6_firstOnward_18 : decode cX6_firstOnward 18 = .ok (.aload_n 0, 1) := by decide +kernel
theorem dX6_firstOnward_19 : decode cX6_firstOnward 19 = .ok (.getfield 27, 3) := by decide +kernel
theorem dX6_firstOnward_22 : decode cX6_firstOnward 22 = .ok (.aload_n 0, 1) := by decide +kernel
theorem dX6_firstOnward_23 : decode cX6_firstOnward 23 = .ok (.getfield 19, 3) := by decide +kernel
theorem dX6_firstOnward_26 : decode cX6_firstOnward 26 = .ok (.getfield 76, 3) := by decide +kernel
theorem dX6_firstOnward_29 : decode cX6_firstOnward 29 = .ok (.iload 4, 2) := by decide +kernel
theorem dX6_firstOnward_31 : decode cX6_firstOnward 31 = .ok (.iaload, 1) := by decide +kernel
theorem dX6_firstOnward_32 : decode cX6_firstOnward 32 = .ok (.iaload, 1) := by decide +kernel
theorem dX6_firstOnward_33 : decode cX6_firstOnward 33 = .ok (.iload_n 2, 1) := by decide +kernel
theorem dX6_firstOnward_34 : decode cX6_firstOnward 34 = .ok (.ishr, 1) := by decide +kernel
theorem dX6_firstOnward_35 : decode cX6_firstOnward 35 = .ok (.iconst 1, 1) := by decide +kernel
theorem dX6_firstOnward_36 : decode cX6_firstOnward 36 = .ok (.iand, 1) := by decide +kernel
theorem dX6_firstOnward_37 : decode cX6_firstOnward 37 = .ok (.ifCond .eq 6, 3) := by decide +kernel
theorem dX6_firstOnward_40 : decode cX6_firstOnward 40 = .ok (.iload 4, 2) := by decide +kernel
theorem dX6_firstOnward_42 : decode cX6_firstOnward 42 = .ok (.ireturn, 1) := by decide +kernel
theorem dX6_firstOnward_43 : decode cX6_firstOnward 43 = .ok (.iinc 4 1, 3) := by decide +kernel
theorem dX6_firstOnward_46 : decode cX6_firstOnward 46 = .ok (.goto (-34), 3) := by decide +kernel
theorem dX6_firstOnward_49 : decode cX6_firstOnward 49 = .ok (.iconst (-1), 1) := by decide +kernel
theorem dX6_firstOnward_50 : decode cX6_firstOnward 50 = .ok (.ireturn, 1) := by decide +kernel
theorem dX7_init_0 : decode cX7_init 0 = .ok (.aload_n 0, 1) := by decide +kernel
theorem dX7_init_1 : decode cX7_init 1 = .ok (.invokespecial 3, 3) := by decide +kernel
theorem dX7_init_4 : decode cX7_init 4 = .ok (.aload_n 0, 1) := by decide +kernel
theorem dX7_init_5 : decode cX7_init 5 = .ok (.iconst 0, 1) := by decide +kernel
theorem dX7_init_6 : decode cX7_init 6 = .ok (.putfield 9, 3) := by decide +kernel
theorem dX7_init_9 : decode cX7_init 9 = .ok (.aload_n 0, 1) := by decide +kernel
theorem dX7_init_10 : decode cX7_init 10 = .ok (.aload_n 1, 1) := by decide +kernel
theorem dX7_init_11 : decode cX7_init 11 = .ok (.putfield 15, 3) := by decide +kernel
theorem dX7_init_14 : decode cX7_init 14 = .ok (.aload_n 0, 1) := by decide +kernel
theorem dX7_init_15 : decode cX7_init 15 = .ok (.aload_n 2, 1) := by decide +kernel
theorem dX7_init_16 : decode cX7_init 16 = .ok (.putfield 19, 3) := by decide +kernel
theorem dX7_init_19 : decode cX7_init 19 = .ok (.return_, 1) := by decide +kernel
theorem dX7_reckon_0 : decode cX7_reckon 0 = .ok (.aload_n 0, 1) := by decide +kernel
theorem dX7_reckon_1 : decode cX7_reckon 1 = .ok (.iload_n 1, 1) := by decide +kernel
theorem dX7_reckon_2 : decode cX7_reckon 2 = .ok (.putfield 9, 3) := by decide +kernel
theorem dX7_reckon_5 : decode cX7_reckon 5 = .ok (.iconst 0, 1) := by decide +kernel
theorem dX7_reckon_6 : decode cX7_reckon 6 = .ok (.istore_n 3, 1) := by decide +kernel
theorem dX7_reckon_7 : decode cX7_reckon 7 = .ok (.iload_n 3, 1) := by decide +kernel
theorem dX7_reckon_8 : decode cX7_reckon 8 = .ok (.sipush 256, 3) := by decide +kernel
theorem dX7_reckon_11 : decode cX7_reckon 11 = .ok (.if_icmp .ge 28, 3) := by decide +kernel
theorem dX7_reckon_14 : decode cX7_reckon 14 = .ok (.aload_n 0, 1) := by decide +kernel
theorem dX7_reckon_15 : decode cX7_reckon 15 = .ok (.getfield 19, 3) := by decide +kernel
theorem dX7_reckon_18 : decode cX7_reckon 18 = .ok (.aload_n 0, 1) := by decide +kernel
theorem dX7_reckon_19 : decode cX7_reckon 19 = .ok (.getfield 15, 3) := by decide +kernel
theorem dX7_reckon_22 : decode cX7_reckon 22 = .ok (.getfield 23, 3) := by decide +kernel
theorem dX7_reckon_25 : decode cX7_reckon 25 = .ok (.sipush 256, 3) := by decide +kernel
theorem dX7_reckon_28 : decode cX7_reckon 28 = .ok (.imul, 1) := by decide +kernel
theorem dX7_reckon_29 : decode cX7_reckon 29 = .ok (.iload_n 3, 1) := by decide +kernel
theorem dX7_reckon_30 : decode cX7_reckon 30 = .ok (.iadd, 1) := by decide +kernel
theorem dX7_reckon_31 : decode cX7_reckon 31 = .ok (.iconst 0, 1) := by decide +kernel
theorem dX7_reckon_32 : decode cX7_reckon 32 = .ok (.iastore, 1) := by decide +kernel
theorem dX7_reckon_33 : decode cX7_reckon 33 = .ok (.iinc 3 1, 3) := by decide +kernel
theorem dX7_reckon_36 : decode cX7_reckon 36 = .ok (.goto (-29), 3) := by decide +kernel
theorem dX7_reckon_39 : decode cX7_reckon 39 = .ok (.aload_n 0, 1) := by decide +kernel
theorem dX7_reckon_40 : decode cX7_reckon 40 = .ok (.getfield 15, 3) := by decide +kernel
theorem dX7_reckon_43 : decode cX7_reckon 43 = .ok (.getfield 23, 3) := by decide +kernel
theorem dX7_reckon_46 : decode cX7_reckon 46 = .ok (.iconst 1, 1) := by decide +kernel
theorem dX7_reckon_47 : decode cX7_reckon 47 = .ok (.isub, 1) := by decide +kernel
theorem dX7_reckon_48 : decode cX7_reckon 48 = .ok (.istore_n 3, 1) := by decide +kernel
theorem dX7_reckon_49 : decode cX7_reckon 49 = .ok (.iload_n 3, 1) := by decide +kernel
theorem dX7_reckon_50 : decode cX7_reckon 50 = .ok (.ifCond .lt 79, 3) := by decide +kernel
theorem dX7_reckon_53 : decode cX7_reckon 53 = .ok (.iconst 0, 1) := by decide +kernel
theorem dX7_reckon_54 : decode cX7_reckon 54 = .ok (.istore 4, 2) := by decide +kernel
theorem dX7_reckon_56 : decode cX7_reckon 56 = .ok (.iload 4, 2) := by decide +kernel
theorem dX7_reckon_58 : decode cX7_reckon 58 = .ok (.iconst 1, 1) := by decide +kernel
theorem dX7_reckon_59 : decode cX7_reckon 59 = .ok (.aload_n 0, 1) := by decide +kernel
theorem dX7_reckon_60 : decode cX7_reckon 60 = .ok (.getfield 9, 3) := by decide +kernel
theorem dX7_reckon_63 : decode cX7_reckon 63 = .ok (.ishl, 1) := by decide +kernel
theorem dX7_reckon_64 : decode cX7_reckon 64 = .ok (.if_icmp .ge 59, 3) := by decide +kernel
theorem dX7_reckon_67 : decode cX7_reckon 67 = .ok (.iload_n 2, 1) := by decide +kernel
theorem dX7_reckon_68 : decode cX7_reckon 68 = .ok (.iload_n 3, 1) := by decide +kernel
theorem dX7_reckon_69 : decode cX7_reckon 69 = .ok (.ishr, 1) := by decide +kernel
theorem dX7_reckon_70 : decode cX7_reckon 70 = .ok (.iconst 1, 1) := by decide +kernel
theorem dX7_reckon_71 : decode cX7_reckon 71 = .ok (.iand, 1) := by decide +kernel
theorem dX7_reckon_72 : decode cX7_reckon 72 = .ok (.ifCond .eq 7, 3) := by decide +kernel
theorem dX7_reckon_75 : decode cX7_reckon 75 = .ok (.iconst 1, 1) := by decide +kernel
theorem dX7_reckon_76 : decode cX7_reckon 76 = .ok (.goto 4, 3) := by decide +kernel
theorem dX7_reckon_79 : decode cX7_reckon 79 = .ok (.iconst 0, 1) := by decide +kernel
theorem dX7_reckon_80 : decode cX7_reckon 80 = .ok (.istore 5, 2) := by decide +kernel
theorem dX7_reckon_82 : decode cX7_reckon 82 = .ok (.aload_n 0, 1) := by decide +kernel
theorem dX7_reckon_83 : decode cX7_reckon 83 = .ok (.getfield 19, 3) := by decide +kernel
theorem dX7_reckon_86 : decode cX7_reckon 86 = .ok (.iload_n 3, 1) := by decide +kernel
theorem dX7_reckon_87 : decode cX7_reckon 87 = .ok (.sipush 256, 3) := by decide +kernel
theorem dX7_reckon_90 : decode cX7_reckon 90 = .ok (.imul, 1) := by decide +kernel
theorem dX7_reckon_91 : decode cX7_reckon 91 = .ok (.iload 4, 2) := by decide +kernel
theorem dX7_reckon_93 : decode cX7_reckon 93 = .ok (.iadd, 1) := by decide +kernel
theorem dX7_reckon_94 : decode cX7_reckon 94 = .ok (.iload 5, 2) := by decide +kernel
theorem dX7_reckon_96 : decode cX7_reckon 96 = .ok (.ifCond .eq 13, 3) := by decide +kernel
theorem dX7_reckon_99 : decode cX7_reckon 99 = .ok (.aload_n 0, 1) := by decide +kernel
theorem dX7_reckon_100 : decode cX7_reckon 100 = .ok (.iload_n 3, 1) := by decide +kernel
theorem dX7_reckon_101 : decode cX7_reckon 101 = .ok (.iload 4, 2) := by decide +kernel
theorem dX7_reckon_103 : decode cX7_reckon 103 = .ok (.invokevirtual 28, 3) := by decide +kernel
theorem dX7_reckon_106 : decode cX7_reckon 106 = .ok (.goto 10, 3) := by decide +kernel
theorem dX7_reckon_109 : decode cX7_reckon 109 = .ok (.aload_n 0, 1) := by decide +kernel
theorem dX7_reckon_110 : decode cX7_reckon 110 = .ok (.iload_n 3, 1) := by decide +kernel
theorem dX7_reckon_111 : decode cX7_reckon 111 = .ok (.iload 4, 2) := by decide +kernel
theorem dX7_reckon_113 : decode cX7_reckon 113 = .ok (.invokevirtual 32, 3) := by decide +kernel
theorem dX7_reckon_116 : decode cX7_reckon 116 = .ok (.iastore, 1) := by decide +kernel
theorem dX7_reckon_117 : decode cX7_reckon 117 = .ok (.iinc 4 1, 3) := by decide +kernel
theorem dX7_reckon_120 : decode cX7_reckon 120 = .ok (.goto (-64), 3) := by decide +kernel
theorem dX7_reckon_123 : decode cX7_reckon 123 = .ok (.iinc 3 (-1), 3) := by decide +kernel
theorem dX7_reckon_126 : decode cX7_reckon 126 = .ok (.goto (-77), 3) := by decide +kernel
theorem dX7_reckon_129 : decode cX7_reckon 129 = .ok (.return_, 1) := by decide +kernel
theorem dX7_behind_0 : decode cX7_behind 0 = .ok (.aload_n 0, 1) := by decide +kernel
theorem dX7_behind_1 : decode cX7_behind 1 = .ok (.getfield 19, 3) := by decide +kernel
theorem dX7_behind_4 : decode cX7_behind 4 = .ok (.iload_n 1, 1) := by decide +kernel
theorem dX7_behind_5 : decode cX7_behind 5 = .ok (.iconst 1, 1) := by decide +kernel
theorem dX7_behind_6 : decode cX7_behind 6 = .ok (.iadd, 1) := by decide +kernel
theorem dX7_behind_7 : decode cX7_behind 7 = .ok (.sipush 256, 3) := by decide +kernel
theorem dX7_behind_10 : decode cX7_behind 10 = .ok (.imul, 1) := by decide +kernel
theorem dX7_behind_11 : decode cX7_behind 11 = .ok (.iload_n 2, 1) := by decide +kernel
theorem dX7_behind_12 : decode cX7_behind 12 = .ok (.iadd, 1) := by decide +kernel
theorem dX7_behind_13 : decode cX7_behind 13 = .ok (.iaload, 1) := by decide +kernel
theorem dX7_behind_14 : decode cX7_behind 14 = .ok (.ireturn, 1) := by decide +kernel
theorem dX7_withThing_0 : decode cX7_withThing 0 = .ok (.aload_n 0, 1) := by decide +kernel
theorem dX7_withThing_1 : decode cX7_withThing 1 = .ok (.iload_n 1, 1) := by decide +kernel
theorem dX7_withThing_2 : decode cX7_withThing 2 = .ok (.iload_n 2, 1) := by decide +kernel
theorem dX7_withThing_3 : decode cX7_withThing 3 = .ok (.invokevirtual 32, 3) := by decide +kernel
theorem dX7_withThing_6 : decode cX7_withThing 6 = .ok (.istore_n 3, 1) := by decide +kernel
theorem dX7_withThing_7 : decode cX7_withThing 7 = .ok (.iconst 0, 1) := by decide +kernel
theorem dX7_withThing_8 : decode cX7_withThing 8 = .ok (.istore 4, 2) := by decide +kernel
theorem dX7_withThing_10 : decode cX7_withThing 10 = .ok (.iload 4, 2) := by decide +kernel
theorem dX7_withThing_12 : decode cX7_withThing 12 = .ok (.aload_n 0, 1) := by decide +kernel
theorem dX7_withThing_13 : decode cX7_withThing 13 = .ok (.getfield 9, 3) := by decide +kernel
theorem dX7_withThing_16 : decode cX7_withThing 16 = .ok (.if_icmp .ge 38, 3) := by decide +kernel
theorem dX7_withThing_19 : decode cX7_withThing 19 = .ok (.aload_n 0, 1) := by decide +kernel
theorem dX7_withThing_20 : decode cX7_withThing 20 = .ok (.iload 4, 2) := by decide +kernel
theorem dX7_withThing_22 : decode cX7_withThing 22 = .ok (.iload_n 1, 1) := by decide +kernel
theorem dX7_withThing_23 : decode cX7_withThing 23 = .ok (.iload_n 2, 1) := by decide +kernel
theorem dX7_withThing_24 : decode cX7_withThing 24 = .ok (.invokevirtual 35, 3) := by decide +kernel
theorem dX7_withThing_27 : decode cX7_withThing 27 = .ok (.ifCond .eq 21, 3) := by decide +kernel
theorem dX7_withThing_30 : decode cX7_withThing 30 = .ok (.iload_n 3, 1) := by decide +kernel
theorem dX7_withThing_31 : decode cX7_withThing 31 = .ok (.iconst 1, 1) := by decide +kernel
theorem dX7_withThing_32 : decode cX7_withThing 32 = .ok (.aload_n 0, 1) := by decide +kernel
theorem dX7_withThing_33 : decode cX7_withThing 33 = .ok (.iload_n 1, 1) := by decide +kernel
theorem dX7_withThing_34 : decode cX7_withThing 34 = .ok (.iload_n 2, 1) := by decide +kernel
theorem dX7_withThing_35 : decode cX7_withThing 35 = .ok (.iconst 1, 1) := by decide +kernel
theorem dX7_withThing_36 : decode cX7_withThing 36 = .ok (.iload 4, 2) := by decide +kernel
theorem dX7_withThing_38 : decode cX7_withThing 38 = .ok (.ishl, 1) := by decide +kernel
theorem dX7_withThing_39 : decode cX7_withThing 39 = .ok (.ior, 1) := by decide +kernel
theorem dX7_withThing_40 : decode cX7_withThing 40 = .ok (.invokevirtual 32, 3) := by decide +kernel
theorem dX7_withThing_43 : decode cX7_withThing 43 = .ok (.iadd, 1) := by decide +kernel
theorem dX7_withThing_44 : decode cX7_withThing 44 = .ok (.invokestatic 39, 3) := by decide +kernel
theorem dX7_withThing_47 : decode cX7_withThing 47 = .ok (.istore_n 3, 1) := by decide +kernel
theorem dX7_withThing_48 : decode cX7_withThing 48 = .ok (.iinc 4 1, 3) := by decide +kernel
theorem dX7_withThing_51 : decode cX7_withThing 51 = .ok (.goto (-41), 3) := by decide +kernel
theorem dX7_withThing_54 : decode cX7_withThing 54 = .ok (.iload_n 3, 1) := by decide +kernel
theorem dX7_withThing_55 : decode cX7_withThing 55 = .ok (.ireturn, 1) := by decide +kernel
theorem dX7_isFree_0 : decode cX7_isFree 0 = .ok (.iload_n 3, 1) := by decide +kernel
theorem dX7_isFree_1 : decode cX7_isFree 1 = .ok (.iload_n 1, 1) := by decide +kernel
theorem dX7_isFree_2 : decode cX7_isFree 2 = .ok (.ishr, 1) := by decide +kernel
theorem dX7_isFree_3 : decode cX7_isFree 3 = .ok (.iconst 1, 1) := by decide +kernel
theorem dX7_isFree_4 : decode cX7_isFree 4 = .ok (.iand, 1) := by decide +kernel
theorem dX7_isFree_5 : decode cX7_isFree 5 = .ok (.ifCond .ne 19, 3) := by decide +kernel
theorem dX7_isFree_8 : decode cX7_isFree 8 = .ok (.aload_n 0, 1) := by decide +kernel
theorem dX7_isFree_9 : decode cX7_isFree 9 = .ok (.getfield 15, 3) := by decide +kernel
theorem dX7_isFree_12 : decode cX7_isFree 12 = .ok (.iload_n 1, 1) := by decide +kernel
theorem dX7_isFree_13 : decode cX7_isFree 13 = .ok (.iload_n 2, 1) := by decide +kernel
theorem dX7_isFree_14 : decode cX7_isFree 14 = .ok (.invokevirtual 44, 3) := by decide +kernel
theorem dX7_isFree_17 : decode cX7_isFree 17 = .ok (.ifCond .eq 7, 3) := by decide +kernel
theorem dX7_isFree_20 : decode cX7_isFree 20 = .ok (.iconst 1, 1) := by decide +kernel
theorem dX7_isFree_21 : decode cX7_isFree 21 = .ok (.goto 4, 3) := by decide +kernel
theorem dX7_isFree_24 : decode cX7_isFree 24 = .ok (.iconst 0, 1) := by decide +kernel
theorem dX7_isFree_25 : decode cX7_isFree 25 = .ok (.ireturn, 1) := by decide +kernel
theorem dX7_landed_0 : decode cX7_landed 0 = .ok (.aload_n 0, 1) := by decide +kernel
theorem dX7_landed_1 : decode cX7_landed 1 = .ok (.getfield 19, 3) := by decide +kernel
theorem dX7_landed_4 : decode cX7_landed 4 = .ok (.iconst 0, 1) := by decide +kernel
theorem dX7_landed_5 : decode cX7_landed 5 = .ok (.iaload, 1) := by decide +kernel
theorem dX7_landed_6 : decode cX7_landed 6 = .ok (.ireturn, 1) := by decide +kernel
theorem dX7_rungOfThing_0 : decode cX7_rungOfThing 0 = .ok (.iconst 0, 1) := by decide +kernel
theorem dX7_rungOfThing_1 : decode cX7_rungOfThing 1 = .ok (.istore_n 3, 1) := by decide +kernel
theorem dX7_rungOfThing_2 : decode cX7_rungOfThing 2 = .ok (.iconst (-1), 1) := by decide +kernel
theorem dX7_rungOfThing_3 : decode cX7_rungOfThing 3 = .ok (.istore 4, 2) := by decide +kernel
theorem dX7_rungOfThing_5 : decode cX7_rungOfThing 5 = .ok (.iconst 0, 1) := by decide +kernel
theorem dX7_rungOfThing_6 : decode cX7_rungOfThing 6 = .ok (.istore 5, 2) := by decide +kernel
theorem dX7_rungOfThing_8 : decode cX7_rungOfThing 8 = .ok (.iload 5, 2) := by decide +kernel
theorem dX7_rungOfThing_10 : decode cX7_rungOfThing 10 = .ok (.iload_n 2, 1) := by decide +kernel
theorem dX7_rungOfThing_11 : decode cX7_rungOfThing 11 = .ok (.if_icmp .gt 48, 3) := by decide +kernel
theorem dX7_rungOfThing_14 : decode cX7_rungOfThing 14 = .ok (.iload_n 1, 1) := by decide +kernel
theorem dX7_rungOfThing_15 : decode cX7_rungOfThing 15 = .ok (.iload 5, 2) := by decide +kernel
theorem dX7_rungOfThing_17 : decode cX7_rungOfThing 17 = .ok (.ishr, 1) := by decide +kernel
theorem dX7_rungOfThing_18 : decode cX7_rungOfThing 18 = .ok (.iconst 1, 1) := by decide +kernel
theorem dX7_rungOfThing_19 : decode cX7_rungOfThing 19 = .ok (.iand, 1) := by decide +kernel
theorem dX7_rungOfThing_20 : decode cX7_rungOfThing 20 = .ok (.ifCond .eq 13, 3) := by decide +kernel
theorem dX7_rungOfThing_23 : decode cX7_rungOfThing 23 = .ok (.aload_n 0, 1) := by decide +kernel
theorem dX7_rungOfThing_24 : decode cX7_rungOfThing 24 = .ok (.iload 5, 2) := by decide +kernel
theorem dX7_rungOfThing_26 : decode cX7_rungOfThing 26 = .ok (.iload_n 3, 1) := by decide +kernel
theorem dX7_rungOfThing_27 : decode cX7_rungOfThing 27 = .ok (.invokevirtual 48, 3) := by decide +kernel
theorem dX7_rungOfThing_30 : decode cX7_rungOfThing 30 = .ok (.goto 4, 3) := by decide +kernel
theorem dX7_rungOfThing_33 : decode cX7_rungOfThing 33 = .ok (.iconst (-1), 1) := by decide +kernel
theorem dX7_rungOfThing_34 : decode cX7_rungOfThing 34 = .ok (.istore 4, 2) := by decide +kernel
theorem dX7_rungOfThing_36 : decode cX7_rungOfThing 36 = .ok (.iload_n 3, 1) := by decide +kernel
theorem dX7_rungOfThing_37 : decode cX7_rungOfThing 37 = .ok (.iload 4, 2) := by decide +kernel
theorem dX7_rungOfThing_39 : decode cX7_rungOfThing 39 = .ok (.iconst (-1), 1) := by decide +kernel
theorem dX7_rungOfThing_40 : decode cX7_rungOfThing 40 = .ok (.if_icmp .ne 7, 3) := by decide +kernel
theorem dX7_rungOfThing_43 : decode cX7_rungOfThing 43 = .ok (.iconst 0, 1) := by decide +kernel
theorem dX7_rungOfThing_44 : decode cX7_rungOfThing 44 = .ok (.goto 7, 3) := by decide +kernel
theorem dX7_rungOfThing_47 : decode cX7_rungOfThing 47 = .ok (.iconst 1, 1) := by decide +kernel
theorem dX7_rungOfThing_48 : decode cX7_rungOfThing 48 = .ok (.iload 4, 2) := by decide +kernel
theorem dX7_rungOfThing_50 : decode cX7_rungOfThing 50 = .ok (.ishl, 1) := by decide +kernel
theorem dX7_rungOfThing_51 : decode cX7_rungOfThing 51 = .ok (.ior, 1) := by decide +kernel
theorem dX7_rungOfThing_52 : decode cX7_rungOfThing 52 = .ok (.istore_n 3, 1) := by decide +kernel
theorem dX7_rungOfThing_53 : decode cX7_rungOfThing 53 = .ok (.iinc 5 1, 3) := by decide +kernel
theorem dX7_rungOfThing_56 : decode cX7_rungOfThing 56 = .ok (.goto (-48), 3) := by decide +kernel
theorem dX7_rungOfThing_59 : decode cX7_rungOfThing 59 = .ok (.iload 4, 2) := by decide +kernel
theorem dX7_rungOfThing_61 : decode cX7_rungOfThing 61 = .ok (.ireturn, 1) := by decide +kernel
theorem dX7_firstRung_0 : decode cX7_firstRung 0 = .ok (.iconst 0, 1) := by decide +kernel
theorem dX7_firstRung_1 : decode cX7_firstRung 1 = .ok (.istore_n 3, 1) := by decide +kernel
theorem dX7_firstRung_2 : decode cX7_firstRung 2 = .ok (.iload_n 3, 1) := by decide +kernel
theorem dX7_firstRung_3 : decode cX7_firstRung 3 = .ok (.aload_n 0, 1) := by decide +kernel
theorem dX7_firstRung_4 : decode cX7_firstRung 4 = .ok (.getfield 9, 3) := by decide +kernel
theorem dX7_firstRung_7 : decode cX7_firstRung 7 = .ok (.if_icmp .ge 52, 3) := by decide +kernel
theorem dX7_firstRung_10 : decode cX7_firstRung 10 = .ok (.aload_n 0, 1) := by decide +kernel
theorem dX7_firstRung_11 : decode cX7_firstRung 11 = .ok (.iload_n 3, 1) := by decide +kernel
theorem dX7_firstRung_12 : decode cX7_firstRung 12 = .ok (.iload_n 1, 1) := by decide +kernel
theorem dX7_firstRung_13 : decode cX7_firstRung 13 = .ok (.iload_n 2, 1) := by decide +kernel
theorem dX7_firstRung_14 : decode cX7_firstRung 14 = .ok (.invokevirtual 35, 3) := by decide +kernel
theorem dX7_firstRung_17 : decode cX7_firstRung 17 = .ok (.istore 4, 2) := by decide +kernel
theorem dX7_firstRung_19 : decode cX7_firstRung 19 = .ok (.iload 4, 2) := by decide +kernel
theorem dX7_firstRung_21 : decode cX7_firstRung 21 = .ok (.ifCond .eq 32, 3) := by decide +kernel
theorem dX7_firstRung_24 : decode cX7_firstRung 24 = .ok (.iconst 1, 1) := by decide +kernel
theorem dX7_firstRung_25 : decode cX7_firstRung 25 = .ok (.aload_n 0, 1) := by decide +kernel
theorem dX7_firstRung_26 : decode cX7_firstRung 26 = .ok (.iload_n 1, 1) := by decide +kernel
theorem dX7_firstRung_27 : decode cX7_firstRung 27 = .ok (.iload_n 2, 1) := by decide +kernel
theorem dX7_firstRung_28 : decode cX7_firstRung 28 = .ok (.iconst 1, 1) := by decide +kernel
theorem dX7_firstRung_29 : decode cX7_firstRung 29 = .ok (.iload_n 3, 1) := by decide +kernel
theorem dX7_firstRung_30 : decode cX7_firstRung 30 = .ok (.ishl, 1) := by decide +kernel
theorem dX7_firstRung_31 : decode cX7_firstRung 31 = .ok (.ior, 1) := by decide +kernel
theorem dX7_firstRung_32 : decode cX7_firstRung 32 = .ok (.invokevirtual 32, 3) := by decide +kernel
theorem dX7_firstRung_35 : decode cX7_firstRung 35 = .ok (.iadd, 1) := by decide +kernel
theorem dX7_firstRung_36 : decode cX7_firstRung 36 = .ok (.aload_n 0, 1) := by decide +kernel
theorem dX7_firstRung_37 : decode cX7_firstRung 37 = .ok (.getfield 19, 3) := by decide +kernel
theorem dX7_firstRung_40 : decode cX7_firstRung 40 = .ok (.iload_n 1, 1) := by decide +kernel
theorem dX7_firstRung_41 : decode cX7_firstRung 41 = .ok (.sipush 256, 3) := by decide +kernel
theorem dX7_firstRung_44 : decode cX7_firstRung 44 = .ok (.imul, 1) := by decide +kernel
theorem dX7_firstRung_45 : decode cX7_firstRung 45 = .ok (.iload_n 2, 1) := by decide +kernel
theorem dX7_firstRung_46 : decode cX7_firstRung 46 = .ok (.iadd, 1) := by decide +kernel
theorem dX7_firstRung_47 : decode cX7_firstRung 47 = .ok (.iaload, 1) := by decide +kernel
theorem dX7_firstRung_48 : decode cX7_firstRung 48 = .ok (.if_icmp .ne 5, 3) := by decide +kernel
theorem dX7_firstRung_51 : decode cX7_firstRung 51 = .ok (.iload_n 3, 1) := by decide +kernel
theorem dX7_firstRung_52 : decode cX7_firstRung 52 = .ok (.ireturn, 1) := by decide +kernel
theorem dX7_firstRung_53 : decode cX7_firstRung 53 = .ok (.iinc 3 1, 3) := by decide +kernel
theorem dX7_firstRung_56 : decode cX7_firstRung 56 = .ok (.goto (-54), 3) := by decide +kernel
theorem dX7_firstRung_59 : decode cX7_firstRung 59 = .ok (.iconst (-1), 1) := by decide +kernel
theorem dX7_firstRung_60 : decode cX7_firstRung 60 = .ok (.ireturn, 1) := by decide +kernel
theorem dX8_init_0 : decode cX8_init 0 = .ok (.aload_n 0, 1) := by decide +kernel
theorem dX8_init_1 : decode cX8_init 1 = .ok (.invokespecial 3, 3) := by decide +kernel
theorem dX8_init_4 : decode cX8_init 4 = .ok (.aload_n 0, 1) := by decide +kernel
theorem dX8_init_5 : decode cX8_init 5 = .ok (.iconst 0, 1) := by decide +kernel
theorem dX8_init_6 : decode cX8_init 6 = .ok (.putfield 9, 3) := by decide +kernel
theorem dX8_init_9 : decode cX8_init 9 = .ok (.aload_n 0, 1) := by decide +kernel
theorem dX8_init_10 : decode cX8_init 10 = .ok (.iconst 0, 1) := by decide +kernel
theorem dX8_init_11 : decode cX8_init 11 = .ok (.putfield 15, 3) := by decide +kernel
theorem dX8_init_14 : decode cX8_init 14 = .ok (.aload_n 0, 1) := by decide +kernel
theorem dX8_init_15 : decode cX8_init 15 = .ok (.lconst 1, 1) := by decide +kernel
theorem dX8_init_16 : decode cX8_init 16 = .ok (.putfield 18, 3) := by decide +kernel
theorem dX8_init_19 : decode cX8_init 19 = .ok (.aload_n 0, 1) := by decide +kernel
theorem dX8_init_20 : decode cX8_init 20 = .ok (.lconst 0, 1) := by decide +kernel
theorem dX8_init_21 : decode cX8_init 21 = .ok (.putfield 22, 3) := by decide +kernel
theorem dX8_init_24 : decode cX8_init 24 = .ok (.aload_n 0, 1) := by decide +kernel
theorem dX8_init_25 : decode cX8_init 25 = .ok (.iconst (-1), 1) := by decide +kernel
theorem dX8_init_26 : decode cX8_init 26 = .ok (.putfield 25, 3) := by decide +kernel
theorem dX8_init_29 : decode cX8_init 29 = .ok (.aload_n 0, 1) := by decide +kernel
theorem dX8_init_30 : decode cX8_init 30 = .ok (.aload_n 1, 1) := by decide +kernel
theorem dX8_init_31 : decode cX8_init 31 = .ok (.putfield 28, 3) := by decide +kernel
theorem dX8_init_34 : decode cX8_init 34 = .ok (.aload_n 0, 1) := by decide +kernel
theorem dX8_init_35 : decode cX8_init 35 = .ok (.aload_n 2, 1) := by decide +kernel
theorem dX8_init_36 : decode cX8_init 36 = .ok (.putfield 32, 3) := by decide +kernel
theorem dX8_init_39 : decode cX8_init 39 = .ok (.aload_n 0, 1) := by decide +kernel
theorem dX8_init_40 : decode cX8_init 40 = .ok (.aload_n 3, 1) := by decide +kernel
theorem dX8_init_41 : decode cX8_init 41 = .ok (.putfield 36, 3) := by decide +kernel
theorem dX8_init_44 : decode cX8_init 44 = .ok (.aload_n 0, 1) := by decide +kernel
theorem dX8_init_45 : decode cX8_init 45 = .ok (.aload 4, 2) := by decide +kernel
theorem dX8_init_47 : decode cX8_init 47 = .ok (.putfield 40, 3) := by decide +kernel
theorem dX8_init_50 : decode cX8_init 50 = .ok (.aload_n 0, 1) := by decide +kernel
theorem dX8_init_51 : decode cX8_init 51 = .ok (.aload 5, 2) := by decide +kernel
theorem dX8_init_53 : decode cX8_init 53 = .ok (.putfield 43, 3) := by decide +kernel
theorem dX8_init_56 : decode cX8_init 56 = .ok (.aload_n 0, 1) := by decide +kernel
theorem dX8_init_57 : decode cX8_init 57 = .ok (.aload 6, 2) := by decide +kernel
theorem dX8_init_59 : decode cX8_init 59 = .ok (.putfield 47, 3) := by decide +kernel
theorem dX8_init_62 : decode cX8_init 62 = .ok (.return_, 1) := by decide +kernel
theorem dX8_reckon_0 : decode cX8_reckon 0 = .ok (.aload_n 0, 1) := by decide +kernel
theorem dX8_reckon_1 : decode cX8_reckon 1 = .ok (.iload_n 2, 1) := by decide +kernel
theorem dX8_reckon_2 : decode cX8_reckon 2 = .ok (.putfield 15, 3) := by decide +kernel
theorem dX8_reckon_5 : decode cX8_reckon 5 = .ok (.aload_n 0, 1) := by decide +kernel
theorem dX8_reckon_6 : decode cX8_reckon 6 = .ok (.lconst 1, 1) := by decide +kernel
theorem dX8_reckon_7 : decode cX8_reckon 7 = .ok (.putfield 18, 3) := by decide +kernel
theorem dX8_reckon_10 : decode cX8_reckon 10 = .ok (.aload_n 0, 1) := by decide +kernel
theorem dX8_reckon_11 : decode cX8_reckon 11 = .ok (.iload_n 1, 1) := by decide +kernel
theorem dX8_reckon_12 : decode cX8_reckon 12 = .ok (.iload_n 3, 1) := by decide +kernel
theorem dX8_reckon_13 : decode cX8_reckon 13 = .ok (.invokevirtual 50, 3) := by decide +kernel
theorem dX8_reckon_16 : decode cX8_reckon 16 = .ok (.iconst 1, 1) := by decide +kernel
theorem dX8_reckon_17 : decode cX8_reckon 17 = .ok (.istore 4, 2) := by decide +kernel
theorem dX8_reckon_19 : decode cX8_reckon 19 = .ok (.iload 4, 2) := by decide +kernel
theorem dX8_reckon_21 : decode cX8_reckon 21 = .ok (.iload_n 3, 1) := by decide +kernel
theorem dX8_reckon_22 : decode cX8_reckon 22 = .ok (.if_icmp .gt 29, 3) := by decide +kernel
theorem dX8_reckon_25 : decode cX8_reckon 25 = .ok (.aload_n 0, 1) := by decide +kernel
theorem dX8_reckon_26 : decode cX8_reckon 26 = .ok (.dup, 1) := by decide +kernel
theorem dX8_reckon_27 : decode cX8_reckon 27 = .ok (.getfield 18, 3) := by decide +kernel
theorem dX8_reckon_30 : decode cX8_reckon 30 = .ok (.ldc2_w 54, 3) := by decide +kernel
theorem dX8_reckon_33 : decode cX8_reckon 33 = .ok (.lmul, 1) := by decide +kernel
theorem dX8_reckon_34 : decode cX8_reckon 34 = .ok (.putfield 18, 3) := by decide +kernel
theorem dX8_reckon_37 : decode cX8_reckon 37 = .ok (.aload_n 0, 1) := by decide +kernel
theorem dX8_reckon_38 : decode cX8_reckon 38 = .ok (.iload_n 3, 1) := by decide +kernel
theorem dX8_reckon_39 : decode cX8_reckon 39 = .ok (.iload 4, 2) := by decide +kernel
theorem dX8_reckon_41 : decode cX8_reckon 41 = .ok (.isub, 1) := by decide +kernel
theorem dX8_reckon_42 : decode cX8_reckon 42 = .ok (.invokevirtual 56, 3) := by decide +kernel
theorem dX8_reckon_45 : decode cX8_reckon 45 = .ok (.iinc 4 1, 3) := by decide +kernel
theorem dX8_reckon_48 : decode cX8_reckon 48 = .ok (.goto (-29), 3) := by decide +kernel
theorem dX8_reckon_51 : decode cX8_reckon 51 = .ok (.aload_n 0, 1) := by decide +kernel
theorem dX8_reckon_52 : decode cX8_reckon 52 = .ok (.aload_n 0, 1) := by decide +kernel
theorem dX8_reckon_53 : decode cX8_reckon 53 = .ok (.getfield 43, 3) := by decide +kernel
theorem dX8_reckon_56 : decode cX8_reckon 56 = .ok (.iload_n 1, 1) := by decide +kernel
theorem dX8_reckon_57 : decode cX8_reckon 57 = .ok (.laload, 1) := by decide +kernel
theorem dX8_reckon_58 : decode cX8_reckon 58 = .ok (.putfield 22, 3) := by decide +kernel
theorem dX8_reckon_61 : decode cX8_reckon 61 = .ok (.return_, 1) := by decide +kernel
theorem dX8_explore_0 : decode cX8_explore 0 = .ok (.aload_n 0, 1) := by decide +kernel
theorem dX8_explore_1 : decode cX8_explore 1 = .ok (.getfield 40, 3) := by decide +kernel
theorem dX8_explore_4 : decode cX8_explore 4 = .ok (.iconst (-1), 1) := by decide +kernel
theorem dX8_explore_5 : decode cX8_explore 5 = .ok (.invokestatic 60, 3) := by decide +kernel
theorem dX8_explore_8 : decode cX8_explore 8 = .ok (.aload_n 0, 1) := by decide +kernel
theorem dX8_explore_9 : decode cX8_explore 9 = .ok (.iconst 0, 1) := by decide +kernel
theorem dX8_explore_10 : decode cX8_explore 10 = .ok (.putfield 9, 3) := by decide +kernel
theorem dX8_explore_13 : decode cX8_explore 13 = .ok (.aload_n 0, 1) := by decide +kernel
theorem dX8_explore_14 : decode cX8_explore 14 = .ok (.iconst (-1), 1) := by decide +kernel
theorem dX8_explore_15 : decode cX8_explore 15 = .ok (.putfield 25, 3) := by decide +kernel
theorem dX8_explore_18 : decode cX8_explore 18 = .ok (.aload_n 0, 1) := by decide +kernel
theorem dX8_explore_19 : decode cX8_explore 19 = .ok (.iload_n 1, 1) := by decide +kernel
theorem dX8_explore_20 : decode cX8_explore 20 = .ok (.iconst 0, 1) := by decide +kernel
theorem dX8_explore_21 : decode cX8_explore 21 = .ok (.invokevirtual 66, 3) := by decide +kernel
theorem dX8_explore_24 : decode cX8_explore 24 = .ok (.iconst 0, 1) := by decide +kernel
theorem dX8_explore_25 : decode cX8_explore 25 = .ok (.istore_n 3, 1) := by decide +kernel
theorem dX8_explore_26 : decode cX8_explore 26 = .ok (.iload_n 3, 1) := by decide +kernel
theorem dX8_explore_27 : decode cX8_explore 27 = .ok (.aload_n 0, 1) := by decide +kernel
theorem dX8_explore_28 : decode cX8_explore 28 = .ok (.getfield 9, 3) := by decide +kernel
theorem dX8_explore_31 : decode cX8_explore 31 = .ok (.if_icmp .ge 53, 3) := by decide +kernel
theorem dX8_explore_34 : decode cX8_explore 34 = .ok (.iload_n 3, 1) := by decide +kernel
theorem dX8_explore_35 : decode cX8_explore 35 = .ok (.sipush 2880, 3) := by decide +kernel
theorem dX8_explore_38 : decode cX8_explore 38 = .ok (.if_icmp .ge 46, 3) := by decide +kernel
theorem dX8_explore_41 : decode cX8_explore 41 = .ok (.aload_n 0, 1) := by decide +kernel
theorem dX8_explore_42 : decode cX8_explore 42 = .ok (.getfield 36, 3) := by decide +kernel
theorem dX8_explore_45 : decode cX8_explore 45 = .ok (.iload_n 3, 1) := by decide +kernel
theorem dX8_explore_46 : decode cX8_explore 46 = .ok (.iaload, 1) := by decide +kernel
theorem dX8_explore_47 : decode cX8_explore 47 = .ok (.istore 4, 2) := by decide +kernel
theorem dX8_explore_49 : decode cX8_explore 49 = .ok (.aload_n 0, 1) := by decide +kernel
theorem dX8_explore_50 : decode cX8_explore 50 = .ok (.getfield 40, 3) := by decide +kernel
theorem dX8_explore_53 : decode cX8_explore 53 = .ok (.iload 4, 2) := by decide +kernel
theorem dX8_explore_55 : decode cX8_explore 55 = .ok (.iaload, 1) := by decide +kernel
theorem dX8_explore_56 : decode cX8_explore 56 = .ok (.iload_n 2, 1) := by decide +kernel
theorem dX8_explore_57 : decode cX8_explore 57 = .ok (.if_icmp .ge 21, 3) := by decide +kernel
theorem dX8_explore_60 : decode cX8_explore 60 = .ok (.iload 4, 2) := by decide +kernel
theorem dX8_explore_62 : decode cX8_explore 62 = .ok (.invokestatic 69, 3) := by decide +kernel
theorem dX8_explore_65 : decode cX8_explore 65 = .ok (.aload_n 0, 1) := by decide +kernel
theorem dX8_explore_66 : decode cX8_explore 66 = .ok (.getfield 15, 3) := by decide +kernel
theorem dX8_explore_69 : decode cX8_explore 69 = .ok (.if_icmp .eq 9, 3) := by decide +kernel
theorem dX8_explore_72 : decode cX8_explore 72 = .ok (.aload_n 0, 1) := by decide +kernel
theorem dX8_explore_73 : decode cX8_explore 73 = .ok (.iload 4, 2) := by decide +kernel
theorem dX8_explore_75 : decode cX8_explore 75 = .ok (.invokevirtual 73, 3) := by decide +kernel
theorem dX8_explore_78 : decode cX8_explore 78 = .ok (.iinc 3 1, 3) := by decide +kernel
theorem dX8_explore_81 : decode cX8_explore 81 = .ok (.goto (-55), 3) := by decide +kernel
theorem dX8_explore_84 : decode cX8_explore 84 = .ok (.return_, 1) := by decide +kernel
theorem dX8_reachFrom_0 : decode cX8_reachFrom 0 = .ok (.aload_n 0, 1) := by decide +kernel
theorem dX8_reachFrom_1 : decode cX8_reachFrom 1 = .ok (.getfield 32, 3) := by decide +kernel
theorem dX8_reachFrom_4 : decode cX8_reachFrom 4 = .ok (.iload_n 1, 1) := by decide +kernel
theorem dX8_reachFrom_5 : decode cX8_reachFrom 5 = .ok (.invokevirtual 76, 3) := by decide +kernel
theorem dX8_reachFrom_8 : decode cX8_reachFrom 8 = .ok (.istore_n 2, 1) := by decide +kernel
theorem dX8_reachFrom_9 : decode cX8_reachFrom 9 = .ok (.iconst 0, 1) := by decide +kernel
theorem dX8_reachFrom_10 : decode cX8_reachFrom 10 = .ok (.istore_n 3, 1) := by decide +kernel
theorem dX8_reachFrom_11 : decode cX8_reachFrom 11 = .ok (.iload_n 3, 1) := by decide +kernel
theorem dX8_reachFrom_12 : decode cX8_reachFrom 12 = .ok (.iload_n 2, 1) := by decide +kernel
theorem dX8_reachFrom_13 : decode cX8_reachFrom 13 = .ok (.if_icmp .ge 68, 3) := by decide +kernel
theorem dX8_reachFrom_16 : decode cX8_reachFrom 16 = .ok (.aload_n 0, 1) := by decide +kernel
theorem dX8_reachFrom_17 : decode cX8_reachFrom 17 = .ok (.aload_n 0, 1) := by decide +kernel
theorem dX8_reachFrom_18 : decode cX8_reachFrom 18 = .ok (.getfield 32, 3) := by decide +kernel
theorem dX8_reachFrom_21 : decode cX8_reachFrom 21 = .ok (.getfield 81, 3) := by decide +kernel
theorem dX8_reachFrom_24 : decode cX8_reachFrom 24 = .ok (.iload_n 3, 1) := by decide +kernel
theorem dX8_reachFrom_25 : decode cX8_reachFrom 25 = .ok (.iaload, 1) := by decide +kernel
theorem dX8_reachFrom_26 : decode cX8_reachFrom 26 = .ok (.aload_n 0, 1) := by decide +kernel
theorem dX8_reachFrom_27 : decode cX8_reachFrom 27 = .ok (.getfield 40, 3) := by decide +kernel
theorem dX8_reachFrom_30 : decode cX8_reachFrom 30 = .ok (.iload_n 1, 1) := by decide +kernel
theorem dX8_reachFrom_31 : decode cX8_reachFrom 31 = .ok (.iaload, 1) := by decide +kernel
theorem dX8_reachFrom_32 : decode cX8_reachFrom 32 = .ok (.iconst 1, 1) := by decide +kernel
theorem dX8_reachFrom_33 : decode cX8_reachFrom 33 = .ok (.iadd, 1) := by decide +kernel
theorem dX8_reachFrom_34 : decode cX8_reachFrom 34 = .ok (.invokevirtual 66, 3) := by decide +kernel
theorem dX8_reachFrom_37 : decode cX8_reachFrom 37 = .ok (.aload_n 0, 1) := by decide +kernel
theorem dX8_reachFrom_38 : decode cX8_reachFrom 38 = .ok (.getfield 32, 3) := by decide +kernel
theorem dX8_reachFrom_41 : decode cX8_reachFrom 41 = .ok (.getfield 84, 3) := by decide +kernel
theorem dX8_reachFrom_44 : decode cX8_reachFrom 44 = .ok (.iload_n 3, 1) := by decide +kernel
theorem dX8_reachFrom_45 : decode cX8_reachFrom 45 = .ok (.iaload, 1) := by decide +kernel
theorem dX8_reachFrom_46 : decode cX8_reachFrom 46 = .ok (.iconst 1, 1) := by decide +kernel
theorem dX8_reachFrom_47 : decode cX8_reachFrom 47 = .ok (.if_icmp .ne 28, 3) := by decide +kernel
theorem dX8_reachFrom_50 : decode cX8_reachFrom 50 = .ok (.aload_n 0, 1) := by decide +kernel
theorem dX8_reachFrom_51 : decode cX8_reachFrom 51 = .ok (.iload_n 1, 1) := by decide +kernel
theorem dX8_reachFrom_52 : decode cX8_reachFrom 52 = .ok (.aload_n 0, 1) := by decide +kernel
theorem dX8_reachFrom_53 : decode cX8_reachFrom 53 = .ok (.getfield 32, 3) := by decide +kernel
theorem dX8_reachFrom_56 : decode cX8_reachFrom 56 = .ok (.getfield 81, 3) := by decide +kernel
theorem dX8_reachFrom_59 : decode cX8_reachFrom 59 = .ok (.iload_n 3, 1) := by decide +kernel
theorem dX8_reachFrom_60 : decode cX8_reachFrom 60 = .ok (.iaload, 1) := by decide +kernel
theorem dX8_reachFrom_61 : decode cX8_reachFrom 61 = .ok (.invokestatic 87, 3) := by decide +kernel
theorem dX8_reachFrom_64 : decode cX8_reachFrom 64 = .ok (.aload_n 0, 1) := by decide +kernel
theorem dX8_reachFrom_65 : decode cX8_reachFrom 65 = .ok (.getfield 40, 3) := by decide +kernel
theorem dX8_reachFrom_68 : decode cX8_reachFrom 68 = .ok (.iload_n 1, 1) := by decide +kernel
theorem dX8_reachFrom_69 : decode cX8_reachFrom 69 = .ok (.iaload, 1) := by decide +kernel
theorem dX8_reachFrom_70 : decode cX8_reachFrom 70 = .ok (.iconst 1, 1) := by decide +kernel
theorem dX8_reachFrom_71 : decode cX8_reachFrom 71 = .ok (.iadd, 1) := by decide +kernel
theorem dX8_reachFrom_72 : decode cX8_reachFrom 72 = .ok (.invokevirtual 66, 3) := by decide +kernel
theorem dX8_reachFrom_75 : decode cX8_reachFrom 75 = .ok (.iinc 3 1, 3) := by decide +kernel
theorem dX8_reachFrom_78 : decode cX8_reachFrom 78 = .ok (.goto (-67), 3) := by decide +kernel
theorem dX8_reachFrom_81 : decode cX8_reachFrom 81 = .ok (.return_, 1) := by decide +kernel
theorem dX8_reach_0 : decode cX8_reach 0 = .ok (.aload_n 0, 1) := by decide +kernel
theorem dX8_reach_1 : decode cX8_reach 1 = .ok (.getfield 40, 3) := by decide +kernel
theorem dX8_reach_4 : decode cX8_reach 4 = .ok (.iload_n 1, 1) := by decide +kernel
theorem dX8_reach_5 : decode cX8_reach 5 = .ok (.iaload, 1) := by decide +kernel
theorem dX8_reach_6 : decode cX8_reach 6 = .ok (.iconst (-1), 1) := by decide +kernel
theorem dX8_reach_7 : decode cX8_reach 7 = .ok (.if_icmp .ne 62, 3) := by decide +kernel
theorem dX8_reach_10 : decode cX8_reach 10 = .ok (.aload_n 0, 1) := by decide +kernel
theorem dX8_reach_11 : decode cX8_reach 11 = .ok (.getfield 9, 3) := by decide +kernel
theorem dX8_reach_14 : decode cX8_reach 14 = .ok (.sipush 2880, 3) := by decide +kernel
theorem dX8_reach_17 : decode cX8_reach 17 = .ok (.if_icmp .ge 52, 3) := by decide +kernel
theorem dX8_reach_20 : decode cX8_reach 20 = .ok (.aload_n 0, 1) := by decide +kernel
theorem dX8_reach_21 : decode cX8_reach 21 = .ok (.getfield 40, 3) := by decide +kernel
theorem dX8_reach_24 : decode cX8_reach 24 = .ok (.iload_n 1, 1) := by decide +kernel
theorem dX8_reach_25 : decode cX8_reach 25 = .ok (.iload_n 2, 1) := by decide +kernel
theorem dX8_reach_26 : decode cX8_reach 26 = .ok (.iastore, 1) := by decide +kernel
theorem dX8_reach_27 : decode cX8_reach 27 = .ok (.aload_n 0, 1) := by decide +kernel
theorem dX8_reach_28 : decode cX8_reach 28 = .ok (.getfield 43, 3) := by decide +kernel
theorem dX8_reach_31 : decode cX8_reach 31 = .ok (.iload_n 1, 1) := by decide +kernel
theorem dX8_reach_32 : decode cX8_reach 32 = .ok (.iload_n 1, 1) := by decide +kernel
theorem dX8_reach_33 : decode cX8_reach 33 = .ok (.invokestatic 69, 3) := by decide +kernel
theorem dX8_reach_36 : decode cX8_reach 36 = .ok (.aload_n 0, 1) := by decide +kernel
theorem dX8_reach_37 : decode cX8_reach 37 = .ok (.getfield 15, 3) := by decide +kernel
theorem dX8_reach_40 : decode cX8_reach 40 = .ok (.if_icmp .ne 7, 3) := by decide +kernel
theorem dX8_reach_43 : decode cX8_reach 43 = .ok (.lconst 1, 1) := by decide +kernel
theorem dX8_reach_44 : decode cX8_reach 44 = .ok (.goto 4, 3) := by decide +kernel
theorem dX8_reach_47 : decode cX8_reach 47 = .ok (.lconst 0, 1) := by decide +kernel
theorem dX8_reach_48 : decode cX8_reach 48 = .ok (.lastore, 1) := by decide +kernel
theorem dX8_reach_49 : decode cX8_reach 49 = .ok (.aload_n 0, 1) := by decide +kernel
theorem dX8_reach_50 : decode cX8_reach 50 = .ok (.getfield 36, 3) := by decide +kernel
theorem dX8_reach_53 : decode cX8_reach 53 = .ok (.aload_n 0, 1) := by decide +kernel
theorem dX8_reach_54 : decode cX8_reach 54 = .ok (.getfield 9, 3) := by decide +kernel
theorem dX8_reach_57 : decode cX8_reach 57 = .ok (.iload_n 1, 1) := by decide +kernel
theorem dX8_reach_58 : decode cX8_reach 58 = .ok (.iastore, 1) := by decide +kernel
theorem dX8_reach_59 : decode cX8_reach 59 = .ok (.aload_n 0, 1) := by decide +kernel
theorem dX8_reach_60 : decode cX8_reach 60 = .ok (.dup, 1) := by decide +kernel
theorem dX8_reach_61 : decode cX8_reach 61 = .ok (.getfield 9, 3) := by decide +kernel
theorem dX8_reach_64 : decode cX8_reach 64 = .ok (.iconst 1, 1) := by decide +kernel
theorem dX8_reach_65 : decode cX8_reach 65 = .ok (.iadd, 1) := by decide +kernel
theorem dX8_reach_66 : decode cX8_reach 66 = .ok (.putfield 9, 3) := by decide +kernel
theorem dX8_reach_69 : decode cX8_reach 69 = .ok (.return_, 1) := by decide +kernel
theorem dX8_slipped_0 : decode cX8_slipped 0 = .ok (.iload_n 0, 1) := by decide +kernel
theorem dX8_slipped_1 : decode cX8_slipped 1 = .ok (.invokestatic 69, 3) := by decide +kernel
theorem dX8_slipped_4 : decode cX8_slipped 4 = .ok (.iload_n 0, 1) := by decide +kernel
theorem dX8_slipped_5 : decode cX8_slipped 5 = .ok (.invokestatic 91, 3) := by decide +kernel
theorem dX8_slipped_8 : decode cX8_slipped 8 = .ok (.iload_n 1, 1) := by decide +kernel
theorem dX8_slipped_9 : decode cX8_slipped 9 = .ok (.invokestatic 94, 3) := by decide +kernel
theorem dX8_slipped_12 : decode cX8_slipped 12 = .ok (.invokestatic 97, 3) := by decide +kernel
theorem dX8_slipped_15 : decode cX8_slipped 15 = .ok (.ireturn, 1) := by decide +kernel
theorem dX8_reckonWithin_0 : decode cX8_reckonWithin 0 = .ok (.iconst 0, 1) := by decide +kernel
theorem dX8_reckonWithin_1 : decode cX8_reckonWithin 1 = .ok (.istore_n 2, 1) := by decide +kernel
theorem dX8_reckonWithin_2 : decode cX8_reckonWithin 2 = .ok (.iload_n 2, 1) := by decide +kernel
theorem dX8_reckonWithin_3 : decode cX8_reckonWithin 3 = .ok (.aload_n 0, 1) := by decide +kernel
theorem dX8_reckonWithin_4 : decode cX8_reckonWithin 4 = .ok (.getfield 9, 3) := by decide +kernel
theorem dX8_reckonWithin_7 : decode cX8_reckonWithin 7 = .ok (.if_icmp .ge 45, 3) := by decide +kernel
theorem dX8_reckonWithin_10 : decode cX8_reckonWithin 10 = .ok (.aload_n 0, 1) := by decide +kernel
theorem dX8_reckonWithin_11 : decode cX8_reckonWithin 11 = .ok (.getfield 40, 3) := by decide +kernel
theorem dX8_reckonWithin_14 : decode cX8_reckonWithin 14 = .ok (.aload_n 0, 1) := by decide +kernel
theorem dX8_reckonWithin_15 : decode cX8_reckonWithin 15 = .ok (.getfield 36, 3) := by decide +kernel
theorem dX8_reckonWithin_18 : decode cX8_reckonWithin 18 = .ok (.iload_n 2, 1) := by decide +kernel
theorem dX8_reckonWithin_19 : decode cX8_reckonWithin 19 = .ok (.iaload, 1) := by decide +kernel
theorem dX8_reckonWithin_20 : decode cX8_reckonWithin 20 = .ok (.iaload, 1) := by decide +kernel
theorem dX8_reckonWithin_21 : decode cX8_reckonWithin 21 = .ok (.iload_n 1, 1) := by decide +kernel
theorem dX8_reckonWithin_22 : decode cX8_reckonWithin 22 = .ok (.if_icmp .gt 30, 3) := by decide +kernel
theorem dX8_reckonWithin_25 : decode cX8_reckonWithin 25 = .ok (.aload_n 0, 1) := by decide +kernel
theorem dX8_reckonWithin_26 : decode cX8_reckonWithin 26 = .ok (.getfield 47, 3) := by decide +kernel
theorem dX8_reckonWithin_29 : decode cX8_reckonWithin 29 = .ok (.aload_n 0, 1) := by decide +kernel
theorem dX8_reckonWithin_30 : decode cX8_reckonWithin 30 = .ok (.getfield 36, 3) := by decide +kernel
theorem dX8_reckonWithin_33 : decode cX8_reckonWithin 33 = .ok (.iload_n 2, 1) := by decide +kernel
theorem dX8_reckonWithin_34 : decode cX8_reckonWithin 34 = .ok (.iaload, 1) := by decide +kernel
theorem dX8_reckonWithin_35 : decode cX8_reckonWithin 35 = .ok (.aload_n 0, 1) := by decide +kernel
theorem dX8_reckonWithin_36 : decode cX8_reckonWithin 36 = .ok (.aload_n 0, 1) := by decide +kernel
theorem dX8_reckonWithin_37 : decode cX8_reckonWithin 37 = .ok (.getfield 36, 3) := by decide +kernel
theorem dX8_reckonWithin_40 : decode cX8_reckonWithin 40 = .ok (.iload_n 2, 1) := by decide +kernel
theorem dX8_reckonWithin_41 : decode cX8_reckonWithin 41 = .ok (.iaload, 1) := by decide +kernel
theorem dX8_reckonWithin_42 : decode cX8_reckonWithin 42 = .ok (.invokevirtual 101, 3) := by decide +kernel
theorem dX8_reckonWithin_45 : decode cX8_reckonWithin 45 = .ok (.lastore, 1) := by decide +kernel
theorem dX8_reckonWithin_46 : decode cX8_reckonWithin 46 = .ok (.iinc 2 1, 3) := by decide +kernel
theorem dX8_reckonWithin_49 : decode cX8_reckonWithin 49 = .ok (.goto (-47), 3) := by decide +kernel
theorem dX8_reckonWithin_52 : decode cX8_reckonWithin 52 = .ok (.aload_n 0, 1) := by decide +kernel
theorem dX8_reckonWithin_53 : decode cX8_reckonWithin 53 = .ok (.getfield 43, 3) := by decide +kernel
theorem dX8_reckonWithin_56 : decode cX8_reckonWithin 56 = .ok (.astore_n 2, 1) := by decide +kernel
theorem dX8_reckonWithin_57 : decode cX8_reckonWithin 57 = .ok (.aload_n 0, 1) := by decide +kernel
theorem dX8_reckonWithin_58 : decode cX8_reckonWithin 58 = .ok (.aload_n 0, 1) := by decide +kernel
theorem dX8_reckonWithin_59 : decode cX8_reckonWithin 59 = .ok (.getfield 47, 3) := by decide +kernel
theorem dX8_reckonWithin_62 : decode cX8_reckonWithin 62 = .ok (.putfield 43, 3) := by decide +kernel
theorem dX8_reckonWithin_65 : decode cX8_reckonWithin 65 = .ok (.aload_n 0, 1) := by decide +kernel
theorem dX8_reckonWithin_66 : decode cX8_reckonWithin 66 = .ok (.aload_n 2, 1) := by decide +kernel
theorem dX8_reckonWithin_67 : decode cX8_reckonWithin 67 = .ok (.putfield 47, 3) := by decide +kernel
theorem dX8_reckonWithin_70 : decode cX8_reckonWithin 70 = .ok (.return_, 1) := by decide +kernel
theorem dX8_likeliest_0 : decode cX8_likeliest 0 = .ok (.aload_n 0, 1) := by decide +kernel
theorem dX8_likeliest_1 : decode cX8_likeliest 1 = .ok (.iconst (-1), 1) := by decide +kernel
theorem dX8_likeliest_2 : decode cX8_likeliest 2 = .ok (.putfield 25, 3) := by decide +kernel
theorem dX8_likeliest_5 : decode cX8_likeliest 5 = .ok (.iload_n 1, 1) := by decide +kernel
theorem dX8_likeliest_6 : decode cX8_likeliest 6 = .ok (.invokestatic 69, 3) := by decide +kernel
theorem dX8_likeliest_9 : decode cX8_likeliest 9 = .ok (.aload_n 0, 1) := by decide +kernel
theorem dX8_likeliest_10 : decode cX8_likeliest 10 = .ok (.getfield 15, 3) := by decide +kernel
theorem dX8_likeliest_13 : decode cX8_likeliest 13 = .ok (.if_icmp .ne 8, 3) := by decide +kernel
theorem dX8_likeliest_16 : decode cX8_likeliest 16 = .ok (.aload_n 0, 1) := by decide +kernel
theorem dX8_likeliest_17 : decode cX8_likeliest 17 = .ok (.getfield 18, 3) := by decide +kernel
theorem dX8_likeliest_20 : decode cX8_likeliest 20 = .ok (.lreturn, 1) := by decide +kernel
theorem dX8_likeliest_21 : decode cX8_likeliest 21 = .ok (.lconst 0, 1) := by decide +kernel
theorem dX8_likeliest_22 : decode cX8_likeliest 22 = .ok (.lstore_n 2, 1) := by decide +kernel
theorem dX8_likeliest_23 : decode cX8_likeliest 23 = .ok (.aload_n 0, 1) := by decide +kernel
theorem dX8_likeliest_24 : decode cX8_likeliest 24 = .ok (.getfield 32, 3) := by decide +kernel
theorem dX8_likeliest_27 : decode cX8_likeliest 27 = .ok (.iload_n 1, 1) := by decide +kernel
theorem dX8_likeliest_28 : decode cX8_likeliest 28 = .ok (.invokevirtual 76, 3) := by decide +kernel
theorem dX8_likeliest_31 : decode cX8_likeliest 31 = .ok (.istore 4, 2) := by decide +kernel
theorem dX8_likeliest_33 : decode cX8_likeliest 33 = .ok (.iconst 0, 1) := by decide +kernel
theorem dX8_likeliest_34 : decode cX8_likeliest 34 = .ok (.istore 5, 2) := by decide +kernel
theorem dX8_likeliest_36 : decode cX8_likeliest 36 = .ok (.iload 5, 2) := by decide +kernel
theorem dX8_likeliest_38 : decode cX8_likeliest 38 = .ok (.iload 4, 2) := by decide +kernel
theorem dX8_likeliest_40 : decode cX8_likeliest 40 = .ok (.if_icmp .ge 118, 3) := by decide +kernel
theorem dX8_likeliest_43 : decode cX8_likeliest 43 = .ok (.aload_n 0, 1) := by decide +kernel
theorem dX8_likeliest_44 : decode cX8_likeliest 44 = .ok (.getfield 32, 3) := by decide +kernel
theorem dX8_likeliest_47 : decode cX8_likeliest 47 = .ok (.getfield 81, 3) := by decide +kernel
theorem dX8_likeliest_50 : decode cX8_likeliest 50 = .ok (.iload 5, 2) := by decide +kernel
theorem dX8_likeliest_52 : decode cX8_likeliest 52 = .ok (.iaload, 1) := by decide +kernel
theorem dX8_likeliest_53 : decode cX8_likeliest 53 = .ok (.istore 6, 2) := by decide +kernel
theorem dX8_likeliest_55 : decode cX8_likeliest 55 = .ok (.ldc2_w 54, 3) := by decide +kernel
theorem dX8_likeliest_58 : decode cX8_likeliest 58 = .ok (.aload_n 0, 1) := by decide +kernel
theorem dX8_likeliest_59 : decode cX8_likeliest 59 = .ok (.getfield 43, 3) := by decide +kernel
theorem dX8_likeliest_62 : decode cX8_likeliest 62 = .ok (.iload 6, 2) := by decide +kernel
theorem dX8_likeliest_64 : decode cX8_likeliest 64 = .ok (.laload, 1) := by decide +kernel
theorem dX8_likeliest_65 : decode cX8_likeliest 65 = .ok (.lmul, 1) := by decide +kernel
theorem dX8_likeliest_66 : decode cX8_likeliest 66 = .ok (.lstore 7, 2) := by decide +kernel
theorem dX8_likeliest_68 : decode cX8_likeliest 68 = .ok (.aload_n 0, 1) := by decide +kernel
theorem dX8_likeliest_69 : decode cX8_likeliest 69 = .ok (.getfield 32, 3) := by decide +kernel
theorem dX8_likeliest_72 : decode cX8_likeliest 72 = .ok (.getfield 84, 3) := by decide +kernel
theorem dX8_likeliest_75 : decode cX8_likeliest 75 = .ok (.iload 5, 2) := by decide +kernel
theorem dX8_likeliest_77 : decode cX8_likeliest 77 = .ok (.iaload, 1) := by decide +kernel
theorem dX8_likeliest_78 : decode cX8_likeliest 78 = .ok (.iconst 1, 1) := by decide +kernel
theorem dX8_likeliest_79 : decode cX8_likeliest 79 = .ok (.if_icmp .ne 49, 3) := by decide +kernel
theorem dX8_likeliest_82 : decode cX8_likeliest 82 = .ok (.aload_n 0, 1) := by decide +kernel
theorem dX8_likeliest_83 : decode cX8_likeliest 83 = .ok (.getfield 43, 3) := by decide +kernel
theorem dX8_likeliest_86 : decode cX8_likeliest 86 = .ok (.iload_n 1, 1) := by decide +kernel
theorem dX8_likeliest_87 : decode cX8_likeliest 87 = .ok (.iload 6, 2) := by decide +kernel
theorem dX8_likeliest_89 : decode cX8_likeliest 89 = .ok (.invokestatic 87, 3) := by decide +kernel
theorem dX8_likeliest_92 : decode cX8_likeliest 92 = .ok (.laload, 1) := by decide +kernel
theorem dX8_likeliest_93 : decode cX8_likeliest 93 = .ok (.lstore 9, 2) := by decide +kernel
theorem dX8_likeliest_95 : decode cX8_likeliest 95 = .ok (.aload_n 0, 1) := by decide +kernel
theorem dX8_likeliest_96 : decode cX8_likeliest 96 = .ok (.getfield 28, 3) := by decide +kernel
theorem dX8_likeliest_99 : decode cX8_likeliest 99 = .ok (.getfield 105, 3) := by decide +kernel
theorem dX8_likeliest_102 : decode cX8_likeliest 102 = .ok (.i2l, 1) := by decide +kernel
theorem dX8_likeliest_103 : decode cX8_likeliest 103 = .ok (.lload 9, 2) := by decide +kernel
theorem dX8_likeliest_105 : decode cX8_likeliest 105 = .ok (.lmul, 1) := by decide +kernel
theorem dX8_likeliest_106 : decode cX8_likeliest 106 = .ok (.bipush 10, 2) := by decide +kernel
theorem dX8_likeliest_108 : decode cX8_likeliest 108 = .ok (.aload_n 0, 1) := by decide +kernel
theorem dX8_likeliest_109 : decode cX8_likeliest 109 = .ok (.getfield 28, 3) := by decide +kernel
theorem dX8_likeliest_112 : decode cX8_likeliest 112 = .ok (.getfield 105, 3) := by decide +kernel
theorem dX8_likeliest_115 : decode cX8_likeliest 115 = .ok (.isub, 1) := by decide +kernel
theorem dX8_likeliest_116 : decode cX8_likeliest 116 = .ok (.i2l, 1) := by decide +kernel
theorem dX8_likeliest_117 : decode cX8_likeliest 117 = .ok (.aload_n 0, 1) := by decide +kernel
theorem dX8_likeliest_118 : decode cX8_likeliest 118 = .ok (.getfield 43, 3) := by decide +kernel
theorem dX8_likeliest_121 : decode cX8_likeliest 121 = .ok (.iload 6, 2) := by decide +kernel
theorem dX8_likeliest_123 : decode cX8_likeliest 123 = .ok (.laload, 1) := by decide +kernel
theorem dX8_likeliest_124 : decode cX8_likeliest 124 = .ok (.lmul, 1) := by decide +kernel
theorem dX8_likeliest_125 : decode cX8_likeliest 125 = .ok (.ladd, 1) := by decide +kernel
theorem dX8_likeliest_126 : decode cX8_likeliest 126 = .ok (.lstore 7, 2) := by decide +kernel
theorem dX8_likeliest_128 : decode cX8_likeliest 128 = .ok (.lload 7, 2) := by decide +kernel
theorem dX8_likeliest_130 : decode cX8_likeliest 130 = .ok (.lload_n 2, 1) := by decide +kernel
theorem dX8_likeliest_131 : decode cX8_likeliest 131 = .ok (.lcmp, 1) := by decide +kernel
theorem dX8_likeliest_132 : decode cX8_likeliest 132 = .ok (.ifCond .le 20, 3) := by decide +kernel
theorem dX8_likeliest_135 : decode cX8_likeliest 135 = .ok (.lload 7, 2) := by decide +kernel
theorem dX8_likeliest_137 : decode cX8_likeliest 137 = .ok (.lstore_n 2, 1) := by decide +kernel
theorem dX8_likeliest_138 : decode cX8_likeliest 138 = .ok (.aload_n 0, 1) := by decide +kernel
theorem dX8_likeliest_139 : decode cX8_likeliest 139 = .ok (.aload_n 0, 1) := by decide +kernel
theorem dX8_likeliest_140 : decode cX8_likeliest 140 = .ok (.getfield 32, 3) := by decide +kernel
theorem dX8_likeliest_143 : decode cX8_likeliest 143 = .ok (.getfield 84, 3) := by decide +kernel
theorem dX8_likeliest_146 : decode cX8_likeliest 146 = .ok (.iload 5, 2) := by decide +kernel
theorem dX8_likeliest_148 : decode cX8_likeliest 148 = .ok (.iaload, 1) := by decide +kernel
theorem dX8_likeliest_149 : decode cX8_likeliest 149 = .ok (.putfield 25, 3) := by decide +kernel
theorem dX8_likeliest_152 : decode cX8_likeliest 152 = .ok (.iinc 5 1, 3) := by decide +kernel
theorem dX8_likeliest_155 : decode cX8_likeliest 155 = .ok (.goto (-119), 3) := by decide +kernel
theorem dX8_likeliest_158 : decode cX8_likeliest 158 = .ok (.lload_n 2, 1) := by decide +kernel
theorem dX8_likeliest_159 : decode cX8_likeliest 159 = .ok (.lreturn, 1) := by decide +kernel
theorem dX8_numerator_0 : decode cX8_numerator 0 = .ok (.aload_n 0, 1) := by decide +kernel
theorem dX8_numerator_1 : decode cX8_numerator 1 = .ok (.getfield 22, 3) := by decide +kernel
theorem dX8_numerator_4 : decode cX8_numerator 4 = .ok (.aload_n 0, 1) := by decide +kernel
theorem dX8_numerator_5 : decode cX8_numerator 5 = .ok (.getfield 22, 3) := by decide +kernel
theorem dX8_numerator_8 : decode cX8_numerator 8 = .ok (.aload_n 0, 1) := by decide +kernel
theorem dX8_numerator_9 : decode cX8_numerator 9 = .ok (.getfield 18, 3) := by decide +kernel
theorem dX8_numerator_12 : decode cX8_numerator 12 = .ok (.invokestatic 110, 3) := by decide +kernel
theorem dX8_numerator_15 : decode cX8_numerator 15 = .ok (.ldiv, 1) := by decide +kernel
theorem dX8_numerator_16 : decode cX8_numerator 16 = .ok (.l2i, 1) := by decide +kernel
theorem dX8_numerator_17 : decode cX8_numerator 17 = .ok (.ireturn, 1) := by decide +kernel
theorem dX8_denominator_0 : decode cX8_denominator 0 = .ok (.aload_n 0, 1) := by decide +kernel
theorem dX8_denominator_1 : decode cX8_denominator 1 = .ok (.getfield 18, 3) := by decide +kernel
theorem dX8_denominator_4 : decode cX8_denominator 4 = .ok (.aload_n 0, 1) := by decide +kernel
theorem dX8_denominator_5 : decode cX8_denominator 5 = .ok (.getfield 22, 3) := by decide +kernel
theorem dX8_denominator_8 : decode cX8_denominator 8 = .ok (.aload_n 0, 1) := by decide +kernel
theorem dX8_denominator_9 : decode cX8_denominator 9 = .ok (.getfield 18, 3) := by decide +kernel
theorem dX8_denominator_12 : decode cX8_denominator 12 = .ok (.invokestatic 110, 3) := by decide +kernel
theorem dX8_denominator_15 : decode cX8_denominator 15 = .ok (.ldiv, 1) := by decide +kernel
theorem dX8_denominator_16 : decode cX8_denominator 16 = .ok (.l2i, 1) := by decide +kernel
theorem dX8_denominator_17 : decode cX8_denominator 17 = .ok (.ireturn, 1) := by decide +kernel
theorem dX8_commonDivisor_0 : decode cX8_commonDivisor 0 = .ok (.lload_n 2, 1) := by decide +kernel
theorem dX8_commonDivisor_1 : decode cX8_commonDivisor 1 = .ok (.lstore 4, 2) := by decide +kernel
theorem dX8_commonDivisor_3 : decode cX8_commonDivisor 3 = .ok (.lload_n 0, 1) := by decide +kernel
theorem dX8_commonDivisor_4 : decode cX8_commonDivisor 4 = .ok (.lstore 6, 2) := by decide +kernel
theorem dX8_commonDivisor_6 : decode cX8_commonDivisor 6 = .ok (.iconst 0, 1) := by decide +kernel
theorem dX8_commonDivisor_7 : decode cX8_commonDivisor 7 = .ok (.istore 8, 2) := by decide +kernel
theorem dX8_commonDivisor_9 : decode cX8_commonDivisor 9 = .ok (.iload 8, 2) := by decide +kernel
theorem dX8_commonDivisor_11 : decode cX8_commonDivisor 11 = .ok (.bipush 100, 2) := by decide +kernel
theorem dX8_commonDivisor_13 : decode cX8_commonDivisor 13 = .ok (.if_icmp .ge 31, 3) := by decide +kernel
theorem dX8_commonDivisor_16 : decode cX8_commonDivisor 16 = .ok (.lload 6, 2) := by decide +kernel
theorem dX8_commonDivisor_18 : decode cX8_commonDivisor 18 = .ok (.lconst 0, 1) := by decide +kernel
theorem dX8_commonDivisor_19 : decode cX8_commonDivisor 19 = .ok (.lcmp, 1) := by decide +kernel
theorem dX8_commonDivisor_20 : decode cX8_commonDivisor 20 = .ok (.ifCond .eq 24, 3) := by decide +kernel
theorem dX8_commonDivisor_23 : decode cX8_commonDivisor 23 = .ok (.lload 4, 2) := by decide +kernel
theorem dX8_commonDivisor_25 : decode cX8_commonDivisor 25 = .ok (.lload 6, 2) := by decide +kernel
theorem dX8_commonDivisor_27 : decode cX8_commonDivisor 27 = .ok (.lrem, 1) := by decide +kernel
theorem dX8_commonDivisor_28 : decode cX8_commonDivisor 28 = .ok (.lstore 9, 2) := by decide +kernel
theorem dX8_commonDivisor_30 : decode cX8_commonDivisor 30 = .ok (.lload 6, 2) := by decide +kernel
theorem dX8_commonDivisor_32 : decode cX8_commonDivisor 32 = .ok (.lstore 4, 2) := by decide +kernel
theorem dX8_commonDivisor_34 : decode cX8_commonDivisor 34 = .ok (.lload 9, 2) := by decide +kernel
theorem dX8_commonDivisor_36 : decode cX8_commonDivisor 36 = .ok (.lstore 6, 2) := by decide +kernel
theorem dX8_commonDivisor_38 : decode cX8_commonDivisor 38 = .ok (.iinc 8 1, 3) := by decide +kernel
theorem dX8_commonDivisor_41 : decode cX8_commonDivisor 41 = .ok (.goto (-32), 3) := by decide +kernel
theorem dX8_commonDivisor_44 : decode cX8_commonDivisor 44 = .ok (.lconst 1, 1) := by decide +kernel
theorem dX8_commonDivisor_45 : decode cX8_commonDivisor 45 = .ok (.lload 4, 2) := by decide +kernel
theorem dX8_commonDivisor_47 : decode cX8_commonDivisor 47 = .ok (.invokestatic 114, 3) := by decide +kernel
theorem dX8_commonDivisor_50 : decode cX8_commonDivisor 50 = .ok (.lreturn, 1) := by decide +kernel
theorem dX9_init_0 : decode cX9_init 0 = .ok (.aload_n 0, 1) := by decide +kernel
theorem dX9_init_1 : decode cX9_init 1 = .ok (.invokespecial 3, 3) := by decide +kernel
theorem dX9_init_4 : decode cX9_init 4 = .ok (.aload_n 0, 1) := by decide +kernel
theorem dX9_init_5 : decode cX9_init 5 = .ok (.iconst 1, 1) := by decide +kernel
theorem dX9_init_6 : decode cX9_init 6 = .ok (.putfield 9, 3) := by decide +kernel
theorem dX9_init_9 : decode cX9_init 9 = .ok (.aload_n 0, 1) := by decide +kernel
theorem dX9_init_10 : decode cX9_init 10 = .ok (.bipush 40, 2) := by decide +kernel
theorem dX9_init_12 : decode cX9_init 12 = .ok (.newarray .long, 2) := by decide +kernel
theorem dX9_init_14 : decode cX9_init 14 = .ok (.putfield 15, 3) := by decide +kernel
theorem dX9_init_17 : decode cX9_init 17 = .ok (.aload_n 0, 1) := by decide +kernel
theorem dX9_init_18 : decode cX9_init 18 = .ok (.iconst 0, 1) := by decide +kernel
theorem dX9_init_19 : decode cX9_init 19 = .ok (.putfield 19, 3) := by decide +kernel
theorem dX9_init_22 : decode cX9_init 22 = .ok (.aload_n 0, 1) := by decide +kernel
theorem dX9_init_23 : decode cX9_init 23 = .ok (.iconst 0, 1) := by decide +kernel
theorem dX9_init_24 : decode cX9_init 24 = .ok (.putfield 23, 3) := by decide +kernel
theorem dX9_init_27 : decode cX9_init 27 = .ok (.return_, 1) := by decide +kernel
theorem dX9_make_0 : decode cX9_make 0 = .ok (.aload_n 0, 1) := by decide +kernel
theorem dX9_make_1 : decode cX9_make 1 = .ok (.iconst 0, 1) := by decide +kernel
theorem dX9_make_2 : decode cX9_make 2 = .ok (.putfield 9, 3) := by decide +kernel
theorem dX9_make_5 : decode cX9_make 5 = .ok (.aload_n 0, 1) := by decide +kernel
theorem dX9_make_6 : decode cX9_make 6 = .ok (.iload_n 1, 1) := by decide +kernel
theorem dX9_make_7 : decode cX9_make 7 = .ok (.putfield 23, 3) := by decide +kernel
theorem dX9_make_10 : decode cX9_make 10 = .ok (.aload_n 0, 1) := by decide +kernel
theorem dX9_make_11 : decode cX9_make 11 = .ok (.iload_n 2, 1) := by decide +kernel
theorem dX9_make_12 : decode cX9_make 12 = .ok (.putfield 19, 3) := by decide +kernel
theorem dX9_make_15 : decode cX9_make 15 = .ok (.aload_n 0, 1) := by decide +kernel
theorem dX9_make_16 : decode cX9_make 16 = .ok (.getfield 15, 3) := by decide +kernel
theorem dX9_make_19 : decode cX9_make 19 = .ok (.lconst 0, 1) := by decide +kernel
theorem dX9_make_20 : decode cX9_make 20 = .ok (.invokestatic 26, 3) := by decide +kernel
theorem dX9_make_23 : decode cX9_make 23 = .ok (.return_, 1) := by decide +kernel
theorem dX9_put_0 : decode cX9_put 0 = .ok (.aload_n 0, 1) := by decide +kernel
theorem dX9_put_1 : decode cX9_put 1 = .ok (.getfield 23, 3) := by decide +kernel
theorem dX9_put_4 : decode cX9_put 4 = .ok (.tableswitch 66 0 2 #[28, 41, 54], 28) := by decide +kernel
theorem dX9_put_32 : decode cX9_put 32 = .ok (.aload_n 0, 1) := by decide +kernel
theorem dX9_put_33 : decode cX9_put 33 = .ok (.getfield 15, 3) := by decide +kernel
theorem dX9_put_36 : decode cX9_put 36 = .ok (.iload_n 1, 1) := by decide +kernel
theorem dX9_put_37 : decode cX9_put 37 = .ok (.lload_n 2, 1) := by decide +kernel
theorem dX9_put_38 : decode cX9_put 38 = .ok (.l2i, 1) := by decide +kernel
theorem dX9_put_39 : decode cX9_put 39 = .ok (.i2b, 1) := by decide +kernel
theorem dX9_put_40 : decode cX9_put 40 = .ok (.i2l, 1) := by decide +kernel
theorem dX9_put_41 : decode cX9_put 41 = .ok (.lastore, 1) := by decide +kernel
theorem dX9_put_42 : decode cX9_put 42 = .ok (.goto 35, 3) := by decide +kernel
theorem dX9_put_45 : decode cX9_put 45 = .ok (.aload_n 0, 1) := by decide +kernel
theorem dX9_put_46 : decode cX9_put 46 = .ok (.getfield 15, 3) := by decide +kernel
theorem dX9_put_49 : decode cX9_put 49 = .ok (.iload_n 1, 1) := by decide +kernel
theorem dX9_put_50 : decode cX9_put 50 = .ok (.lload_n 2, 1) := by decide +kernel
theorem dX9_put_51 : decode cX9_put 51 = .ok (.l2i, 1) := by decide +kernel
theorem dX9_put_52 : decode cX9_put 52 = .ok (.i2s, 1) := by decide +kernel
theorem dX9_put_53 : decode cX9_put 53 = .ok (.i2l, 1) := by decide +kernel
theorem dX9_put_54 : decode cX9_put 54 = .ok (.lastore, 1) := by decide +kernel
theorem dX9_put_55 : decode cX9_put 55 = .ok (.goto 22, 3) := by decide +kernel
theorem dX9_put_58 : decode cX9_put 58 = .ok (.aload_n 0, 1) := by decide +kernel
theorem dX9_put_59 : decode cX9_put 59 = .ok (.getfield 15, 3) := by decide +kernel
theorem dX9_put_62 : decode cX9_put 62 = .ok (.iload_n 1, 1) := by decide +kernel
theorem dX9_put_63 : decode cX9_put 63 = .ok (.lload_n 2, 1) := by decide +kernel
theorem dX9_put_64 : decode cX9_put 64 = .ok (.l2i, 1) := by decide +kernel
theorem dX9_put_65 : decode cX9_put 65 = .ok (.i2l, 1) := by decide +kernel
theorem dX9_put_66 : decode cX9_put 66 = .ok (.lastore, 1) := by decide +kernel
theorem dX9_put_67 : decode cX9_put 67 = .ok (.goto 10, 3) := by decide +kernel
theorem dX9_put_70 : decode cX9_put 70 = .ok (.aload_n 0, 1) := by decide +kernel
theorem dX9_put_71 : decode cX9_put 71 = .ok (.getfield 15, 3) := by decide +kernel
theorem dX9_put_74 : decode cX9_put 74 = .ok (.iload_n 1, 1) := by decide +kernel
theorem dX9_put_75 : decode cX9_put 75 = .ok (.lload_n 2, 1) := by decide +kernel
theorem dX9_put_76 : decode cX9_put 76 = .ok (.lastore, 1) := by decide +kernel
theorem dX9_put_77 : decode cX9_put 77 = .ok (.aload_n 0, 1) := by decide +kernel
theorem dX9_put_78 : decode cX9_put 78 = .ok (.getfield 15, 3) := by decide +kernel
theorem dX9_put_81 : decode cX9_put 81 = .ok (.iload_n 1, 1) := by decide +kernel
theorem dX9_put_82 : decode cX9_put 82 = .ok (.laload, 1) := by decide +kernel
theorem dX9_put_83 : decode cX9_put 83 = .ok (.lreturn, 1) := by decide +kernel
theorem dX9_deedAt_0 : decode cX9_deedAt 0 = .ok (.aload_n 0, 1) := by decide +kernel
theorem dX9_deedAt_1 : decode cX9_deedAt 1 = .ok (.getfield 15, 3) := by decide +kernel
theorem dX9_deedAt_4 : decode cX9_deedAt 4 = .ok (.iload_n 1, 1) := by decide +kernel
theorem dX9_deedAt_5 : decode cX9_deedAt 5 = .ok (.laload, 1) := by decide +kernel
theorem dX9_deedAt_6 : decode cX9_deedAt 6 = .ok (.lstore_n 2, 1) := by decide +kernel
theorem dX9_deedAt_7 : decode cX9_deedAt 7 = .ok (.lload_n 2, 1) := by decide +kernel
theorem dX9_deedAt_8 : decode cX9_deedAt 8 = .ok (.lconst 0, 1) := by decide +kernel
theorem dX9_deedAt_9 : decode cX9_deedAt 9 = .ok (.lcmp, 1) := by decide +kernel
theorem dX9_deedAt_10 : decode cX9_deedAt 10 = .ok (.ifCond .lt 16, 3) := by decide +kernel
theorem dX9_deedAt_13 : decode cX9_deedAt 13 = .ok (.lload_n 2, 1) := by decide +kernel
theorem dX9_deedAt_14 : decode cX9_deedAt 14 = .ok (.ldc2_w 32, 3) := by decide +kernel
theorem dX9_deedAt_17 : decode cX9_deedAt 17 = .ok (.lcmp, 1) := by decide +kernel
theorem dX9_deedAt_18 : decode cX9_deedAt 18 = .ok (.ifCond .ge 8, 3) := by decide +kernel
theorem dX9_deedAt_21 : decode cX9_deedAt 21 = .ok (.lload_n 2, 1) := by decide +kernel
theorem dX9_deedAt_22 : decode cX9_deedAt 22 = .ok (.l2i, 1) := by decide +kernel
theorem dX9_deedAt_23 : decode cX9_deedAt 23 = .ok (.goto 4, 3) := by decide +kernel
theorem dX9_deedAt_26 : decode cX9_deedAt 26 = .ok (.iconst (-1), 1) := by decide +kernel
theorem dX9_deedAt_27 : decode cX9_deedAt 27 = .ok (.ireturn, 1) := by decide +kernel
theorem dX10_init_0 : decode cX10_init 0 = .ok (.aload_n 0, 1) := by decide +kernel
theorem dX10_init_1 : decode cX10_init 1 = .ok (.invokespecial 3, 3) := by decide +kernel
theorem dX10_init_4 : decode cX10_init 4 = .ok (.aload_n 0, 1) := by decide +kernel
theorem dX10_init_5 : decode cX10_init 5 = .ok (.sipush 900, 3) := by decide +kernel
theorem dX10_init_8 : decode cX10_init 8 = .ok (.newarray .int, 2) := by decide +kernel
theorem dX10_init_10 : decode cX10_init 10 = .ok (.putfield 9, 3) := by decide +kernel
theorem dX10_init_13 : decode cX10_init 13 = .ok (.aload_n 0, 1) := by decide +kernel
theorem dX10_init_14 : decode cX10_init 14 = .ok (.iconst 0, 1) := by decide +kernel
theorem dX10_init_15 : decode cX10_init 15 = .ok (.putfield 13, 3) := by decide +kernel
theorem dX10_init_18 : decode cX10_init 18 = .ok (.aload_n 0, 1) := by decide +kernel
theorem dX10_init_19 : decode cX10_init 19 = .ok (.new 17, 3) := by decide +kernel
theorem dX10_init_22 : decode cX10_init 22 = .ok (.dup, 1) := by decide +kernel
theorem dX10_init_23 : decode cX10_init 23 = .ok (.invokespecial 19, 3) := by decide +kernel
theorem dX10_init_26 : decode cX10_init 26 = .ok (.putfield 20, 3) := by decide +kernel
theorem dX10_init_29 : decode cX10_init 29 = .ok (.aload_n 0, 1) := by decide +kernel
theorem dX10_init_30 : decode cX10_init 30 = .ok (.new 17, 3) := by decide +kernel
theorem dX10_init_33 : decode cX10_init 33 = .ok (.dup, 1) := by decide +kernel
theorem dX10_init_34 : decode cX10_init 34 = .ok (.invokespecial 19, 3) := by decide +kernel
theorem dX10_init_37 : decode cX10_init 37 = .ok (.putfield 24, 3) := by decide +kernel
theorem dX10_init_40 : decode cX10_init 40 = .ok (.aload_n 0, 1) := by decide +kernel
theorem dX10_init_41 : decode cX10_init 41 = .ok (.new 27, 3) := by decide +kernel
theorem dX10_init_44 : decode cX10_init 44 = .ok (.dup, 1) := by decide +kernel
theorem dX10_init_45 : decode cX10_init 45 = .ok (.aload_n 0, 1) := by decide +kernel
theorem dX10_init_46 : decode cX10_init 46 = .ok (.getfield 9, 3) := by decide +kernel
theorem dX10_init_49 : decode cX10_init 49 = .ok (.invokespecial 29, 3) := by decide +kernel
theorem dX10_init_52 : decode cX10_init 52 = .ok (.putfield 32, 3) := by decide +kernel
theorem dX10_init_55 : decode cX10_init 55 = .ok (.aload_n 0, 1) := by decide +kernel
theorem dX10_init_56 : decode cX10_init 56 = .ok (.new 36, 3) := by decide +kernel
theorem dX10_init_59 : decode cX10_init 59 = .ok (.dup, 1) := by decide +kernel
theorem dX10_init_60 : decode cX10_init 60 = .ok (.invokespecial 38, 3) := by decide +kernel
theorem dX10_init_63 : decode cX10_init 63 = .ok (.putfield 39, 3) := by decide +kernel
theorem dX10_init_66 : decode cX10_init 66 = .ok (.aload_n 0, 1) := by decide +kernel
theorem dX10_init_67 : decode cX10_init 67 = .ok (.new 36, 3) := by decide +kernel
theorem dX10_init_70 : decode cX10_init 70 = .ok (.dup, 1) := by decide +kernel
theorem dX10_init_71 : decode cX10_init 71 = .ok (.invokespecial 38, 3) := by decide +kernel
theorem dX10_init_74 : decode cX10_init 74 = .ok (.putfield 43, 3) := by decide +kernel
theorem dX10_init_77 : decode cX10_init 77 = .ok (.aload_n 0, 1) := by decide +kernel
theorem dX10_init_78 : decode cX10_init 78 = .ok (.bipush 10, 2) := by decide +kernel
theorem dX10_init_80 : decode cX10_init 80 = .ok (.anewarray 36, 3) := by decide +kernel
theorem dX10_init_83 : decode cX10_init 83 = .ok (.putfield 46, 3) := by decide +kernel
theorem dX10_init_86 : decode cX10_init 86 = .ok (.aload_n 0, 1) := by decide +kernel
theorem dX10_init_87 : decode cX10_init 87 = .ok (.iconst 0, 1) := by decide +kernel
theorem dX10_init_88 : decode cX10_init 88 = .ok (.putfield 50, 3) := by decide +kernel
theorem dX10_init_91 : decode cX10_init 91 = .ok (.aload_n 0, 1) := by decide +kernel
theorem dX10_init_92 : decode cX10_init 92 = .ok (.iconst 4, 1) := by decide +kernel
theorem dX10_init_93 : decode cX10_init 93 = .ok (.anewarray 53, 3) := by decide +kernel
theorem dX10_init_96 : decode cX10_init 96 = .ok (.putfield 55, 3) := by decide +kernel
theorem dX10_init_99 : decode cX10_init 99 = .ok (.aload_n 0, 1) := by decide +kernel
theorem dX10_init_100 : decode cX10_init 100 = .ok (.iconst 2, 1) := by decide +kernel
theorem dX10_init_101 : decode cX10_init 101 = .ok (.anewarray 17, 3) := by decide +kernel
theorem dX10_init_104 : decode cX10_init 104 = .ok (.putfield 59, 3) := by decide +kernel
theorem dX10_init_107 : decode cX10_init 107 = .ok (.aload_n 0, 1) := by decide +kernel
theorem dX10_init_108 : decode cX10_init 108 = .ok (.iconst 2, 1) := by decide +kernel
theorem dX10_init_109 : decode cX10_init 109 = .ok (.anewarray 36, 3) := by decide +kernel
theorem dX10_init_112 : decode cX10_init 112 = .ok (.putfield 63, 3) := by decide +kernel
theorem dX10_init_115 : decode cX10_init 115 = .ok (.aload_n 0, 1) := by decide +kernel
theorem dX10_init_116 : decode cX10_init 116 = .ok (.new 66, 3) := by decide +kernel
theorem dX10_init_119 : decode cX10_init 119 = .ok (.dup, 1) := by decide +kernel
theorem dX10_init_120 : decode cX10_init 120 = .ok (.aload_n 0, 1) := by decide +kernel
theorem dX10_init_121 : decode cX10_init 121 = .ok (.getfield 20, 3) := by decide +kernel
theorem dX10_init_124 : decode cX10_init 124 = .ok (.invokespecial 68, 3) := by decide +kernel
theorem dX10_init_127 : decode cX10_init 127 = .ok (.putfield 71, 3) := by decide +kernel
theorem dX10_init_130 : decode cX10_init 130 = .ok (.aload_n 0, 1) := by decide +kernel
theorem dX10_init_131 : decode cX10_init 131 = .ok (.new 75, 3) := by decide +kernel
theorem dX10_init_134 : decode cX10_init 134 = .ok (.dup, 1) := by decide +kernel
theorem dX10_init_135 : decode cX10_init 135 = .ok (.aload_n 0, 1) := by decide +kernel
theorem dX10_init_136 : decode cX10_init 136 = .ok (.getfield 20, 3) := by decide +kernel
theorem dX10_init_139 : decode cX10_init 139 = .ok (.aload_n 0, 1) := by decide +kernel
theorem dX10_init_140 : decode cX10_init 140 = .ok (.getfield 71, 3) := by decide +kernel
theorem dX10_init_143 : decode cX10_init 143 = .ok (.invokespecial 77, 3) := by decide +kernel
theorem dX10_init_146 : decode cX10_init 146 = .ok (.putfield 80, 3) := by decide +kernel
theorem dX10_init_149 : decode cX10_init 149 = .ok (.aload_n 0, 1) := by decide +kernel
theorem dX10_init_150 : decode cX10_init 150 = .ok (.new 84, 3) := by decide +kernel
theorem dX10_init_153 : decode cX10_init 153 = .ok (.dup, 1) := by decide +kernel
theorem dX10_init_154 : decode cX10_init 154 = .ok (.aload_n 0, 1) := by decide +kernel
theorem dX10_init_155 : decode cX10_init 155 = .ok (.getfield 80, 3) := by decide +kernel
theorem dX10_init_158 : decode cX10_init 158 = .ok (.invokespecial 86, 3) := by decide +kernel
theorem dX10_init_161 : decode cX10_init 161 = .ok (.putfield 89, 3) := by decide +kernel
theorem dX10_init_164 : decode cX10_init 164 = .ok (.iconst 0, 1) := by decide +kernel
theorem dX10_init_165 : decode cX10_init 165 = .ok (.istore_n 1, 1) := by decide +kernel
theorem dX10_init_166 : decode cX10_init 166 = .ok (.iload_n 1, 1) := by decide +kernel
theorem dX10_init_167 : decode cX10_init 167 = .ok (.bipush 10, 2) := by decide +kernel
theorem dX10_init_169 : decode cX10_init 169 = .ok (.if_icmp .ge 22, 3) := by decide +kernel
theorem dX10_init_172 : decode cX10_init 172 = .ok (.aload_n 0, 1) := by decide +kernel
theorem dX10_init_173 : decode cX10_init 173 = .ok (.getfield 46, 3) := by decide +kernel
theorem dX10_init_176 : decode cX10_init 176 = .ok (.iload_n 1, 1) := by decide +kernel
theorem dX10_init_177 : decode cX10_init 177 = .ok (.new 36, 3) := by decide +kernel
theorem dX10_init_180 : decode cX10_init 180 = .ok (.dup, 1) := by decide +kernel
theorem dX10_init_181 : decode cX10_init 181 = .ok (.invokespecial 38, 3) := by decide +kernel
theorem dX10_init_184 : decode cX10_init 184 = .ok (.aastore, 1) := by decide +kernel
theorem dX10_init_185 : decode cX10_init 185 = .ok (.iinc 1 1, 3) := by decide +kernel
theorem dX10_init_188 : decode cX10_init 188 = .ok (.goto (-22), 3) := by decide +kernel
theorem dX10_init_191 : decode cX10_init 191 = .ok (.iconst 0, 1) := by decide +kernel
theorem dX10_init_192 : decode cX10_init 192 = .ok (.istore_n 1, 1) := by decide +kernel
theorem dX10_init_193 : decode cX10_init 193 = .ok (.iload_n 1, 1) := by decide +kernel
theorem dX10_init_194 : decode cX10_init 194 = .ok (.iconst 4, 1) := by decide +kernel
theorem dX10_init_195 : decode cX10_init 195 = .ok (.if_icmp .ge 22, 3) := by decide +kernel
theorem dX10_init_198 : decode cX10_init 198 = .ok (.aload_n 0, 1) := by decide +kernel
theorem dX10_init_199 : decode cX10_init 199 = .ok (.getfield 55, 3) := by decide +kernel
theorem dX10_init_202 : decode cX10_init 202 = .ok (.iload_n 1, 1) := by decide +kernel
theorem dX10_init_203 : decode cX10_init 203 = .ok (.new 53, 3) := by decide +kernel
theorem dX10_init_206 : decode cX10_init 206 = .ok (.dup, 1) := by decide +kernel
theorem dX10_init_207 : decode cX10_init 207 = .ok (.invokespecial 93, 3) := by decide +kernel
theorem dX10_init_210 : decode cX10_init 210 = .ok (.aastore, 1) := by decide +kernel
theorem dX10_init_211 : decode cX10_init 211 = .ok (.iinc 1 1, 3) := by decide +kernel
theorem dX10_init_214 : decode cX10_init 214 = .ok (.goto (-21), 3) := by decide +kernel
theorem dX10_init_217 : decode cX10_init 217 = .ok (.sipush 2880, 3) := by decide +kernel
theorem dX10_init_220 : decode cX10_init 220 = .ok (.newarray .int, 2) := by decide +kernel
theorem dX10_init_222 : decode cX10_init 222 = .ok (.astore_n 1, 1) := by decide +kernel
theorem dX10_init_223 : decode cX10_init 223 = .ok (.sipush 2880, 3) := by decide +kernel
theorem dX10_init_226 : decode cX10_init 226 = .ok (.newarray .int, 2) := by decide +kernel
theorem dX10_init_228 : decode cX10_init 228 = .ok (.astore_n 2, 1) := by decide +kernel
theorem dX10_init_229 : decode cX10_init 229 = .ok (.sipush 2880, 3) := by decide +kernel
theorem dX10_init_232 : decode cX10_init 232 = .ok (.newarray .long, 2) := by decide +kernel
theorem dX10_init_234 : decode cX10_init 234 = .ok (.astore_n 3, 1) := by decide +kernel
theorem dX10_init_235 : decode cX10_init 235 = .ok (.sipush 2880, 3) := by decide +kernel
theorem dX10_init_238 : decode cX10_init 238 = .ok (.newarray .long, 2) := by decide +kernel
theorem dX10_init_240 : decode cX10_init 240 = .ok (.astore 4, 2) := by decide +kernel
theorem dX10_init_242 : decode cX10_init 242 = .ok (.aload_n 0, 1) := by decide +kernel
theorem dX10_init_243 : decode cX10_init 243 = .ok (.new 94, 3) := by decide +kernel
theorem dX10_init_246 : decode cX10_init 246 = .ok (.dup, 1) := by decide +kernel
theorem dX10_init_247 : decode cX10_init 247 = .ok (.aload_n 0, 1) := by decide +kernel
theorem dX10_init_248 : decode cX10_init 248 = .ok (.getfield 80, 3) := by decide +kernel
theorem dX10_init_251 : decode cX10_init 251 = .ok (.aload_n 0, 1) := by decide +kernel
theorem dX10_init_252 : decode cX10_init 252 = .ok (.getfield 89, 3) := by decide +kernel
theorem dX10_init_255 : decode cX10_init 255 = .ok (.aload_n 1, 1) := by decide +kernel
theorem dX10_init_256 : decode cX10_init 256 = .ok (.aload_n 3, 1) := by decide +kernel
theorem dX10_init_257 : decode cX10_init 257 = .ok (.aload 4, 2) := by decide +kernel
theorem dX10_init_259 : decode cX10_init 259 = .ok (.invokespecial 96, 3) := by decide +kernel
theorem dX10_init_262 : decode cX10_init 262 = .ok (.putfield 99, 3) := by decide +kernel
theorem dX10_init_265 : decode cX10_init 265 = .ok (.aload_n 0, 1) := by decide +kernel
theorem dX10_init_266 : decode cX10_init 266 = .ok (.new 103, 3) := by decide +kernel
theorem dX10_init_269 : decode cX10_init 269 = .ok (.dup, 1) := by decide +kernel
theorem dX10_init_270 : decode cX10_init 270 = .ok (.aload_n 0, 1) := by decide +kernel
theorem dX10_init_271 : decode cX10_init 271 = .ok (.getfield 20, 3) := by decide +kernel
theorem dX10_init_274 : decode cX10_init 274 = .ok (.aload_n 0, 1) := by decide +kernel
theorem dX10_init_275 : decode cX10_init 275 = .ok (.getfield 80, 3) := by decide +kernel
theorem dX10_init_278 : decode cX10_init 278 = .ok (.aload_n 1, 1) := by decide +kernel
theorem dX10_init_279 : decode cX10_init 279 = .ok (.aload_n 2, 1) := by decide +kernel
theorem dX10_init_280 : decode cX10_init 280 = .ok (.aload_n 3, 1) := by decide +kernel
theorem dX10_init_281 : decode cX10_init 281 = .ok (.aload 4, 2) := by decide +kernel
theorem dX10_init_283 : decode cX10_init 283 = .ok (.invokespecial 105, 3) := by decide +kernel
theorem dX10_init_286 : decode cX10_init 286 = .ok (.putfield 108, 3) := by decide +kernel
theorem dX10_init_289 : decode cX10_init 289 = .ok (.aload_n 0, 1) := by decide +kernel
theorem dX10_init_290 : decode cX10_init 290 = .ok (.new 112, 3) := by decide +kernel
theorem dX10_init_293 : decode cX10_init 293 = .ok (.dup, 1) := by decide +kernel
theorem dX10_init_294 : decode cX10_init 294 = .ok (.aload_n 0, 1) := by decide +kernel
theorem dX10_init_295 : decode cX10_init 295 = .ok (.getfield 20, 3) := by decide +kernel
theorem dX10_init_298 : decode cX10_init 298 = .ok (.aload_n 1, 1) := by decide +kernel
theorem dX10_init_299 : decode cX10_init 299 = .ok (.invokespecial 114, 3) := by decide +kernel
theorem dX10_init_302 : decode cX10_init 302 = .ok (.putfield 117, 3) := by decide +kernel
theorem dX10_init_305 : decode cX10_init 305 = .ok (.aload_n 0, 1) := by decide +kernel
theorem dX10_init_306 : decode cX10_init 306 = .ok (.getfield 39, 3) := by decide +kernel
theorem dX10_init_309 : decode cX10_init 309 = .ok (.aload_n 0, 1) := by decide +kernel
theorem dX10_init_310 : decode cX10_init 310 = .ok (.getfield 20, 3) := by decide +kernel
theorem dX10_init_313 : decode cX10_init 313 = .ok (.invokevirtual 121, 3) := by decide +kernel
theorem dX10_init_316 : decode cX10_init 316 = .ok (.return_, 1) := by decide +kernel
theorem dX10_feed_0 : decode cX10_feed 0 = .ok (.aload_n 0, 1) := by decide +kernel
theorem dX10_feed_1 : decode cX10_feed 1 = .ok (.getfield 13, 3) := by decide +kernel
theorem dX10_feed_4 : decode cX10_feed 4 = .ok (.bipush 20, 2) := by decide +kernel
theorem dX10_feed_6 : decode cX10_feed 6 = .ok (.iadd, 1) := by decide +kernel
theorem dX10_feed_7 : decode cX10_feed 7 = .ok (.sipush 900, 3) := by decide +kernel
theorem dX10_feed_10 : decode cX10_feed 10 = .ok (.if_icmp .le 6, 3) := by decide +kernel
theorem dX10_feed_13 : decode cX10_feed 13 = .ok (.bipush (-5), 2) := by decide +kernel
theorem dX10_feed_15 : decode cX10_feed 15 = .ok (.ireturn, 1) := by decide +kernel
theorem dX10_feed_16 : decode cX10_feed 16 = .ok (.aload_n 0, 1) := by decide +kernel
theorem dX10_feed_17 : decode cX10_feed 17 = .ok (.iload_n 1, 1) := by decide +kernel
theorem dX10_feed_18 : decode cX10_feed 18 = .ok (.invokevirtual 124, 3) := by decide +kernel
theorem dX10_feed_21 : decode cX10_feed 21 = .ok (.aload_n 0, 1) := by decide +kernel
theorem dX10_feed_22 : decode cX10_feed 22 = .ok (.iload_n 2, 1) := by decide +kernel
theorem dX10_feed_23 : decode cX10_feed 23 = .ok (.invokevirtual 124, 3) := by decide +kernel
theorem dX10_feed_26 : decode cX10_feed 26 = .ok (.aload_n 0, 1) := by decide +kernel
theorem dX10_feed_27 : decode cX10_feed 27 = .ok (.iload_n 3, 1) := by decide +kernel
theorem dX10_feed_28 : decode cX10_feed 28 = .ok (.invokevirtual 124, 3) := by decide +kernel
theorem dX10_feed_31 : decode cX10_feed 31 = .ok (.aload_n 0, 1) := by decide +kernel
theorem dX10_feed_32 : decode cX10_feed 32 = .ok (.iload 4, 2) := by decide +kernel
theorem dX10_feed_34 : decode cX10_feed 34 = .ok (.invokevirtual 124, 3) := by decide +kernel
theorem dX10_feed_37 : decode cX10_feed 37 = .ok (.aload_n 0, 1) := by decide +kernel
theorem dX10_feed_38 : decode cX10_feed 38 = .ok (.iload 5, 2) := by decide +kernel
theorem dX10_feed_40 : decode cX10_feed 40 = .ok (.invokevirtual 124, 3) := by decide +kernel
theorem dX10_feed_43 : decode cX10_feed 43 = .ok (.aload_n 0, 1) := by decide +kernel
theorem dX10_feed_44 : decode cX10_feed 44 = .ok (.getfield 13, 3) := by decide +kernel
theorem dX10_feed_47 : decode cX10_feed 47 = .ok (.ireturn, 1) := by decide +kernel
theorem dX10_tapeInt_0 : decode cX10_tapeInt 0 = .ok (.bipush 24, 2) := by decide +kernel
theorem dX10_tapeInt_2 : decode cX10_tapeInt 2 = .ok (.istore_n 2, 1) := by decide +kernel
theorem dX10_tapeInt_3 : decode cX10_tapeInt 3 = .ok (.iload_n 2, 1) := by decide +kernel
theorem dX10_tapeInt_4 : decode cX10_tapeInt 4 = .ok (.ifCond .lt 45, 3) := by decide +kernel
theorem dX10_tapeInt_7 : decode cX10_tapeInt 7 = .ok (.aload_n 0, 1) := by decide +kernel
theorem dX10_tapeInt_8 : decode cX10_tapeInt 8 = .ok (.getfield 13, 3) := by decide +kernel
theorem dX10_tapeInt_11 : decode cX10_tapeInt 11 = .ok (.sipush 900, 3) := by decide +kernel
theorem dX10_tapeInt_14 : decode cX10_tapeInt 14 = .ok (.if_icmp .ge 35, 3) := by decide +kernel
theorem dX10_tapeInt_17 : decode cX10_tapeInt 17 = .ok (.aload_n 0, 1) := by decide +kernel
theorem dX10_tapeInt_18 : decode cX10_tapeInt 18 = .ok (.getfield 9, 3) := by decide +kernel
theorem dX10_tapeInt_21 : decode cX10_tapeInt 21 = .ok (.aload_n 0, 1) := by decide +kernel
theorem dX10_tapeInt_22 : decode cX10_tapeInt 22 = .ok (.getfield 13, 3) := by decide +kernel
theorem dX10_tapeInt_25 : decode cX10_tapeInt 25 = .ok (.iload_n 1, 1) := by decide +kernel
theorem dX10_tapeInt_26 : decode cX10_tapeInt 26 = .ok (.iload_n 2, 1) := by decide +kernel
theorem dX10_tapeInt_27 : decode cX10_tapeInt 27 = .ok (.iushr, 1) := by decide +kernel
theorem dX10_tapeInt_28 : decode cX10_tapeInt 28 = .ok (.sipush 255, 3) := by decide +kernel
theorem dX10_tapeInt_31 : decode cX10_tapeInt 31 = .ok (.iand, 1) := by decide +kernel
theorem dX10_tapeInt_32 : decode cX10_tapeInt 32 = .ok (.iastore, 1) := by decide +kernel
theorem dX10_tapeInt_33 : decode cX10_tapeInt 33 = .ok (.aload_n 0, 1) := by decide +kernel
theorem dX10_tapeInt_34 : decode cX10_tapeInt 34 = .ok (.dup, 1) := by decide +kernel
theorem dX10_tapeInt_35 : decode cX10_tapeInt 35 = .ok (.getfield 13, 3) := by decide +kernel
theorem dX10_tapeInt_38 : decode cX10_tapeInt 38 = .ok (.iconst 1, 1) := by decide +kernel
theorem dX10_tapeInt_39 : decode cX10_tapeInt 39 = .ok (.iadd, 1) := by decide +kernel
theorem dX10_tapeInt_40 : decode cX10_tapeInt 40 = .ok (.putfield 13, 3) := by decide +kernel
theorem dX10_tapeInt_43 : decode cX10_tapeInt 43 = .ok (.iinc 2 (-8), 3) := by decide +kernel
theorem dX10_tapeInt_46 : decode cX10_tapeInt 46 = .ok (.goto (-43), 3) := by decide +kernel
theorem dX10_tapeInt_49 : decode cX10_tapeInt 49 = .ok (.return_, 1) := by decide +kernel
theorem dX10_cliff_0 : decode cX10_cliff 0 = .ok (.iload_n 1, 1) := by decide +kernel
theorem dX10_cliff_1 : decode cX10_cliff 1 = .ok (.ifCond .lt 11, 3) := by decide +kernel
theorem dX10_cliff_4 : decode cX10_cliff 4 = .ok (.iload_n 1, 1) := by decide +kernel
theorem dX10_cliff_5 : decode cX10_cliff 5 = .ok (.aload_n 0, 1) := by decide +kernel
theorem dX10_cliff_6 : decode cX10_cliff 6 = .ok (.getfield 13, 3) := by decide +kernel
theorem dX10_cliff_9 : decode cX10_cliff 9 = .ok (.if_icmp .le 6, 3) := by decide +kernel
theorem dX10_cliff_12 : decode cX10_cliff 12 = .ok (.bipush (-3), 2) := by decide +kernel
theorem dX10_cliff_14 : decode cX10_cliff 14 = .ok (.ireturn, 1) := by decide +kernel
theorem dX10_cliff_15 : decode cX10_cliff 15 = .ok (.aload_n 0, 1) := by decide +kernel
theorem dX10_cliff_16 : decode cX10_cliff 16 = .ok (.iconst 0, 1) := by decide +kernel
theorem dX10_cliff_17 : decode cX10_cliff 17 = .ok (.putfield 13, 3) := by decide +kernel
theorem dX10_cliff_20 : decode cX10_cliff 20 = .ok (.aload_n 0, 1) := by decide +kernel
theorem dX10_cliff_21 : decode cX10_cliff 21 = .ok (.getfield 32, 3) := by decide +kernel
theorem dX10_cliff_24 : decode cX10_cliff 24 = .ok (.iload_n 1, 1) := by decide +kernel
theorem dX10_cliff_25 : decode cX10_cliff 25 = .ok (.aload_n 0, 1) := by decide +kernel
theorem dX10_cliff_26 : decode cX10_cliff 26 = .ok (.getfield 24, 3) := by decide +kernel
theorem dX10_cliff_29 : decode cX10_cliff 29 = .ok (.invokevirtual 128, 3) := by decide +kernel
theorem dX10_cliff_32 : decode cX10_cliff 32 = .ok (.ifCond .ne 14, 3) := by decide +kernel
theorem dX10_cliff_35 : decode cX10_cliff 35 = .ok (.bipush (-30), 2) := by decide +kernel
theorem dX10_cliff_37 : decode cX10_cliff 37 = .ok (.aload_n 0, 1) := by decide +kernel
theorem dX10_cliff_38 : decode cX10_cliff 38 = .ok (.getfield 32, 3) := by decide +kernel
theorem dX10_cliff_41 : decode cX10_cliff 41 = .ok (.getfield 132, 3) := by decide +kernel
theorem dX10_cliff_44 : decode cX10_cliff 44 = .ok (.isub, 1) := by decide +kernel
theorem dX10_cliff_45 : decode cX10_cliff 45 = .ok (.ireturn, 1) := by decide +kernel
theorem dX10_cliff_46 : decode cX10_cliff 46 = .ok (.aload_n 0, 1) := by decide +kernel
theorem dX10_cliff_47 : decode cX10_cliff 47 = .ok (.getfield 20, 3) := by decide +kernel
theorem dX10_cliff_50 : decode cX10_cliff 50 = .ok (.aload_n 0, 1) := by decide +kernel
theorem dX10_cliff_51 : decode cX10_cliff 51 = .ok (.getfield 24, 3) := by decide +kernel
theorem dX10_cliff_54 : decode cX10_cliff 54 = .ok (.invokevirtual 135, 3) := by decide +kernel
theorem dX10_cliff_57 : decode cX10_cliff 57 = .ok (.aload_n 0, 1) := by decide +kernel
theorem dX10_cliff_58 : decode cX10_cliff 58 = .ok (.getfield 39, 3) := by decide +kernel
theorem dX10_cliff_61 : decode cX10_cliff 61 = .ok (.aload_n 0, 1) := by decide +kernel
theorem dX10_cliff_62 : decode cX10_cliff 62 = .ok (.getfield 20, 3) := by decide +kernel
theorem dX10_cliff_65 : decode cX10_cliff 65 = .ok (.invokevirtual 121, 3) := by decide +kernel
theorem dX10_cliff_68 : decode cX10_cliff 68 = .ok (.aload_n 0, 1) := by decide +kernel
theorem dX10_cliff_69 : decode cX10_cliff 69 = .ok (.invokevirtual 138, 3) := by decide +kernel
theorem dX10_cliff_72 : decode cX10_cliff 72 = .ok (.aload_n 0, 1) := by decide +kernel
theorem dX10_cliff_73 : decode cX10_cliff 73 = .ok (.getfield 20, 3) := by decide +kernel
theorem dX10_cliff_76 : decode cX10_cliff 76 = .ok (.getfield 141, 3) := by decide +kernel
theorem dX10_cliff_79 : decode cX10_cliff 79 = .ok (.ireturn, 1) := by decide +kernel
theorem dX10_startAnew_0 : decode cX10_startAnew 0 = .ok (.aload_n 0, 1) := by decide +kernel
theorem dX10_startAnew_1 : decode cX10_startAnew 1 = .ok (.iconst 0, 1) := by decide +kernel
theorem dX10_startAnew_2 : decode cX10_startAnew 2 = .ok (.putfield 50, 3) := by decide +kernel
theorem dX10_startAnew_5 : decode cX10_startAnew 5 = .ok (.aload_n 0, 1) := by decide +kernel
theorem dX10_startAnew_6 : decode cX10_startAnew 6 = .ok (.getfield 71, 3) := by decide +kernel
theorem dX10_startAnew_9 : decode cX10_startAnew 9 = .ok (.invokevirtual 144, 3) := by decide +kernel
theorem dX10_startAnew_12 : decode cX10_startAnew 12 = .ok (.aload_n 0, 1) := by decide +kernel
theorem dX10_startAnew_13 : decode cX10_startAnew 13 = .ok (.invokevirtual 147, 3) := by decide +kernel
theorem dX10_startAnew_16 : decode cX10_startAnew 16 = .ok (.return_, 1) := by decide +kernel
theorem dX10_settle_0 : decode cX10_settle 0 = .ok (.aload_n 0, 1) := by decide +kernel
theorem dX10_settle_1 : decode cX10_settle 1 = .ok (.getfield 71, 3) := by decide +kernel
theorem dX10_settle_4 : decode cX10_settle 4 = .ok (.aload_n 0, 1) := by decide +kernel
theorem dX10_settle_5 : decode cX10_settle 5 = .ok (.getfield 39, 3) := by decide +kernel
theorem dX10_settle_8 : decode cX10_settle 8 = .ok (.getfield 150, 3) := by decide +kernel
theorem dX10_settle_11 : decode cX10_settle 11 = .ok (.invokevirtual 153, 3) := by decide +kernel
theorem dX10_settle_14 : decode cX10_settle 14 = .ok (.aload_n 0, 1) := by decide +kernel
theorem dX10_settle_15 : decode cX10_settle 15 = .ok (.getfield 89, 3) := by decide +kernel
theorem dX10_settle_18 : decode cX10_settle 18 = .ok (.invokevirtual 156, 3) := by decide +kernel
theorem dX10_settle_21 : decode cX10_settle 21 = .ok (.return_, 1) := by decide +kernel
theorem dX10_fault_0 : decode cX10_fault 0 = .ok (.iload_n 1, 1) := by decide +kernel
theorem dX10_fault_1 : decode cX10_fault 1 = .ok (.ifCond .ne 11, 3) := by decide +kernel
theorem dX10_fault_4 : decode cX10_fault 4 = .ok (.aload_n 0, 1) := by decide +kernel
theorem dX10_fault_5 : decode cX10_fault 5 = .ok (.getfield 32, 3) := by decide +kernel
theorem dX10_fault_8 : decode cX10_fault 8 = .ok (.getfield 132, 3) := by decide +kernel
theorem dX10_fault_11 : decode cX10_fault 11 = .ok (.ireturn, 1) := by decide +kernel
theorem dX10_fault_12 : decode cX10_fault 12 = .ok (.iload_n 1, 1) := by decide +kernel
theorem dX10_fault_13 : decode cX10_fault 13 = .ok (.iconst 1, 1) := by decide +kernel
theorem dX10_fault_14 : decode cX10_fault 14 = .ok (.if_icmp .ne 13, 3) := by decide +kernel
theorem dX10_fault_17 : decode cX10_fault 17 = .ok (.aload_n 0, 1) := by decide +kernel
theorem dX10_fault_18 : decode cX10_fault 18 = .ok (.getfield 32, 3) := by decide +kernel
theorem dX10_fault_21 : decode cX10_fault 21 = .ok (.getfield 157, 3) := by decide +kernel
theorem dX10_fault_24 : decode cX10_fault 24 = .ok (.goto 4, 3) := by decide +kernel
theorem dX10_fault_27 : decode cX10_fault 27 = .ok (.iconst (-1), 1) := by decide +kernel
theorem dX10_fault_28 : decode cX10_fault 28 = .ok (.ireturn, 1) := by decide +kernel
theorem dX10_hole_0 : decode cX10_hole 0 = .ok (.aload_n 0, 1) := by decide +kernel
theorem dX10_hole_1 : decode cX10_hole 1 = .ok (.getfield 20, 3) := by decide +kernel
theorem dX10_hole_4 : decode cX10_hole 4 = .ok (.iload_n 1, 1) := by decide +kernel
theorem dX10_hole_5 : decode cX10_hole 5 = .ok (.invokevirtual 160, 3) := by decide +kernel
theorem dX10_hole_8 : decode cX10_hole 8 = .ok (.ifCond .ne 6, 3) := by decide +kernel
theorem dX10_hole_11 : decode cX10_hole 11 = .ok (.bipush (-2), 2) := by decide +kernel
theorem dX10_hole_13 : decode cX10_hole 13 = .ok (.ireturn, 1) := by decide +kernel
theorem dX10_hole_14 : decode cX10_hole 14 = .ok (.iload_n 2, 1) := by decide +kernel
theorem dX10_hole_15 : decode cX10_hole 15 = .ok (.tableswitch 55 0 2 #[25, 35, 45], 25) := by decide +kernel
theorem dX10_hole_40 : decode cX10_hole 40 = .ok (.aload_n 0, 1) := by decide +kernel
theorem dX10_hole_41 : decode cX10_hole 41 = .ok (.getfield 20, 3) := by decide +kernel
theorem dX10_hole_44 : decode cX10_hole 44 = .ok (.getfield 164, 3) := by decide +kernel
theorem dX10_hole_47 : decode cX10_hole 47 = .ok (.iload_n 1, 1) := by decide +kernel
theorem dX10_hole_48 : decode cX10_hole 48 = .ok (.iaload, 1) := by decide +kernel
theorem dX10_hole_49 : decode cX10_hole 49 = .ok (.ireturn, 1) := by decide +kernel
theorem dX10_hole_50 : decode cX10_hole 50 = .ok (.aload_n 0, 1) := by decide +kernel
theorem dX10_hole_51 : decode cX10_hole 51 = .ok (.getfield 20, 3) := by decide +kernel
theorem dX10_hole_54 : decode cX10_hole 54 = .ok (.getfield 167, 3) := by decide +kernel
theorem dX10_hole_57 : decode cX10_hole 57 = .ok (.iload_n 1, 1) := by decide +kernel
theorem dX10_hole_58 : decode cX10_hole 58 = .ok (.iaload, 1) := by decide +kernel
theorem dX10_hole_59 : decode cX10_hole 59 = .ok (.ireturn, 1) := by decide +kernel
theorem dX10_hole_60 : decode cX10_hole 60 = .ok (.aload_n 0, 1) := by decide +kernel
theorem dX10_hole_61 : decode cX10_hole 61 = .ok (.getfield 20, 3) := by decide +kernel
theorem dX10_hole_64 : decode cX10_hole 64 = .ok (.getfield 170, 3) := by decide +kernel
theorem dX10_hole_67 : decode cX10_hole 67 = .ok (.iload_n 1, 1) := by decide +kernel
theorem dX10_hole_68 : decode cX10_hole 68 = .ok (.iaload, 1) := by decide +kernel
theorem dX10_hole_69 : decode cX10_hole 69 = .ok (.ireturn, 1) := by decide +kernel
theorem dX10_hole_70 : decode cX10_hole 70 = .ok (.bipush (-2), 2) := by decide +kernel
theorem dX10_hole_72 : decode cX10_hole 72 = .ok (.ireturn, 1) := by decide +kernel
theorem dX10_why_0 : decode cX10_why 0 = .ok (.aload_n 0, 1) := by decide +kernel
theorem dX10_why_1 : decode cX10_why 1 = .ok (.getfield 80, 3) := by decide +kernel
theorem dX10_why_4 : decode cX10_why 4 = .ok (.aload_n 0, 1) := by decide +kernel
theorem dX10_why_5 : decode cX10_why 5 = .ok (.getfield 39, 3) := by decide +kernel
theorem dX10_why_8 : decode cX10_why 8 = .ok (.getfield 173, 3) := by decide +kernel
theorem dX10_why_11 : decode cX10_why 11 = .ok (.iload_n 1, 1) := by decide +kernel
theorem dX10_why_12 : decode cX10_why 12 = .ok (.invokevirtual 176, 3) := by decide +kernel
theorem dX10_why_15 : decode cX10_why 15 = .ok (.ireturn, 1) := by decide +kernel
theorem dX10_by_0 : decode cX10_by 0 = .ok (.iload_n 2, 1) := by decide +kernel
theorem dX10_by_1 : decode cX10_by 1 = .ok (.ifCond .lt 8, 3) := by decide +kernel
theorem dX10_by_4 : decode cX10_by 4 = .ok (.iload_n 2, 1) := by decide +kernel
theorem dX10_by_5 : decode cX10_by 5 = .ok (.iconst 2, 1) := by decide +kernel
theorem dX10_by_6 : decode cX10_by 6 = .ok (.if_icmp .le 6, 3) := by decide +kernel
theorem dX10_by_9 : decode cX10_by 9 = .ok (.bipush (-2), 2) := by decide +kernel
theorem dX10_by_11 : decode cX10_by 11 = .ok (.ireturn, 1) := by decide +kernel
theorem dX10_by_12 : decode cX10_by 12 = .ok (.aload_n 0, 1) := by decide +kernel
theorem dX10_by_13 : decode cX10_by 13 = .ok (.getfield 80, 3) := by decide +kernel
theorem dX10_by_16 : decode cX10_by 16 = .ok (.aload_n 0, 1) := by decide +kernel
theorem dX10_by_17 : decode cX10_by 17 = .ok (.getfield 39, 3) := by decide +kernel
theorem dX10_by_20 : decode cX10_by 20 = .ok (.getfield 173, 3) := by decide +kernel
theorem dX10_by_23 : decode cX10_by 23 = .ok (.iload_n 1, 1) := by decide +kernel
theorem dX10_by_24 : decode cX10_by 24 = .ok (.invokevirtual 180, 3) := by decide +kernel
theorem dX10_by_27 : decode cX10_by 27 = .ok (.istore_n 3, 1) := by decide +kernel
theorem dX10_by_28 : decode cX10_by 28 = .ok (.iload_n 3, 1) := by decide +kernel
theorem dX10_by_29 : decode cX10_by 29 = .ok (.iconst (-1), 1) := by decide +kernel
theorem dX10_by_30 : decode cX10_by 30 = .ok (.if_icmp .ne 6, 3) := by decide +kernel
theorem dX10_by_33 : decode cX10_by 33 = .ok (.bipush (-5), 2) := by decide +kernel
theorem dX10_by_35 : decode cX10_by 35 = .ok (.ireturn, 1) := by decide +kernel
theorem dX10_by_36 : decode cX10_by 36 = .ok (.iload_n 2, 1) := by decide +kernel
theorem dX10_by_37 : decode cX10_by 37 = .ok (.ifCond .ne 8, 3) := by decide +kernel
theorem dX10_by_40 : decode cX10_by 40 = .ok (.iload_n 3, 1) := by decide +kernel
theorem dX10_by_41 : decode cX10_by 41 = .ok (.invokestatic 183, 3) := by decide +kernel
theorem dX10_by_44 : decode cX10_by 44 = .ok (.ireturn, 1) := by decide +kernel
theorem dX10_by_45 : decode cX10_by 45 = .ok (.iload_n 2, 1) := by decide +kernel
theorem dX10_by_46 : decode cX10_by 46 = .ok (.iconst 1, 1) := by decide +kernel
theorem dX10_by_47 : decode cX10_by 47 = .ok (.if_icmp .ne 10, 3) := by decide +kernel
theorem dX10_by_50 : decode cX10_by 50 = .ok (.iload_n 3, 1) := by decide +kernel
theorem dX10_by_51 : decode cX10_by 51 = .ok (.invokestatic 187, 3) := by decide +kernel
theorem dX10_by_54 : decode cX10_by 54 = .ok (.goto 7, 3) := by decide +kernel
theorem dX10_by_57 : decode cX10_by 57 = .ok (.iload_n 3, 1) := by decide +kernel
theorem dX10_by_58 : decode cX10_by 58 = .ok (.invokestatic 190, 3) := by decide +kernel
theorem dX10_by_61 : decode cX10_by 61 = .ok (.ireturn, 1) := by decide +kernel
theorem dX10_act_0 : decode cX10_act 0 = .ok (.aload_n 0, 1) := by decide +kernel
theorem dX10_act_1 : decode cX10_act 1 = .ok (.getfield 80, 3) := by decide +kernel
theorem dX10_act_4 : decode cX10_act 4 = .ok (.aload_n 0, 1) := by decide +kernel
theorem dX10_act_5 : decode cX10_act 5 = .ok (.getfield 39, 3) := by decide +kernel
theorem dX10_act_8 : decode cX10_act 8 = .ok (.getfield 173, 3) := by decide +kernel
theorem dX10_act_11 : decode cX10_act 11 = .ok (.iload_n 1, 1) := by decide +kernel
theorem dX10_act_12 : decode cX10_act 12 = .ok (.invokevirtual 176, 3) := by decide +kernel
theorem dX10_act_15 : decode cX10_act 15 = .ok (.istore_n 2, 1) := by decide +kernel
theorem dX10_act_16 : decode cX10_act 16 = .ok (.iload_n 2, 1) := by decide +kernel
theorem dX10_act_17 : decode cX10_act 17 = .ok (.ifCond .eq 8, 3) := by decide +kernel
theorem dX10_act_20 : decode cX10_act 20 = .ok (.bipush (-10), 2) := by decide +kernel
theorem dX10_act_22 : decode cX10_act 22 = .ok (.iload_n 2, 1) := by decide +kernel
theorem dX10_act_23 : decode cX10_act 23 = .ok (.isub, 1) := by decide +kernel
theorem dX10_act_24 : decode cX10_act 24 = .ok (.ireturn, 1) := by decide +kernel
theorem dX10_act_25 : decode cX10_act 25 = .ok (.aload_n 0, 1) := by decide +kernel
theorem dX10_act_26 : decode cX10_act 26 = .ok (.getfield 43, 3) := by decide +kernel
theorem dX10_act_29 : decode cX10_act 29 = .ok (.aload_n 0, 1) := by decide +kernel
theorem dX10_act_30 : decode cX10_act 30 = .ok (.getfield 39, 3) := by decide +kernel
theorem dX10_act_33 : decode cX10_act 33 = .ok (.invokevirtual 193, 3) := by decide +kernel
theorem dX10_act_36 : decode cX10_act 36 = .ok (.aload_n 0, 1) := by decide +kernel
theorem dX10_act_37 : decode cX10_act 37 = .ok (.aload_n 0, 1) := by decide +kernel
theorem dX10_act_38 : decode cX10_act 38 = .ok (.getfield 43, 3) := by decide +kernel
theorem dX10_act_41 : decode cX10_act 41 = .ok (.iload_n 1, 1) := by decide +kernel
theorem dX10_act_42 : decode cX10_act 42 = .ok (.invokevirtual 196, 3) := by decide +kernel
theorem dX10_act_45 : decode cX10_act 45 = .ok (.pop, 1) := by decide +kernel
theorem dX10_act_46 : decode cX10_act 46 = .ok (.aload_n 0, 1) := by decide +kernel
theorem dX10_act_47 : decode cX10_act 47 = .ok (.invokevirtual 200, 3) := by decide +kernel
theorem dX10_act_50 : decode cX10_act 50 = .ok (.aload_n 0, 1) := by decide +kernel
theorem dX10_act_51 : decode cX10_act 51 = .ok (.getfield 39, 3) := by decide +kernel
theorem dX10_act_54 : decode cX10_act 54 = .ok (.getfield 173, 3) := by decide +kernel
theorem dX10_act_57 : decode cX10_act 57 = .ok (.invokestatic 183, 3) := by decide +kernel
theorem dX10_act_60 : decode cX10_act 60 = .ok (.ireturn, 1) := by decide +kernel
theorem dX10_step_0 : decode cX10_step 0 = .ok (.iload_n 2, 1) := by decide +kernel
theorem dX10_step_1 : decode cX10_step 1 = .ok (.bipush 30, 2) := by decide +kernel
theorem dX10_step_3 : decode cX10_step 3 = .ok (.if_icmp .lt 30, 3) := by decide +kernel
theorem dX10_step_6 : decode cX10_step 6 = .ok (.iload_n 2, 1) := by decide +kernel
theorem dX10_step_7 : decode cX10_step 7 = .ok (.bipush 40, 2) := by decide +kernel
theorem dX10_step_9 : decode cX10_step 9 = .ok (.if_icmp .ge 24, 3) := by decide +kernel
theorem dX10_step_12 : decode cX10_step 12 = .ok (.aload_n 1, 1) := by decide +kernel
theorem dX10_step_13 : decode cX10_step 13 = .ok (.iload_n 2, 1) := by decide +kernel
theorem dX10_step_14 : decode cX10_step 14 = .ok (.bipush 30, 2) := by decide +kernel
theorem dX10_step_16 : decode cX10_step 16 = .ok (.isub, 1) := by decide +kernel
theorem dX10_step_17 : decode cX10_step 17 = .ok (.putfield 150, 3) := by decide +kernel
theorem dX10_step_20 : decode cX10_step 20 = .ok (.aload_n 0, 1) := by decide +kernel
theorem dX10_step_21 : decode cX10_step 21 = .ok (.getfield 71, 3) := by decide +kernel
theorem dX10_step_24 : decode cX10_step 24 = .ok (.aload_n 1, 1) := by decide +kernel
theorem dX10_step_25 : decode cX10_step 25 = .ok (.getfield 150, 3) := by decide +kernel
theorem dX10_step_28 : decode cX10_step 28 = .ok (.invokevirtual 153, 3) := by decide +kernel
theorem dX10_step_31 : decode cX10_step 31 = .ok (.iconst 0, 1) := by decide +kernel
theorem dX10_step_32 : decode cX10_step 32 = .ok (.ireturn, 1) := by decide +kernel
theorem dX10_step_33 : decode cX10_step 33 = .ok (.aload_n 0, 1) := by decide +kernel
theorem dX10_step_34 : decode cX10_step 34 = .ok (.getfield 80, 3) := by decide +kernel
theorem dX10_step_37 : decode cX10_step 37 = .ok (.aload_n 1, 1) := by decide +kernel
theorem dX10_step_38 : decode cX10_step 38 = .ok (.getfield 173, 3) := by decide +kernel
theorem dX10_step_41 : decode cX10_step 41 = .ok (.iload_n 2, 1) := by decide +kernel
theorem dX10_step_42 : decode cX10_step 42 = .ok (.invokevirtual 176, 3) := by decide +kernel
theorem dX10_step_45 : decode cX10_step 45 = .ok (.istore_n 3, 1) := by decide +kernel
theorem dX10_step_46 : decode cX10_step 46 = .ok (.iload_n 3, 1) := by decide +kernel
theorem dX10_step_47 : decode cX10_step 47 = .ok (.ifCond .ne 29, 3) := by decide +kernel
theorem dX10_step_50 : decode cX10_step 50 = .ok (.aload_n 1, 1) := by decide +kernel
theorem dX10_step_51 : decode cX10_step 51 = .ok (.aload_n 0, 1) := by decide +kernel
theorem dX10_step_52 : decode cX10_step 52 = .ok (.getfield 80, 3) := by decide +kernel
theorem dX10_step_55 : decode cX10_step 55 = .ok (.aload_n 1, 1) := by decide +kernel
theorem dX10_step_56 : decode cX10_step 56 = .ok (.getfield 173, 3) := by decide +kernel
theorem dX10_step_59 : decode cX10_step 59 = .ok (.iload_n 2, 1) := by decide +kernel
theorem dX10_step_60 : decode cX10_step 60 = .ok (.invokevirtual 203, 3) := by decide +kernel
theorem dX10_step_63 : decode cX10_step 63 = .ok (.putfield 173, 3) := by decide +kernel
theorem dX10_step_66 : decode cX10_step 66 = .ok (.aload_n 1, 1) := by decide +kernel
theorem dX10_step_67 : decode cX10_step 67 = .ok (.dup, 1) := by decide +kernel
theorem dX10_step_68 : decode cX10_step 68 = .ok (.getfield 206, 3) := by decide +kernel
theorem dX10_step_71 : decode cX10_step 71 = .ok (.iconst 1, 1) := by decide +kernel
theorem dX10_step_72 : decode cX10_step 72 = .ok (.iadd, 1) := by decide +kernel
theorem dX10_step_73 : decode cX10_step 73 = .ok (.putfield 206, 3) := by decide +kernel
theorem dX10_step_76 : decode cX10_step 76 = .ok (.iload_n 3, 1) := by decide +kernel
theorem dX10_step_77 : decode cX10_step 77 = .ok (.ireturn, 1) := by decide +kernel
theorem dX10_keepTrial_0 : decode cX10_keepTrial 0 = .ok (.aload_n 0, 1) := by decide +kernel
theorem dX10_keepTrial_1 : decode cX10_keepTrial 1 = .ok (.invokevirtual 209, 3) := by decide +kernel
theorem dX10_keepTrial_4 : decode cX10_keepTrial 4 = .ok (.aload_n 0, 1) := by decide +kernel
theorem dX10_keepTrial_5 : decode cX10_keepTrial 5 = .ok (.getfield 39, 3) := by decide +kernel
theorem dX10_keepTrial_8 : decode cX10_keepTrial 8 = .ok (.aload_n 0, 1) := by decide +kernel
theorem dX10_keepTrial_9 : decode cX10_keepTrial 9 = .ok (.getfield 43, 3) := by decide +kernel
theorem dX10_keepTrial_12 : decode cX10_keepTrial 12 = .ok (.invokevirtual 193, 3) := by decide +kernel
theorem dX10_keepTrial_15 : decode cX10_keepTrial 15 = .ok (.aload_n 0, 1) := by decide +kernel
theorem dX10_keepTrial_16 : decode cX10_keepTrial 16 = .ok (.invokevirtual 147, 3) := by decide +kernel
theorem dX10_keepTrial_19 : decode cX10_keepTrial 19 = .ok (.return_, 1) := by decide +kernel
theorem dX10_remember_0 : decode cX10_remember 0 = .ok (.aload_n 0, 1) := by decide +kernel
theorem dX10_remember_1 : decode cX10_remember 1 = .ok (.getfield 50, 3) := by decide +kernel
theorem dX10_remember_4 : decode cX10_remember 4 = .ok (.bipush 10, 2) := by decide +kernel
theorem dX10_remember_6 : decode cX10_remember 6 = .ok (.if_icmp .ne 56, 3) := by decide +kernel
theorem dX10_remember_9 : decode cX10_remember 9 = .ok (.aload_n 0, 1) := by decide +kernel
theorem dX10_remember_10 : decode cX10_remember 10 = .ok (.getfield 46, 3) := by decide +kernel
theorem dX10_remember_13 : decode cX10_remember 13 = .ok (.iconst 0, 1) := by decide +kernel
theorem dX10_remember_14 : decode cX10_remember 14 = .ok (.aaload, 1) := by decide +kernel
theorem dX10_remember_15 : decode cX10_remember 15 = .ok (.astore_n 1, 1) := by decide +kernel
theorem dX10_remember_16 : decode cX10_remember 16 = .ok (.iconst 1, 1) := by decide +kernel
theorem dX10_remember_17 : decode cX10_remember 17 = .ok (.istore_n 2, 1) := by decide +kernel
theorem dX10_remember_18 : decode cX10_remember 18 = .ok (.iload_n 2, 1) := by decide +kernel
theorem dX10_remember_19 : decode cX10_remember 19 = .ok (.bipush 10, 2) := by decide +kernel
theorem dX10_remember_21 : decode cX10_remember 21 = .ok (.if_icmp .ge 23, 3) := by decide +kernel
theorem dX10_remember_24 : decode cX10_remember 24 = .ok (.aload_n 0, 1) := by decide +kernel
theorem dX10_remember_25 : decode cX10_remember 25 = .ok (.getfield 46, 3) := by decide +kernel
theorem dX10_remember_28 : decode cX10_remember 28 = .ok (.iload_n 2, 1) := by decide +kernel
theorem dX10_remember_29 : decode cX10_remember 29 = .ok (.iconst 1, 1) := by decide +kernel
theorem dX10_remember_30 : decode cX10_remember 30 = .ok (.isub, 1) := by decide +kernel
theorem dX10_remember_31 : decode cX10_remember 31 = .ok (.aload_n 0, 1) := by decide +kernel
theorem dX10_remember_32 : decode cX10_remember 32 = .ok (.getfield 46, 3) := by decide +kernel
theorem dX10_remember_35 : decode cX10_remember 35 = .ok (.iload_n 2, 1) := by decide +kernel
theorem dX10_remember_36 : decode cX10_remember 36 = .ok (.aaload, 1) := by decide +kernel
theorem dX10_remember_37 : decode cX10_remember 37 = .ok (.aastore, 1) := by decide +kernel
theorem dX10_remember_38 : decode cX10_remember 38 = .ok (.iinc 2 1, 3) := by decide +kernel
theorem dX10_remember_41 : decode cX10_remember 41 = .ok (.goto (-23), 3) := by decide +kernel
theorem dX10_remember_44 : decode cX10_remember 44 = .ok (.aload_n 0, 1) := by decide +kernel
theorem dX10_remember_45 : decode cX10_remember 45 = .ok (.getfield 46, 3) := by decide +kernel
theorem dX10_remember_48 : decode cX10_remember 48 = .ok (.bipush 9, 2) := by decide +kernel
theorem dX10_remember_50 : decode cX10_remember 50 = .ok (.aload_n 1, 1) := by decide +kernel
theorem dX10_remember_51 : decode cX10_remember 51 = .ok (.aastore, 1) := by decide +kernel
theorem dX10_remember_52 : decode cX10_remember 52 = .ok (.aload_n 0, 1) := by decide +kernel
theorem dX10_remember_53 : decode cX10_remember 53 = .ok (.dup, 1) := by decide +kernel
theorem dX10_remember_54 : decode cX10_remember 54 = .ok (.getfield 50, 3) := by decide +kernel
theorem dX10_remember_57 : decode cX10_remember 57 = .ok (.iconst 1, 1) := by decide +kernel
theorem dX10_remember_58 : decode cX10_remember 58 = .ok (.isub, 1) := by decide +kernel
theorem dX10_remember_59 : decode cX10_remember 59 = .ok (.putfield 50, 3) := by decide +kernel
theorem dX10_remember_62 : decode cX10_remember 62 = .ok (.aload_n 0, 1) := by decide +kernel
theorem dX10_remember_63 : decode cX10_remember 63 = .ok (.getfield 46, 3) := by decide +kernel
theorem dX10_remember_66 : decode cX10_remember 66 = .ok (.aload_n 0, 1) := by decide +kernel
theorem dX10_remember_67 : decode cX10_remember 67 = .ok (.getfield 50, 3) := by decide +kernel
theorem dX10_remember_70 : decode cX10_remember 70 = .ok (.aaload, 1) := by decide +kernel
theorem dX10_remember_71 : decode cX10_remember 71 = .ok (.aload_n 0, 1) := by decide +kernel
theorem dX10_remember_72 : decode cX10_remember 72 = .ok (.getfield 39, 3) := by decide +kernel
theorem dX10_remember_75 : decode cX10_remember 75 = .ok (.invokevirtual 193, 3) := by decide +kernel
theorem dX10_remember_78 : decode cX10_remember 78 = .ok (.aload_n 0, 1) := by decide +kernel
theorem dX10_remember_79 : decode cX10_remember 79 = .ok (.dup, 1) := by decide +kernel
theorem dX10_remember_80 : decode cX10_remember 80 = .ok (.getfield 50, 3) := by decide +kernel
theorem dX10_remember_83 : decode cX10_remember 83 = .ok (.iconst 1, 1) := by decide +kernel
theorem dX10_remember_84 : decode cX10_remember 84 = .ok (.iadd, 1) := by decide +kernel
theorem dX10_remember_85 : decode cX10_remember 85 = .ok (.putfield 50, 3) := by decide +kernel
theorem dX10_remember_88 : decode cX10_remember 88 = .ok (.return_, 1) := by decide +kernel
theorem dX10_wind_0 : decode cX10_wind 0 = .ok (.iload_n 1, 1) := by decide +kernel
theorem dX10_wind_1 : decode cX10_wind 1 = .ok (.ifCond .lt 9, 3) := by decide +kernel
theorem dX10_wind_4 : decode cX10_wind 4 = .ok (.iload_n 1, 1) := by decide +kernel
theorem dX10_wind_5 : decode cX10_wind 5 = .ok (.bipush 10, 2) := by decide +kernel
theorem dX10_wind_7 : decode cX10_wind 7 = .ok (.if_icmp .lt 6, 3) := by decide +kernel
theorem dX10_wind_10 : decode cX10_wind 10 = .ok (.bipush (-11), 2) := by decide +kernel
theorem dX10_wind_12 : decode cX10_wind 12 = .ok (.ireturn, 1) := by decide +kernel
theorem dX10_wind_13 : decode cX10_wind 13 = .ok (.aload_n 0, 1) := by decide +kernel
theorem dX10_wind_14 : decode cX10_wind 14 = .ok (.getfield 39, 3) := by decide +kernel
theorem dX10_wind_17 : decode cX10_wind 17 = .ok (.getfield 150, 3) := by decide +kernel
theorem dX10_wind_20 : decode cX10_wind 20 = .ok (.istore_n 2, 1) := by decide +kernel
theorem dX10_wind_21 : decode cX10_wind 21 = .ok (.aload_n 0, 1) := by decide +kernel
theorem dX10_wind_22 : decode cX10_wind 22 = .ok (.getfield 43, 3) := by decide +kernel
theorem dX10_wind_25 : decode cX10_wind 25 = .ok (.aload_n 0, 1) := by decide +kernel
theorem dX10_wind_26 : decode cX10_wind 26 = .ok (.getfield 39, 3) := by decide +kernel
theorem dX10_wind_29 : decode cX10_wind 29 = .ok (.invokevirtual 193, 3) := by decide +kernel
theorem dX10_wind_32 : decode cX10_wind 32 = .ok (.aload_n 0, 1) := by decide +kernel
theorem dX10_wind_33 : decode cX10_wind 33 = .ok (.aload_n 0, 1) := by decide +kernel
theorem dX10_wind_34 : decode cX10_wind 34 = .ok (.getfield 43, 3) := by decide +kernel
theorem dX10_wind_37 : decode cX10_wind 37 = .ok (.bipush 30, 2) := by decide +kernel
theorem dX10_wind_39 : decode cX10_wind 39 = .ok (.iload_n 1, 1) := by decide +kernel
theorem dX10_wind_40 : decode cX10_wind 40 = .ok (.iadd, 1) := by decide +kernel
theorem dX10_wind_41 : decode cX10_wind 41 = .ok (.invokevirtual 196, 3) := by decide +kernel
theorem dX10_wind_44 : decode cX10_wind 44 = .ok (.pop, 1) := by decide +kernel
theorem dX10_wind_45 : decode cX10_wind 45 = .ok (.aload_n 0, 1) := by decide +kernel
theorem dX10_wind_46 : decode cX10_wind 46 = .ok (.invokevirtual 200, 3) := by decide +kernel
theorem dX10_wind_49 : decode cX10_wind 49 = .ok (.iload_n 2, 1) := by decide +kernel
theorem dX10_wind_50 : decode cX10_wind 50 = .ok (.ireturn, 1) := by decide +kernel
theorem dX10_habit_0 : decode cX10_habit 0 = .ok (.iload_n 1, 1) := by decide +kernel
theorem dX10_habit_1 : decode cX10_habit 1 = .ok (.iconst 1, 1) := by decide +kernel
theorem dX10_habit_2 : decode cX10_habit 2 = .ok (.if_icmp .lt 9, 3) := by decide +kernel
theorem dX10_habit_5 : decode cX10_habit 5 = .ok (.iload_n 1, 1) := by decide +kernel
theorem dX10_habit_6 : decode cX10_habit 6 = .ok (.bipush 99, 2) := by decide +kernel
theorem dX10_habit_8 : decode cX10_habit 8 = .ok (.if_icmp .le 6, 3) := by decide +kernel
theorem dX10_habit_11 : decode cX10_habit 11 = .ok (.bipush (-3), 2) := by decide +kernel
theorem dX10_habit_13 : decode cX10_habit 13 = .ok (.ireturn, 1) := by decide +kernel
theorem dX10_habit_14 : decode cX10_habit 14 = .ok (.aload_n 0, 1) := by decide +kernel
theorem dX10_habit_15 : decode cX10_habit 15 = .ok (.getfield 43, 3) := by decide +kernel
theorem dX10_habit_18 : decode cX10_habit 18 = .ok (.aload_n 0, 1) := by decide +kernel
theorem dX10_habit_19 : decode cX10_habit 19 = .ok (.getfield 39, 3) := by decide +kernel
theorem dX10_habit_22 : decode cX10_habit 22 = .ok (.invokevirtual 193, 3) := by decide +kernel
theorem dX10_habit_25 : decode cX10_habit 25 = .ok (.iconst 0, 1) := by decide +kernel
theorem dX10_habit_26 : decode cX10_habit 26 = .ok (.istore_n 2, 1) := by decide +kernel
theorem dX10_habit_27 : decode cX10_habit 27 = .ok (.iload_n 2, 1) := by decide +kernel
theorem dX10_habit_28 : decode cX10_habit 28 = .ok (.iload_n 1, 1) := by decide +kernel
theorem dX10_habit_29 : decode cX10_habit 29 = .ok (.if_icmp .ge 32, 3) := by decide +kernel
theorem dX10_habit_32 : decode cX10_habit 32 = .ok (.aload_n 0, 1) := by decide +kernel
theorem dX10_habit_33 : decode cX10_habit 33 = .ok (.aload_n 0, 1) := by decide +kernel
theorem dX10_habit_34 : decode cX10_habit 34 = .ok (.getfield 43, 3) := by decide +kernel
theorem dX10_habit_37 : decode cX10_habit 37 = .ok (.aload_n 0, 1) := by decide +kernel
theorem dX10_habit_38 : decode cX10_habit 38 = .ok (.getfield 80, 3) := by decide +kernel
theorem dX10_habit_41 : decode cX10_habit 41 = .ok (.aload_n 0, 1) := by decide +kernel
theorem dX10_habit_42 : decode cX10_habit 42 = .ok (.getfield 43, 3) := by decide +kernel
theorem dX10_habit_45 : decode cX10_habit 45 = .ok (.getfield 173, 3) := by decide +kernel
theorem dX10_habit_48 : decode cX10_habit 48 = .ok (.invokevirtual 212, 3) := by decide +kernel
theorem dX10_habit_51 : decode cX10_habit 51 = .ok (.invokevirtual 196, 3) := by decide +kernel
theorem dX10_habit_54 : decode cX10_habit 54 = .ok (.pop, 1) := by decide +kernel
theorem dX10_habit_55 : decode cX10_habit 55 = .ok (.iinc 2 1, 3) := by decide +kernel
theorem dX10_habit_58 : decode cX10_habit 58 = .ok (.goto (-31), 3) := by decide +kernel
theorem dX10_habit_61 : decode cX10_habit 61 = .ok (.aload_n 0, 1) := by decide +kernel
theorem dX10_habit_62 : decode cX10_habit 62 = .ok (.invokevirtual 200, 3) := by decide +kernel
theorem dX10_habit_65 : decode cX10_habit 65 = .ok (.aload_n 0, 1) := by decide +kernel
theorem dX10_habit_66 : decode cX10_habit 66 = .ok (.getfield 39, 3) := by decide +kernel
theorem dX10_habit_69 : decode cX10_habit 69 = .ok (.getfield 173, 3) := by decide +kernel
theorem dX10_habit_72 : decode cX10_habit 72 = .ok (.invokestatic 183, 3) := by decide +kernel
theorem dX10_habit_75 : decode cX10_habit 75 = .ok (.ireturn, 1) := by decide +kernel
theorem dX10_undo_0 : decode cX10_undo 0 = .ok (.iload_n 1, 1) := by decide +kernel
theorem dX10_undo_1 : decode cX10_undo 1 = .ok (.iconst 1, 1) := by decide +kernel
theorem dX10_undo_2 : decode cX10_undo 2 = .ok (.if_icmp .lt 11, 3) := by decide +kernel
theorem dX10_undo_5 : decode cX10_undo 5 = .ok (.iload_n 1, 1) := by decide +kernel
theorem dX10_undo_6 : decode cX10_undo 6 = .ok (.aload_n 0, 1) := by decide +kernel
theorem dX10_undo_7 : decode cX10_undo 7 = .ok (.getfield 50, 3) := by decide +kernel
theorem dX10_undo_10 : decode cX10_undo 10 = .ok (.if_icmp .le 6, 3) := by decide +kernel
theorem dX10_undo_13 : decode cX10_undo 13 = .ok (.bipush (-3), 2) := by decide +kernel
theorem dX10_undo_15 : decode cX10_undo 15 = .ok (.ireturn, 1) := by decide +kernel
theorem dX10_undo_16 : decode cX10_undo 16 = .ok (.aload_n 0, 1) := by decide +kernel
theorem dX10_undo_17 : decode cX10_undo 17 = .ok (.dup, 1) := by decide +kernel
theorem dX10_undo_18 : decode cX10_undo 18 = .ok (.getfield 50, 3) := by decide +kernel
theorem dX10_undo_21 : decode cX10_undo 21 = .ok (.iload_n 1, 1) := by decide +kernel
theorem dX10_undo_22 : decode cX10_undo 22 = .ok (.isub, 1) := by decide +kernel
theorem dX10_undo_23 : decode cX10_undo 23 = .ok (.putfield 50, 3) := by decide +kernel
theorem dX10_undo_26 : decode cX10_undo 26 = .ok (.aload_n 0, 1) := by decide +kernel
theorem dX10_undo_27 : decode cX10_undo 27 = .ok (.getfield 39, 3) := by decide +kernel
theorem dX10_undo_30 : decode cX10_undo 30 = .ok (.aload_n 0, 1) := by decide +kernel
theorem dX10_undo_31 : decode cX10_undo 31 = .ok (.getfield 46, 3) := by decide +kernel
theorem dX10_undo_34 : decode cX10_undo 34 = .ok (.aload_n 0, 1) := by decide +kernel
theorem dX10_undo_35 : decode cX10_undo 35 = .ok (.getfield 50, 3) := by decide +kernel
theorem dX10_undo_38 : decode cX10_undo 38 = .ok (.aaload, 1) := by decide +kernel
theorem dX10_undo_39 : decode cX10_undo 39 = .ok (.invokevirtual 193, 3) := by decide +kernel
theorem dX10_undo_42 : decode cX10_undo 42 = .ok (.aload_n 0, 1) := by decide +kernel
theorem dX10_undo_43 : decode cX10_undo 43 = .ok (.invokevirtual 147, 3) := by decide +kernel
theorem dX10_undo_46 : decode cX10_undo 46 = .ok (.aload_n 0, 1) := by decide +kernel
theorem dX10_undo_47 : decode cX10_undo 47 = .ok (.getfield 50, 3) := by decide +kernel
theorem dX10_undo_50 : decode cX10_undo 50 = .ok (.ireturn, 1) := by decide +kernel
theorem dX10_judge_0 : decode cX10_judge 0 = .ok (.iload_n 1, 1) := by decide +kernel
theorem dX10_judge_1 : decode cX10_judge 1 = .ok (.invokestatic 215, 3) := by decide +kernel
theorem dX10_judge_4 : decode cX10_judge 4 = .ok (.ifCond .eq 12, 3) := by decide +kernel
theorem dX10_judge_7 : decode cX10_judge 7 = .ok (.iload_n 2, 1) := by decide +kernel
theorem dX10_judge_8 : decode cX10_judge 8 = .ok (.ifCond .lt 8, 3) := by decide +kernel
theorem dX10_judge_11 : decode cX10_judge 11 = .ok (.iload_n 2, 1) := by decide +kernel
theorem dX10_judge_12 : decode cX10_judge 12 = .ok (.iconst 3, 1) := by decide +kernel
theorem dX10_judge_13 : decode cX10_judge 13 = .ok (.if_icmp .le 6, 3) := by decide +kernel
theorem dX10_judge_16 : decode cX10_judge 16 = .ok (.bipush (-2), 2) := by decide +kernel
theorem dX10_judge_18 : decode cX10_judge 18 = .ok (.ireturn, 1) := by decide +kernel
theorem dX10_judge_19 : decode cX10_judge 19 = .ok (.aload_n 0, 1) := by decide +kernel
theorem dX10_judge_20 : decode cX10_judge 20 = .ok (.getfield 55, 3) := by decide +kernel
theorem dX10_judge_23 : decode cX10_judge 23 = .ok (.iload_n 1, 1) := by decide +kernel
theorem dX10_judge_24 : decode cX10_judge 24 = .ok (.aaload, 1) := by decide +kernel
theorem dX10_judge_25 : decode cX10_judge 25 = .ok (.getfield 218, 3) := by decide +kernel
theorem dX10_judge_28 : decode cX10_judge 28 = .ok (.ifCond .eq 6, 3) := by decide +kernel
theorem dX10_judge_31 : decode cX10_judge 31 = .ok (.bipush (-6), 2) := by decide +kernel
theorem dX10_judge_33 : decode cX10_judge 33 = .ok (.ireturn, 1) := by decide +kernel
theorem dX10_judge_34 : decode cX10_judge 34 = .ok (.aload_n 0, 1) := by decide +kernel
theorem dX10_judge_35 : decode cX10_judge 35 = .ok (.aload_n 0, 1) := by decide +kernel
theorem dX10_judge_36 : decode cX10_judge 36 = .ok (.getfield 55, 3) := by decide +kernel
theorem dX10_judge_39 : decode cX10_judge 39 = .ok (.iload_n 1, 1) := by decide +kernel
theorem dX10_judge_40 : decode cX10_judge 40 = .ok (.aaload, 1) := by decide +kernel
theorem dX10_judge_41 : decode cX10_judge 41 = .ok (.invokevirtual 222, 3) := by decide +kernel
theorem dX10_judge_44 : decode cX10_judge 44 = .ok (.istore_n 3, 1) := by decide +kernel
theorem dX10_judge_45 : decode cX10_judge 45 = .ok (.iload_n 3, 1) := by decide +kernel
theorem dX10_judge_46 : decode cX10_judge 46 = .ok (.aload_n 0, 1) := by decide +kernel
theorem dX10_judge_47 : decode cX10_judge 47 = .ok (.getfield 55, 3) := by decide +kernel
theorem dX10_judge_50 : decode cX10_judge 50 = .ok (.iload_n 1, 1) := by decide +kernel
theorem dX10_judge_51 : decode cX10_judge 51 = .ok (.aaload, 1) := by decide +kernel
theorem dX10_judge_52 : decode cX10_judge 52 = .ok (.getfield 226, 3) := by decide +kernel
theorem dX10_judge_55 : decode cX10_judge 55 = .ok (.if_icmp .ne 7, 3) := by decide +kernel
theorem dX10_judge_58 : decode cX10_judge 58 = .ok (.iconst 1, 1) := by decide +kernel
theorem dX10_judge_59 : decode cX10_judge 59 = .ok (.goto 4, 3) := by decide +kernel
theorem dX10_judge_62 : decode cX10_judge 62 = .ok (.iconst 0, 1) := by decide +kernel
theorem dX10_judge_63 : decode cX10_judge 63 = .ok (.istore 4, 2) := by decide +kernel
theorem dX10_judge_65 : decode cX10_judge 65 = .ok (.iload 4, 2) := by decide +kernel
theorem dX10_judge_67 : decode cX10_judge 67 = .ok (.ifCond .eq 7, 3) := by decide +kernel
theorem dX10_judge_70 : decode cX10_judge 70 = .ok (.iconst 0, 1) := by decide +kernel
theorem dX10_judge_71 : decode cX10_judge 71 = .ok (.goto 27, 3) := by decide +kernel
theorem dX10_judge_74 : decode cX10_judge 74 = .ok (.aload_n 0, 1) := by decide +kernel
theorem dX10_judge_75 : decode cX10_judge 75 = .ok (.getfield 80, 3) := by decide +kernel
theorem dX10_judge_78 : decode cX10_judge 78 = .ok (.aload_n 0, 1) := by decide +kernel
theorem dX10_judge_79 : decode cX10_judge 79 = .ok (.getfield 43, 3) := by decide +kernel
theorem dX10_judge_82 : decode cX10_judge 82 = .ok (.getfield 173, 3) := by decide +kernel
theorem dX10_judge_85 : decode cX10_judge 85 = .ok (.aload_n 0, 1) := by decide +kernel
theorem dX10_judge_86 : decode cX10_judge 86 = .ok (.getfield 55, 3) := by decide +kernel
theorem dX10_judge_89 : decode cX10_judge 89 = .ok (.iload_n 1, 1) := by decide +kernel
theorem dX10_judge_90 : decode cX10_judge 90 = .ok (.aaload, 1) := by decide +kernel
theorem dX10_judge_91 : decode cX10_judge 91 = .ok (.iload_n 3, 1) := by decide +kernel
theorem dX10_judge_92 : decode cX10_judge 92 = .ok (.invokevirtual 229, 3) := by decide +kernel
theorem dX10_judge_95 : decode cX10_judge 95 = .ok (.invokevirtual 176, 3) := by decide +kernel
theorem dX10_judge_98 : decode cX10_judge 98 = .ok (.istore 5, 2) := by decide +kernel
theorem dX10_judge_100 : decode cX10_judge 100 = .ok (.aload_n 0, 1) := by decide +kernel
theorem dX10_judge_101 : decode cX10_judge 101 = .ok (.getfield 71, 3) := by decide +kernel
theorem dX10_judge_104 : decode cX10_judge 104 = .ok (.aload_n 0, 1) := by decide +kernel
theorem dX10_judge_105 : decode cX10_judge 105 = .ok (.getfield 39, 3) := by decide +kernel
theorem dX10_judge_108 : decode cX10_judge 108 = .ok (.getfield 150, 3) := by decide +kernel
theorem dX10_judge_111 : decode cX10_judge 111 = .ok (.invokevirtual 153, 3) := by decide +kernel
theorem dX10_judge_114 : decode cX10_judge 114 = .ok (.iload_n 2, 1) := by decide +kernel
theorem dX10_judge_115 : decode cX10_judge 115 = .ok (.tableswitch 50 0 2 #[25, 36, 39], 25) := by decide +kernel
theorem dX10_judge_140 : decode cX10_judge 140 = .ok (.iload 4, 2) := by decide +kernel
theorem dX10_judge_142 : decode cX10_judge 142 = .ok (.ifCond .eq 7, 3) := by decide +kernel
theorem dX10_judge_145 : decode cX10_judge 145 = .ok (.iconst (-1), 1) := by decide +kernel
theorem dX10_judge_146 : decode cX10_judge 146 = .ok (.goto 4, 3) := by decide +kernel
theorem dX10_judge_149 : decode cX10_judge 149 = .ok (.iload_n 3, 1) := by decide +kernel
theorem dX10_judge_150 : decode cX10_judge 150 = .ok (.ireturn, 1) := by decide +kernel
theorem dX10_judge_151 : decode cX10_judge 151 = .ok (.iload 5, 2) := by decide +kernel
theorem dX10_judge_153 : decode cX10_judge 153 = .ok (.ireturn, 1) := by decide +kernel
theorem dX10_judge_154 : decode cX10_judge 154 = .ok (.aload_n 0, 1) := by decide +kernel
theorem dX10_judge_155 : decode cX10_judge 155 = .ok (.getfield 43, 3) := by decide +kernel
theorem dX10_judge_158 : decode cX10_judge 158 = .ok (.getfield 173, 3) := by decide +kernel
theorem dX10_judge_161 : decode cX10_judge 161 = .ok (.invokestatic 183, 3) := by decide +kernel
theorem dX10_judge_164 : decode cX10_judge 164 = .ok (.ireturn, 1) := by decide +kernel
theorem dX10_judge_165 : decode cX10_judge 165 = .ok (.aload_n 0, 1) := by decide +kernel
theorem dX10_judge_166 : decode cX10_judge 166 = .ok (.getfield 43, 3) := by decide +kernel
theorem dX10_judge_169 : decode cX10_judge 169 = .ok (.getfield 173, 3) := by decide +kernel
theorem dX10_judge_172 : decode cX10_judge 172 = .ok (.invokestatic 187, 3) := by decide +kernel
theorem dX10_judge_175 : decode cX10_judge 175 = .ok (.ireturn, 1) := by decide +kernel
theorem dX10_follow_0 : decode cX10_follow 0 = .ok (.aload_n 0, 1) := by decide +kernel
theorem dX10_follow_1 : decode cX10_follow 1 = .ok (.getfield 43, 3) := by decide +kernel
theorem dX10_follow_4 : decode cX10_follow 4 = .ok (.aload_n 0, 1) := by decide +kernel
theorem dX10_follow_5 : decode cX10_follow 5 = .ok (.getfield 39, 3) := by decide +kernel
theorem dX10_follow_8 : decode cX10_follow 8 = .ok (.invokevirtual 193, 3) := by decide +kernel
theorem dX10_follow_11 : decode cX10_follow 11 = .ok (.iconst 0, 1) := by decide +kernel
theorem dX10_follow_12 : decode cX10_follow 12 = .ok (.istore_n 2, 1) := by decide +kernel
theorem dX10_follow_13 : decode cX10_follow 13 = .ok (.iload_n 2, 1) := by decide +kernel
theorem dX10_follow_14 : decode cX10_follow 14 = .ok (.aload_n 1, 1) := by decide +kernel
theorem dX10_follow_15 : decode cX10_follow 15 = .ok (.getfield 226, 3) := by decide +kernel
theorem dX10_follow_18 : decode cX10_follow 18 = .ok (.if_icmp .ge 25, 3) := by decide +kernel
theorem dX10_follow_21 : decode cX10_follow 21 = .ok (.aload_n 0, 1) := by decide +kernel
theorem dX10_follow_22 : decode cX10_follow 22 = .ok (.aload_n 0, 1) := by decide +kernel
theorem dX10_follow_23 : decode cX10_follow 23 = .ok (.getfield 43, 3) := by decide +kernel
theorem dX10_follow_26 : decode cX10_follow 26 = .ok (.aload_n 1, 1) := by decide +kernel
theorem dX10_follow_27 : decode cX10_follow 27 = .ok (.iload_n 2, 1) := by decide +kernel
theorem dX10_follow_28 : decode cX10_follow 28 = .ok (.invokevirtual 229, 3) := by decide +kernel
theorem dX10_follow_31 : decode cX10_follow 31 = .ok (.invokevirtual 196, 3) := by decide +kernel
theorem dX10_follow_34 : decode cX10_follow 34 = .ok (.ifCond .ne 9, 3) := by decide +kernel
theorem dX10_follow_37 : decode cX10_follow 37 = .ok (.iinc 2 1, 3) := by decide +kernel
theorem dX10_follow_40 : decode cX10_follow 40 = .ok (.goto (-27), 3) := by decide +kernel
theorem dX10_follow_43 : decode cX10_follow 43 = .ok (.iload_n 2, 1) := by decide +kernel
theorem dX10_follow_44 : decode cX10_follow 44 = .ok (.ireturn, 1) := by decide +kernel
theorem dX10_perform_0 : decode cX10_perform 0 = .ok (.aload_n 0, 1) := by decide +kernel
theorem dX10_perform_1 : decode cX10_perform 1 = .ok (.iload_n 1, 1) := by decide +kernel
theorem dX10_perform_2 : decode cX10_perform 2 = .ok (.invokevirtual 232, 3) := by decide +kernel
theorem dX10_perform_5 : decode cX10_perform 5 = .ok (.istore_n 2, 1) := by decide +kernel
theorem dX10_perform_6 : decode cX10_perform 6 = .ok (.iload_n 2, 1) := by decide +kernel
theorem dX10_perform_7 : decode cX10_perform 7 = .ok (.ifCond .eq 5, 3) := by decide +kernel
theorem dX10_perform_10 : decode cX10_perform 10 = .ok (.iload_n 2, 1) := by decide +kernel
theorem dX10_perform_11 : decode cX10_perform 11 = .ok (.ireturn, 1) := by decide +kernel
theorem dX10_perform_12 : decode cX10_perform 12 = .ok (.aload_n 0, 1) := by decide +kernel
theorem dX10_perform_13 : decode cX10_perform 13 = .ok (.aload_n 0, 1) := by decide +kernel
theorem dX10_perform_14 : decode cX10_perform 14 = .ok (.getfield 55, 3) := by decide +kernel
theorem dX10_perform_17 : decode cX10_perform 17 = .ok (.iload_n 1, 1) := by decide +kernel
theorem dX10_perform_18 : decode cX10_perform 18 = .ok (.aaload, 1) := by decide +kernel
theorem dX10_perform_19 : decode cX10_perform 19 = .ok (.invokevirtual 222, 3) := by decide +kernel
theorem dX10_perform_22 : decode cX10_perform 22 = .ok (.istore_n 3, 1) := by decide +kernel
theorem dX10_perform_23 : decode cX10_perform 23 = .ok (.iload_n 3, 1) := by decide +kernel
theorem dX10_perform_24 : decode cX10_perform 24 = .ok (.ifCond .le 7, 3) := by decide +kernel
theorem dX10_perform_27 : decode cX10_perform 27 = .ok (.aload_n 0, 1) := by decide +kernel
theorem dX10_perform_28 : decode cX10_perform 28 = .ok (.invokevirtual 200, 3) := by decide +kernel
theorem dX10_perform_31 : decode cX10_perform 31 = .ok (.iload_n 3, 1) := by decide +kernel
theorem dX10_perform_32 : decode cX10_perform 32 = .ok (.ireturn, 1) := by decide +kernel
theorem dX10_year_0 : decode cX10_year 0 = .ok (.iload_n 2, 1) := by decide +kernel
theorem dX10_year_1 : decode cX10_year 1 = .ok (.iconst 1, 1) := by decide +kernel
theorem dX10_year_2 : decode cX10_year 2 = .ok (.if_icmp .lt 9, 3) := by decide +kernel
theorem dX10_year_5 : decode cX10_year 5 = .ok (.iload_n 2, 1) := by decide +kernel
theorem dX10_year_6 : decode cX10_year 6 = .ok (.bipush 40, 2) := by decide +kernel
theorem dX10_year_8 : decode cX10_year 8 = .ok (.if_icmp .le 6, 3) := by decide +kernel
theorem dX10_year_11 : decode cX10_year 11 = .ok (.bipush (-3), 2) := by decide +kernel
theorem dX10_year_13 : decode cX10_year 13 = .ok (.ireturn, 1) := by decide +kernel
theorem dX10_year_14 : decode cX10_year 14 = .ok (.aload_n 0, 1) := by decide +kernel
theorem dX10_year_15 : decode cX10_year 15 = .ok (.getfield 43, 3) := by decide +kernel
theorem dX10_year_18 : decode cX10_year 18 = .ok (.aload_n 0, 1) := by decide +kernel
theorem dX10_year_19 : decode cX10_year 19 = .ok (.getfield 39, 3) := by decide +kernel
theorem dX10_year_22 : decode cX10_year 22 = .ok (.invokevirtual 193, 3) := by decide +kernel
theorem dX10_year_25 : decode cX10_year 25 = .ok (.iconst 0, 1) := by decide +kernel
theorem dX10_year_26 : decode cX10_year 26 = .ok (.istore_n 3, 1) := by decide +kernel
theorem dX10_year_27 : decode cX10_year 27 = .ok (.iload_n 1, 1) := by decide +kernel
theorem dX10_year_28 : decode cX10_year 28 = .ok (.istore 4, 2) := by decide +kernel
theorem dX10_year_30 : decode cX10_year 30 = .ok (.iconst 0, 1) := by decide +kernel
theorem dX10_year_31 : decode cX10_year 31 = .ok (.istore 5, 2) := by decide +kernel
theorem dX10_year_33 : decode cX10_year 33 = .ok (.iload 5, 2) := by decide +kernel
theorem dX10_year_35 : decode cX10_year 35 = .ok (.iload_n 2, 1) := by decide +kernel
theorem dX10_year_36 : decode cX10_year 36 = .ok (.if_icmp .ge 73, 3) := by decide +kernel
theorem dX10_year_39 : decode cX10_year 39 = .ok (.iload 4, 2) := by decide +kernel
theorem dX10_year_41 : decode cX10_year 41 = .ok (.invokestatic 235, 3) := by decide +kernel
theorem dX10_year_44 : decode cX10_year 44 = .ok (.istore 4, 2) := by decide +kernel
theorem dX10_year_46 : decode cX10_year 46 = .ok (.iload 4, 2) := by decide +kernel
theorem dX10_year_48 : decode cX10_year 48 = .ok (.bipush 16, 2) := by decide +kernel
theorem dX10_year_50 : decode cX10_year 50 = .ok (.iushr, 1) := by decide +kernel
theorem dX10_year_51 : decode cX10_year 51 = .ok (.bipush 8, 2) := by decide +kernel
theorem dX10_year_53 : decode cX10_year 53 = .ok (.irem, 1) := by decide +kernel
theorem dX10_year_54 : decode cX10_year 54 = .ok (.istore 6, 2) := by decide +kernel
theorem dX10_year_56 : decode cX10_year 56 = .ok (.iconst 0, 1) := by decide +kernel
theorem dX10_year_57 : decode cX10_year 57 = .ok (.istore 7, 2) := by decide +kernel
theorem dX10_year_59 : decode cX10_year 59 = .ok (.iload 6, 2) := by decide +kernel
theorem dX10_year_61 : decode cX10_year 61 = .ok (.iconst 5, 1) := by decide +kernel
theorem dX10_year_62 : decode cX10_year 62 = .ok (.if_icmp .lt 20, 3) := by decide +kernel
theorem dX10_year_65 : decode cX10_year 65 = .ok (.iload 4, 2) := by decide +kernel
theorem dX10_year_67 : decode cX10_year 67 = .ok (.invokestatic 235, 3) := by decide +kernel
theorem dX10_year_70 : decode cX10_year 70 = .ok (.istore 4, 2) := by decide +kernel
theorem dX10_year_72 : decode cX10_year 72 = .ok (.iload 4, 2) := by decide +kernel
theorem dX10_year_74 : decode cX10_year 74 = .ok (.bipush 16, 2) := by decide +kernel
theorem dX10_year_76 : decode cX10_year 76 = .ok (.iushr, 1) := by decide +kernel
theorem dX10_year_77 : decode cX10_year 77 = .ok (.bipush 6, 2) := by decide +kernel
theorem dX10_year_79 : decode cX10_year 79 = .ok (.irem, 1) := by decide +kernel
theorem dX10_year_80 : decode cX10_year 80 = .ok (.istore 7, 2) := by decide +kernel
theorem dX10_year_82 : decode cX10_year 82 = .ok (.aload_n 0, 1) := by decide +kernel
theorem dX10_year_83 : decode cX10_year 83 = .ok (.aload_n 0, 1) := by decide +kernel
theorem dX10_year_84 : decode cX10_year 84 = .ok (.getfield 43, 3) := by decide +kernel
theorem dX10_year_87 : decode cX10_year 87 = .ok (.iload 6, 2) := by decide +kernel
theorem dX10_year_89 : decode cX10_year 89 = .ok (.iload 7, 2) := by decide +kernel
theorem dX10_year_91 : decode cX10_year 91 = .ok (.invokestatic 238, 3) := by decide +kernel
theorem dX10_year_94 : decode cX10_year 94 = .ok (.invokevirtual 196, 3) := by decide +kernel
theorem dX10_year_97 : decode cX10_year 97 = .ok (.ifCond .ne 6, 3) := by decide +kernel
theorem dX10_year_100 : decode cX10_year 100 = .ok (.iinc 3 1, 3) := by decide +kernel
theorem dX10_year_103 : decode cX10_year 103 = .ok (.iinc 5 1, 3) := by decide +kernel
theorem dX10_year_106 : decode cX10_year 106 = .ok (.goto (-73), 3) := by decide +kernel
theorem dX10_year_109 : decode cX10_year 109 = .ok (.iload_n 3, 1) := by decide +kernel
theorem dX10_year_110 : decode cX10_year 110 = .ok (.ifCond .le 7, 3) := by decide +kernel
theorem dX10_year_113 : decode cX10_year 113 = .ok (.aload_n 0, 1) := by decide +kernel
theorem dX10_year_114 : decode cX10_year 114 = .ok (.invokevirtual 200, 3) := by decide +kernel
theorem dX10_year_117 : decode cX10_year 117 = .ok (.iload_n 3, 1) := by decide +kernel
theorem dX10_year_118 : decode cX10_year 118 = .ok (.ireturn, 1) := by decide +kernel
theorem dX10_nextSeed_0 : decode cX10_nextSeed 0 = .ok (.ldc 241, 2) := by decide +kernel
theorem dX10_nextSeed_2 : decode cX10_nextSeed 2 = .ok (.iload_n 0, 1) := by decide +kernel
theorem dX10_nextSeed_3 : decode cX10_nextSeed 3 = .ok (.imul, 1) := by decide +kernel
theorem dX10_nextSeed_4 : decode cX10_nextSeed 4 = .ok (.sipush 12345, 3) := by decide +kernel
theorem dX10_nextSeed_7 : decode cX10_nextSeed 7 = .ok (.iadd, 1) := by decide +kernel
theorem dX10_nextSeed_8 : decode cX10_nextSeed 8 = .ok (.ireturn, 1) := by decide +kernel
theorem dX10_drawnDeed_0 : decode cX10_drawnDeed 0 = .ok (.iload_n 0, 1) := by decide +kernel
theorem dX10_drawnDeed_1 : decode cX10_drawnDeed 1 = .ok (.ifCond .ne 5, 3) := by decide +kernel
theorem dX10_drawnDeed_4 : decode cX10_drawnDeed 4 = .ok (.iconst 0, 1) := by decide +kernel
theorem dX10_drawnDeed_5 : decode cX10_drawnDeed 5 = .ok (.ireturn, 1) := by decide +kernel
theorem dX10_drawnDeed_6 : decode cX10_drawnDeed 6 = .ok (.iload_n 0, 1) := by decide +kernel
theorem dX10_drawnDeed_7 : decode cX10_drawnDeed 7 = .ok (.iconst 3, 1) := by decide +kernel
theorem dX10_drawnDeed_8 : decode cX10_drawnDeed 8 = .ok (.if_icmp .gt 5, 3) := by decide +kernel
theorem dX10_drawnDeed_11 : decode cX10_drawnDeed 11 = .ok (.iconst 1, 1) := by decide +kernel
theorem dX10_drawnDeed_12 : decode cX10_drawnDeed 12 = .ok (.ireturn, 1) := by decide +kernel
theorem dX10_drawnDeed_13 : decode cX10_drawnDeed 13 = .ok (.iload_n 0, 1) := by decide +kernel
theorem dX10_drawnDeed_14 : decode cX10_drawnDeed 14 = .ok (.iconst 4, 1) := by decide +kernel
theorem dX10_drawnDeed_15 : decode cX10_drawnDeed 15 = .ok (.if_icmp .ne 5, 3) := by decide +kernel
theorem dX10_drawnDeed_18 : decode cX10_drawnDeed 18 = .ok (.iconst 2, 1) := by decide +kernel
theorem dX10_drawnDeed_19 : decode cX10_drawnDeed 19 = .ok (.ireturn, 1) := by decide +kernel
theorem dX10_drawnDeed_20 : decode cX10_drawnDeed 20 = .ok (.iload_n 0, 1) := by decide +kernel
theorem dX10_drawnDeed_21 : decode cX10_drawnDeed 21 = .ok (.iconst 5, 1) := by decide +kernel
theorem dX10_drawnDeed_22 : decode cX10_drawnDeed 22 = .ok (.if_icmp .ne 10, 3) := by decide +kernel
theorem dX10_drawnDeed_25 : decode cX10_drawnDeed 25 = .ok (.bipush 10, 2) := by decide +kernel
theorem dX10_drawnDeed_27 : decode cX10_drawnDeed 27 = .ok (.iload_n 1, 1) := by decide +kernel
theorem dX10_drawnDeed_28 : decode cX10_drawnDeed 28 = .ok (.iadd, 1) := by decide +kernel
theorem dX10_drawnDeed_29 : decode cX10_drawnDeed 29 = .ok (.goto 7, 3) := by decide +kernel
theorem dX10_drawnDeed_32 : decode cX10_drawnDeed 32 = .ok (.bipush 20, 2) := by decide +kernel
theorem dX10_drawnDeed_34 : decode cX10_drawnDeed 34 = .ok (.iload_n 1, 1) := by decide +kernel
theorem dX10_drawnDeed_35 : decode cX10_drawnDeed 35 = .ok (.iadd, 1) := by decide +kernel
theorem dX10_drawnDeed_36 : decode cX10_drawnDeed 36 = .ok (.ireturn, 1) := by decide +kernel
theorem dX10_soonest_0 : decode cX10_soonest 0 = .ok (.aload_n 0, 1) := by decide +kernel
theorem dX10_soonest_1 : decode cX10_soonest 1 = .ok (.iload_n 1, 1) := by decide +kernel
theorem dX10_soonest_2 : decode cX10_soonest 2 = .ok (.iload_n 2, 1) := by decide +kernel
theorem dX10_soonest_3 : decode cX10_soonest 3 = .ok (.invokevirtual 242, 3) := by decide +kernel
theorem dX10_soonest_6 : decode cX10_soonest 6 = .ok (.istore_n 3, 1) := by decide +kernel
theorem dX10_soonest_7 : decode cX10_soonest 7 = .ok (.iload_n 3, 1) := by decide +kernel
theorem dX10_soonest_8 : decode cX10_soonest 8 = .ok (.ifCond .eq 5, 3) := by decide +kernel
theorem dX10_soonest_11 : decode cX10_soonest 11 = .ok (.iload_n 3, 1) := by decide +kernel
theorem dX10_soonest_12 : decode cX10_soonest 12 = .ok (.ireturn, 1) := by decide +kernel
theorem dX10_soonest_13 : decode cX10_soonest 13 = .ok (.aload_n 0, 1) := by decide +kernel
theorem dX10_soonest_14 : decode cX10_soonest 14 = .ok (.getfield 89, 3) := by decide +kernel
theorem dX10_soonest_17 : decode cX10_soonest 17 = .ok (.aload_n 0, 1) := by decide +kernel
theorem dX10_soonest_18 : decode cX10_soonest 18 = .ok (.getfield 39, 3) := by decide +kernel
theorem dX10_soonest_21 : decode cX10_soonest 21 = .ok (.getfield 173, 3) := by decide +kernel
theorem dX10_soonest_24 : decode cX10_soonest 24 = .ok (.invokevirtual 245, 3) := by decide +kernel
theorem dX10_soonest_27 : decode cX10_soonest 27 = .ok (.aload_n 0, 1) := by decide +kernel
theorem dX10_soonest_28 : decode cX10_soonest 28 = .ok (.getfield 89, 3) := by decide +kernel
theorem dX10_soonest_31 : decode cX10_soonest 31 = .ok (.aload_n 0, 1) := by decide +kernel
theorem dX10_soonest_32 : decode cX10_soonest 32 = .ok (.getfield 89, 3) := by decide +kernel
theorem dX10_soonest_35 : decode cX10_soonest 35 = .ok (.iload_n 1, 1) := by decide +kernel
theorem dX10_soonest_36 : decode cX10_soonest 36 = .ok (.iload_n 2, 1) := by decide +kernel
theorem dX10_soonest_37 : decode cX10_soonest 37 = .ok (.invokevirtual 248, 3) := by decide +kernel
theorem dX10_soonest_40 : decode cX10_soonest 40 = .ok (.invokevirtual 251, 3) := by decide +kernel
theorem dX10_soonest_43 : decode cX10_soonest 43 = .ok (.ireturn, 1) := by decide +kernel
theorem dX10_comingRefused_0 : decode cX10_comingRefused 0 = .ok (.aload_n 0, 1) := by decide +kernel
theorem dX10_comingRefused_1 : decode cX10_comingRefused 1 = .ok (.getfield 20, 3) := by decide +kernel
theorem dX10_comingRefused_4 : decode cX10_comingRefused 4 = .ok (.iload_n 1, 1) := by decide +kernel
theorem dX10_comingRefused_5 : decode cX10_comingRefused 5 = .ok (.invokevirtual 160, 3) := by decide +kernel
theorem dX10_comingRefused_8 : decode cX10_comingRefused 8 = .ok (.ifCond .ne 6, 3) := by decide +kernel
theorem dX10_comingRefused_11 : decode cX10_comingRefused 11 = .ok (.bipush (-2), 2) := by decide +kernel
theorem dX10_comingRefused_13 : decode cX10_comingRefused 13 = .ok (.ireturn, 1) := by decide +kernel
theorem dX10_comingRefused_14 : decode cX10_comingRefused 14 = .ok (.aload_n 0, 1) := by decide +kernel
theorem dX10_comingRefused_15 : decode cX10_comingRefused 15 = .ok (.getfield 20, 3) := by decide +kernel
theorem dX10_comingRefused_18 : decode cX10_comingRefused 18 = .ok (.iload_n 2, 1) := by decide +kernel
theorem dX10_comingRefused_19 : decode cX10_comingRefused 19 = .ok (.invokevirtual 254, 3) := by decide +kernel
theorem dX10_comingRefused_22 : decode cX10_comingRefused 22 = .ok (.ifCond .eq 7, 3) := by decide +kernel
theorem dX10_comingRefused_25 : decode cX10_comingRefused 25 = .ok (.iconst 0, 1) := by decide +kernel
theorem dX10_comingRefused_26 : decode cX10_comingRefused 26 = .ok (.goto 5, 3) := by decide +kernel
theorem dX10_comingRefused_29 : decode cX10_comingRefused 29 = .ok (.bipush (-3), 2) := by decide +kernel
theorem dX10_comingRefused_31 : decode cX10_comingRefused 31 = .ok (.ireturn, 1) := by decide +kernel
theorem dX10_way_0 : decode cX10_way 0 = .ok (.aload_n 0, 1) := by decide +kernel
theorem dX10_way_1 : decode cX10_way 1 = .ok (.iload_n 1, 1) := by decide +kernel
theorem dX10_way_2 : decode cX10_way 2 = .ok (.iload_n 2, 1) := by decide +kernel
theorem dX10_way_3 : decode cX10_way 3 = .ok (.invokevirtual 242, 3) := by decide +kernel
theorem dX10_way_6 : decode cX10_way 6 = .ok (.istore 4, 2) := by decide +kernel
theorem dX10_way_8 : decode cX10_way 8 = .ok (.iload 4, 2) := by decide +kernel
theorem dX10_way_10 : decode cX10_way 10 = .ok (.ifCond .eq 6, 3) := by decide +kernel
theorem dX10_way_13 : decode cX10_way 13 = .ok (.iload 4, 2) := by decide +kernel
theorem dX10_way_15 : decode cX10_way 15 = .ok (.ireturn, 1) := by decide +kernel
theorem dX10_way_16 : decode cX10_way 16 = .ok (.iload_n 3, 1) := by decide +kernel
theorem dX10_way_17 : decode cX10_way 17 = .ok (.ifCond .ge 6, 3) := by decide +kernel
theorem dX10_way_20 : decode cX10_way 20 = .ok (.bipush (-3), 2) := by decide +kernel
theorem dX10_way_22 : decode cX10_way 22 = .ok (.ireturn, 1) := by decide +kernel
theorem dX10_way_23 : decode cX10_way 23 = .ok (.aload_n 0, 1) := by decide +kernel
theorem dX10_way_24 : decode cX10_way 24 = .ok (.getfield 89, 3) := by decide +kernel
theorem dX10_way_27 : decode cX10_way 27 = .ok (.aload_n 0, 1) := by decide +kernel
theorem dX10_way_28 : decode cX10_way 28 = .ok (.getfield 39, 3) := by decide +kernel
theorem dX10_way_31 : decode cX10_way 31 = .ok (.getfield 173, 3) := by decide +kernel
theorem dX10_way_34 : decode cX10_way 34 = .ok (.invokevirtual 245, 3) := by decide +kernel
theorem dX10_way_37 : decode cX10_way 37 = .ok (.aload_n 0, 1) := by decide +kernel
theorem dX10_way_38 : decode cX10_way 38 = .ok (.getfield 89, 3) := by decide +kernel
theorem dX10_way_41 : decode cX10_way 41 = .ok (.aload_n 0, 1) := by decide +kernel
theorem dX10_way_42 : decode cX10_way 42 = .ok (.getfield 89, 3) := by decide +kernel
theorem dX10_way_45 : decode cX10_way 45 = .ok (.iload_n 1, 1) := by decide +kernel
theorem dX10_way_46 : decode cX10_way 46 = .ok (.iload_n 2, 1) := by decide +kernel
theorem dX10_way_47 : decode cX10_way 47 = .ok (.invokevirtual 248, 3) := by decide +kernel
theorem dX10_way_50 : decode cX10_way 50 = .ok (.iload_n 3, 1) := by decide +kernel
theorem dX10_way_51 : decode cX10_way 51 = .ok (.invokevirtual 257, 3) := by decide +kernel
theorem dX10_way_54 : decode cX10_way 54 = .ok (.ireturn, 1) := by decide +kernel
theorem dX10_rows_0 : decode cX10_rows 0 = .ok (.aload_n 0, 1) := by decide +kernel
theorem dX10_rows_1 : decode cX10_rows 1 = .ok (.iload_n 1, 1) := by decide +kernel
theorem dX10_rows_2 : decode cX10_rows 2 = .ok (.iload_n 2, 1) := by decide +kernel
theorem dX10_rows_3 : decode cX10_rows 3 = .ok (.invokevirtual 242, 3) := by decide +kernel
theorem dX10_rows_6 : decode cX10_rows 6 = .ok (.istore 4, 2) := by decide +kernel
theorem dX10_rows_8 : decode cX10_rows 8 = .ok (.iload 4, 2) := by decide +kernel
theorem dX10_rows_10 : decode cX10_rows 10 = .ok (.ifCond .eq 7, 3) := by decide +kernel
theorem dX10_rows_13 : decode cX10_rows 13 = .ok (.iload 4, 2) := by decide +kernel
theorem dX10_rows_15 : decode cX10_rows 15 = .ok (.i2l, 1) := by decide +kernel
theorem dX10_rows_16 : decode cX10_rows 16 = .ok (.lreturn, 1) := by decide +kernel
theorem dX10_rows_17 : decode cX10_rows 17 = .ok (.iload_n 3, 1) := by decide +kernel
theorem dX10_rows_18 : decode cX10_rows 18 = .ok (.ifCond .lt 9, 3) := by decide +kernel
theorem dX10_rows_21 : decode cX10_rows 21 = .ok (.iload_n 3, 1) := by decide +kernel
theorem dX10_rows_22 : decode cX10_rows 22 = .ok (.bipush 10, 2) := by decide +kernel
theorem dX10_rows_24 : decode cX10_rows 24 = .ok (.if_icmp .le 7, 3) := by decide +kernel
theorem dX10_rows_27 : decode cX10_rows 27 = .ok (.ldc2_w 260, 3) := by decide +kernel
theorem dX10_rows_30 : decode cX10_rows 30 = .ok (.lreturn, 1) := by decide +kernel
theorem dX10_rows_31 : decode cX10_rows 31 = .ok (.aload_n 0, 1) := by decide +kernel
theorem dX10_rows_32 : decode cX10_rows 32 = .ok (.getfield 89, 3) := by decide +kernel
theorem dX10_rows_35 : decode cX10_rows 35 = .ok (.aload_n 0, 1) := by decide +kernel
theorem dX10_rows_36 : decode cX10_rows 36 = .ok (.getfield 39, 3) := by decide +kernel
theorem dX10_rows_39 : decode cX10_rows 39 = .ok (.getfield 173, 3) := by decide +kernel
theorem dX10_rows_42 : decode cX10_rows 42 = .ok (.invokevirtual 245, 3) := by decide +kernel
theorem dX10_rows_45 : decode cX10_rows 45 = .ok (.aload_n 0, 1) := by decide +kernel
theorem dX10_rows_46 : decode cX10_rows 46 = .ok (.getfield 99, 3) := by decide +kernel
theorem dX10_rows_49 : decode cX10_rows 49 = .ok (.iload_n 3, 1) := by decide +kernel
theorem dX10_rows_50 : decode cX10_rows 50 = .ok (.invokevirtual 262, 3) := by decide +kernel
theorem dX10_rows_53 : decode cX10_rows 53 = .ok (.aload_n 0, 1) := by decide +kernel
theorem dX10_rows_54 : decode cX10_rows 54 = .ok (.getfield 99, 3) := by decide +kernel
theorem dX10_rows_57 : decode cX10_rows 57 = .ok (.aload_n 0, 1) := by decide +kernel
theorem dX10_rows_58 : decode cX10_rows 58 = .ok (.getfield 39, 3) := by decide +kernel
theorem dX10_rows_61 : decode cX10_rows 61 = .ok (.getfield 173, 3) := by decide +kernel
theorem dX10_rows_64 : decode cX10_rows 64 = .ok (.invokevirtual 265, 3) := by decide +kernel
theorem dX10_rows_67 : decode cX10_rows 67 = .ok (.aload_n 0, 1) := by decide +kernel
theorem dX10_rows_68 : decode cX10_rows 68 = .ok (.getfield 99, 3) := by decide +kernel
theorem dX10_rows_71 : decode cX10_rows 71 = .ok (.iload_n 1, 1) := by decide +kernel
theorem dX10_rows_72 : decode cX10_rows 72 = .ok (.iload_n 2, 1) := by decide +kernel
theorem dX10_rows_73 : decode cX10_rows 73 = .ok (.invokevirtual 268, 3) := by decide +kernel
theorem dX10_rows_76 : decode cX10_rows 76 = .ok (.lreturn, 1) := by decide +kernel
theorem dX10_highest_0 : decode cX10_highest 0 = .ok (.aload_n 0, 1) := by decide +kernel
theorem dX10_highest_1 : decode cX10_highest 1 = .ok (.getfield 20, 3) := by decide +kernel
theorem dX10_highest_4 : decode cX10_highest 4 = .ok (.iload_n 1, 1) := by decide +kernel
theorem dX10_highest_5 : decode cX10_highest 5 = .ok (.invokevirtual 254, 3) := by decide +kernel
theorem dX10_highest_8 : decode cX10_highest 8 = .ok (.ifCond .ne 6, 3) := by decide +kernel
theorem dX10_highest_11 : decode cX10_highest 11 = .ok (.bipush (-3), 2) := by decide +kernel
theorem dX10_highest_13 : decode cX10_highest 13 = .ok (.ireturn, 1) := by decide +kernel
theorem dX10_highest_14 : decode cX10_highest 14 = .ok (.aload_n 0, 1) := by decide +kernel
theorem dX10_highest_15 : decode cX10_highest 15 = .ok (.getfield 89, 3) := by decide +kernel
theorem dX10_highest_18 : decode cX10_highest 18 = .ok (.aload_n 0, 1) := by decide +kernel
theorem dX10_highest_19 : decode cX10_highest 19 = .ok (.getfield 39, 3) := by decide +kernel
theorem dX10_highest_22 : decode cX10_highest 22 = .ok (.getfield 173, 3) := by decide +kernel
theorem dX10_highest_25 : decode cX10_highest 25 = .ok (.invokevirtual 245, 3) := by decide +kernel
theorem dX10_highest_28 : decode cX10_highest 28 = .ok (.aload_n 0, 1) := by decide +kernel
theorem dX10_highest_29 : decode cX10_highest 29 = .ok (.getfield 89, 3) := by decide +kernel
theorem dX10_highest_32 : decode cX10_highest 32 = .ok (.iload_n 1, 1) := by decide +kernel
theorem dX10_highest_33 : decode cX10_highest 33 = .ok (.invokevirtual 272, 3) := by decide +kernel
theorem dX10_highest_36 : decode cX10_highest 36 = .ok (.ireturn, 1) := by decide +kernel
theorem dX10_most_0 : decode cX10_most 0 = .ok (.aload_n 0, 1) := by decide +kernel
theorem dX10_most_1 : decode cX10_most 1 = .ok (.getfield 20, 3) := by decide +kernel
theorem dX10_most_4 : decode cX10_most 4 = .ok (.iload_n 1, 1) := by decide +kernel
theorem dX10_most_5 : decode cX10_most 5 = .ok (.invokevirtual 160, 3) := by decide +kernel
theorem dX10_most_8 : decode cX10_most 8 = .ok (.ifCond .eq 12, 3) := by decide +kernel
theorem dX10_most_11 : decode cX10_most 11 = .ok (.iload_n 2, 1) := by decide +kernel
theorem dX10_most_12 : decode cX10_most 12 = .ok (.ifCond .lt 8, 3) := by decide +kernel
theorem dX10_most_15 : decode cX10_most 15 = .ok (.iload_n 2, 1) := by decide +kernel
theorem dX10_most_16 : decode cX10_most 16 = .ok (.iconst 1, 1) := by decide +kernel
theorem dX10_most_17 : decode cX10_most 17 = .ok (.if_icmp .le 6, 3) := by decide +kernel
theorem dX10_most_20 : decode cX10_most 20 = .ok (.bipush (-2), 2) := by decide +kernel
theorem dX10_most_22 : decode cX10_most 22 = .ok (.ireturn, 1) := by decide +kernel
theorem dX10_most_23 : decode cX10_most 23 = .ok (.aload_n 0, 1) := by decide +kernel
theorem dX10_most_24 : decode cX10_most 24 = .ok (.getfield 89, 3) := by decide +kernel
theorem dX10_most_27 : decode cX10_most 27 = .ok (.aload_n 0, 1) := by decide +kernel
theorem dX10_most_28 : decode cX10_most 28 = .ok (.getfield 39, 3) := by decide +kernel
theorem dX10_most_31 : decode cX10_most 31 = .ok (.getfield 173, 3) := by decide +kernel
theorem dX10_most_34 : decode cX10_most 34 = .ok (.invokevirtual 245, 3) := by decide +kernel
theorem dX10_most_37 : decode cX10_most 37 = .ok (.aload_n 0, 1) := by decide +kernel
theorem dX10_most_38 : decode cX10_most 38 = .ok (.getfield 89, 3) := by decide +kernel
theorem dX10_most_41 : decode cX10_most 41 = .ok (.iload_n 1, 1) := by decide +kernel
theorem dX10_most_42 : decode cX10_most 42 = .ok (.invokevirtual 275, 3) := by decide +kernel
theorem dX10_most_45 : decode cX10_most 45 = .ok (.istore_n 3, 1) := by decide +kernel
theorem dX10_most_46 : decode cX10_most 46 = .ok (.iload_n 3, 1) := by decide +kernel
theorem dX10_most_47 : decode cX10_most 47 = .ok (.iconst (-1), 1) := by decide +kernel
theorem dX10_most_48 : decode cX10_most 48 = .ok (.if_icmp .eq 8, 3) := by decide +kernel
theorem dX10_most_51 : decode cX10_most 51 = .ok (.iload_n 2, 1) := by decide +kernel
theorem dX10_most_52 : decode cX10_most 52 = .ok (.iconst 1, 1) := by decide +kernel
theorem dX10_most_53 : decode cX10_most 53 = .ok (.if_icmp .ne 7, 3) := by decide +kernel
theorem dX10_most_56 : decode cX10_most 56 = .ok (.iload_n 3, 1) := by decide +kernel
theorem dX10_most_57 : decode cX10_most 57 = .ok (.goto 7, 3) := by decide +kernel
theorem dX10_most_60 : decode cX10_most 60 = .ok (.iload_n 3, 1) := by decide +kernel
theorem dX10_most_61 : decode cX10_most 61 = .ok (.invokestatic 278, 3) := by decide +kernel
theorem dX10_most_64 : decode cX10_most 64 = .ok (.ireturn, 1) := by decide +kernel
theorem dX10_loses_0 : decode cX10_loses 0 = .ok (.aload_n 0, 1) := by decide +kernel
theorem dX10_loses_1 : decode cX10_loses 1 = .ok (.getfield 20, 3) := by decide +kernel
theorem dX10_loses_4 : decode cX10_loses 4 = .ok (.iload_n 1, 1) := by decide +kernel
theorem dX10_loses_5 : decode cX10_loses 5 = .ok (.invokevirtual 160, 3) := by decide +kernel
theorem dX10_loses_8 : decode cX10_loses 8 = .ok (.ifCond .ne 6, 3) := by decide +kernel
theorem dX10_loses_11 : decode cX10_loses 11 = .ok (.bipush (-2), 2) := by decide +kernel
theorem dX10_loses_13 : decode cX10_loses 13 = .ok (.ireturn, 1) := by decide +kernel
theorem dX10_loses_14 : decode cX10_loses 14 = .ok (.aload_n 0, 1) := by decide +kernel
theorem dX10_loses_15 : decode cX10_loses 15 = .ok (.getfield 89, 3) := by decide +kernel
theorem dX10_loses_18 : decode cX10_loses 18 = .ok (.aload_n 0, 1) := by decide +kernel
theorem dX10_loses_19 : decode cX10_loses 19 = .ok (.getfield 39, 3) := by decide +kernel
theorem dX10_loses_22 : decode cX10_loses 22 = .ok (.getfield 173, 3) := by decide +kernel
theorem dX10_loses_25 : decode cX10_loses 25 = .ok (.invokevirtual 245, 3) := by decide +kernel
theorem dX10_loses_28 : decode cX10_loses 28 = .ok (.aload_n 0, 1) := by decide +kernel
theorem dX10_loses_29 : decode cX10_loses 29 = .ok (.getfield 89, 3) := by decide +kernel
theorem dX10_loses_32 : decode cX10_loses 32 = .ok (.iload_n 1, 1) := by decide +kernel
theorem dX10_loses_33 : decode cX10_loses 33 = .ok (.invokevirtual 283, 3) := by decide +kernel
theorem dX10_loses_36 : decode cX10_loses 36 = .ok (.istore_n 2, 1) := by decide +kernel
theorem dX10_loses_37 : decode cX10_loses 37 = .ok (.iload_n 2, 1) := by decide +kernel
theorem dX10_loses_38 : decode cX10_loses 38 = .ok (.iconst (-1), 1) := by decide +kernel
theorem dX10_loses_39 : decode cX10_loses 39 = .ok (.if_icmp .ne 7, 3) := by decide +kernel
theorem dX10_loses_42 : decode cX10_loses 42 = .ok (.iconst 0, 1) := by decide +kernel
theorem dX10_loses_43 : decode cX10_loses 43 = .ok (.goto 17, 3) := by decide +kernel
theorem dX10_loses_46 : decode cX10_loses 46 = .ok (.aload_n 0, 1) := by decide +kernel
theorem dX10_loses_47 : decode cX10_loses 47 = .ok (.getfield 39, 3) := by decide +kernel
theorem dX10_loses_50 : decode cX10_loses 50 = .ok (.getfield 173, 3) := by decide +kernel
theorem dX10_loses_53 : decode cX10_loses 53 = .ok (.invokestatic 187, 3) := by decide +kernel
theorem dX10_loses_56 : decode cX10_loses 56 = .ok (.iload_n 2, 1) := by decide +kernel
theorem dX10_loses_57 : decode cX10_loses 57 = .ok (.iconst (-1), 1) := by decide +kernel
theorem dX10_loses_58 : decode cX10_loses 58 = .ok (.ixor, 1) := by decide +kernel
theorem dX10_loses_59 : decode cX10_loses 59 = .ok (.iand, 1) := by decide +kernel
theorem dX10_loses_60 : decode cX10_loses 60 = .ok (.ireturn, 1) := by decide +kernel
theorem dX10_stands_0 : decode cX10_stands 0 = .ok (.aload_n 0, 1) := by decide +kernel
theorem dX10_stands_1 : decode cX10_stands 1 = .ok (.getfield 89, 3) := by decide +kernel
theorem dX10_stands_4 : decode cX10_stands 4 = .ok (.aload_n 0, 1) := by decide +kernel
theorem dX10_stands_5 : decode cX10_stands 5 = .ok (.getfield 39, 3) := by decide +kernel
theorem dX10_stands_8 : decode cX10_stands 8 = .ok (.getfield 173, 3) := by decide +kernel
theorem dX10_stands_11 : decode cX10_stands 11 = .ok (.invokevirtual 245, 3) := by decide +kernel
theorem dX10_stands_14 : decode cX10_stands 14 = .ok (.aload_n 0, 1) := by decide +kernel
theorem dX10_stands_15 : decode cX10_stands 15 = .ok (.getfield 89, 3) := by decide +kernel
theorem dX10_stands_18 : decode cX10_stands 18 = .ok (.getfield 286, 3) := by decide +kernel
theorem dX10_stands_21 : decode cX10_stands 21 = .ok (.ireturn, 1) := by decide +kernel
theorem dX10_lands_0 : decode cX10_lands 0 = .ok (.aload_n 0, 1) := by decide +kernel
theorem dX10_lands_1 : decode cX10_lands 1 = .ok (.getfield 20, 3) := by decide +kernel
theorem dX10_lands_4 : decode cX10_lands 4 = .ok (.iload_n 1, 1) := by decide +kernel
theorem dX10_lands_5 : decode cX10_lands 5 = .ok (.invokevirtual 160, 3) := by decide +kernel
theorem dX10_lands_8 : decode cX10_lands 8 = .ok (.ifCond .eq 14, 3) := by decide +kernel
theorem dX10_lands_11 : decode cX10_lands 11 = .ok (.aload_n 0, 1) := by decide +kernel
theorem dX10_lands_12 : decode cX10_lands 12 = .ok (.getfield 20, 3) := by decide +kernel
theorem dX10_lands_15 : decode cX10_lands 15 = .ok (.iload_n 2, 1) := by decide +kernel
theorem dX10_lands_16 : decode cX10_lands 16 = .ok (.invokevirtual 287, 3) := by decide +kernel
theorem dX10_lands_19 : decode cX10_lands 19 = .ok (.ifCond .ne 6, 3) := by decide +kernel
theorem dX10_lands_22 : decode cX10_lands 22 = .ok (.bipush (-2), 2) := by decide +kernel
theorem dX10_lands_24 : decode cX10_lands 24 = .ok (.ireturn, 1) := by decide +kernel
theorem dX10_lands_25 : decode cX10_lands 25 = .ok (.iload_n 1, 1) := by decide +kernel
theorem dX10_lands_26 : decode cX10_lands 26 = .ok (.iconst 1, 1) := by decide +kernel
theorem dX10_lands_27 : decode cX10_lands 27 = .ok (.isub, 1) := by decide +kernel
theorem dX10_lands_28 : decode cX10_lands 28 = .ok (.istore_n 3, 1) := by decide +kernel
theorem dX10_lands_29 : decode cX10_lands 29 = .ok (.iload_n 3, 1) := by decide +kernel
theorem dX10_lands_30 : decode cX10_lands 30 = .ok (.ifCond .lt 21, 3) := by decide +kernel
theorem dX10_lands_33 : decode cX10_lands 33 = .ok (.aload_n 0, 1) := by decide +kernel
theorem dX10_lands_34 : decode cX10_lands 34 = .ok (.getfield 20, 3) := by decide +kernel
theorem dX10_lands_37 : decode cX10_lands 37 = .ok (.iload_n 3, 1) := by decide +kernel
theorem dX10_lands_38 : decode cX10_lands 38 = .ok (.iload_n 2, 1) := by decide +kernel
theorem dX10_lands_39 : decode cX10_lands 39 = .ok (.invokevirtual 290, 3) := by decide +kernel
theorem dX10_lands_42 : decode cX10_lands 42 = .ok (.ifCond .ne 9, 3) := by decide +kernel
theorem dX10_lands_45 : decode cX10_lands 45 = .ok (.iinc 3 (-1), 3) := by decide +kernel
theorem dX10_lands_48 : decode cX10_lands 48 = .ok (.goto (-19), 3) := by decide +kernel
theorem dX10_lands_51 : decode cX10_lands 51 = .ok (.iload_n 3, 1) := by decide +kernel
theorem dX10_lands_52 : decode cX10_lands 52 = .ok (.ifCond .lt 7, 3) := by decide +kernel
theorem dX10_lands_55 : decode cX10_lands 55 = .ok (.iload_n 3, 1) := by decide +kernel
theorem dX10_lands_56 : decode cX10_lands 56 = .ok (.goto 4, 3) := by decide +kernel
theorem dX10_lands_59 : decode cX10_lands 59 = .ok (.iconst (-1), 1) := by decide +kernel
theorem dX10_lands_60 : decode cX10_lands 60 = .ok (.ireturn, 1) := by decide +kernel
theorem dX10_shares_0 : decode cX10_shares 0 = .ok (.aload_n 0, 1) := by decide +kernel
theorem dX10_shares_1 : decode cX10_shares 1 = .ok (.getfield 20, 3) := by decide +kernel
theorem dX10_shares_4 : decode cX10_shares 4 = .ok (.iload_n 1, 1) := by decide +kernel
theorem dX10_shares_5 : decode cX10_shares 5 = .ok (.invokevirtual 160, 3) := by decide +kernel
theorem dX10_shares_8 : decode cX10_shares 8 = .ok (.ifCond .eq 15, 3) := by decide +kernel
theorem dX10_shares_11 : decode cX10_shares 11 = .ok (.iload_n 3, 1) := by decide +kernel
theorem dX10_shares_12 : decode cX10_shares 12 = .ok (.ifCond .eq 14, 3) := by decide +kernel
theorem dX10_shares_15 : decode cX10_shares 15 = .ok (.aload_n 0, 1) := by decide +kernel
theorem dX10_shares_16 : decode cX10_shares 16 = .ok (.iload_n 3, 1) := by decide +kernel
theorem dX10_shares_17 : decode cX10_shares 17 = .ok (.invokevirtual 294, 3) := by decide +kernel
theorem dX10_shares_20 : decode cX10_shares 20 = .ok (.ifCond .ne 6, 3) := by decide +kernel
theorem dX10_shares_23 : decode cX10_shares 23 = .ok (.bipush (-2), 2) := by decide +kernel
theorem dX10_shares_25 : decode cX10_shares 25 = .ok (.ireturn, 1) := by decide +kernel
theorem dX10_shares_26 : decode cX10_shares 26 = .ok (.aload_n 0, 1) := by decide +kernel
theorem dX10_shares_27 : decode cX10_shares 27 = .ok (.getfield 20, 3) := by decide +kernel
theorem dX10_shares_30 : decode cX10_shares 30 = .ok (.iload_n 2, 1) := by decide +kernel
theorem dX10_shares_31 : decode cX10_shares 31 = .ok (.invokevirtual 254, 3) := by decide +kernel
theorem dX10_shares_34 : decode cX10_shares 34 = .ok (.ifCond .ne 6, 3) := by decide +kernel
theorem dX10_shares_37 : decode cX10_shares 37 = .ok (.bipush (-3), 2) := by decide +kernel
theorem dX10_shares_39 : decode cX10_shares 39 = .ok (.ireturn, 1) := by decide +kernel
theorem dX10_shares_40 : decode cX10_shares 40 = .ok (.aload_n 0, 1) := by decide +kernel
theorem dX10_shares_41 : decode cX10_shares 41 = .ok (.getfield 117, 3) := by decide +kernel
theorem dX10_shares_44 : decode cX10_shares 44 = .ok (.iload_n 1, 1) := by decide +kernel
theorem dX10_shares_45 : decode cX10_shares 45 = .ok (.iload_n 2, 1) := by decide +kernel
theorem dX10_shares_46 : decode cX10_shares 46 = .ok (.invokevirtual 297, 3) := by decide +kernel
theorem dX10_shares_49 : decode cX10_shares 49 = .ok (.iload_n 3, 1) := by decide +kernel
theorem dX10_shares_50 : decode cX10_shares 50 = .ok (.ifCond .ne 13, 3) := by decide +kernel
theorem dX10_shares_53 : decode cX10_shares 53 = .ok (.aload_n 0, 1) := by decide +kernel
theorem dX10_shares_54 : decode cX10_shares 54 = .ok (.getfield 117, 3) := by decide +kernel
theorem dX10_shares_57 : decode cX10_shares 57 = .ok (.invokevirtual 301, 3) := by decide +kernel
theorem dX10_shares_60 : decode cX10_shares 60 = .ok (.goto 15, 3) := by decide +kernel
theorem dX10_shares_63 : decode cX10_shares 63 = .ok (.aload_n 0, 1) := by decide +kernel
theorem dX10_shares_64 : decode cX10_shares 64 = .ok (.getfield 117, 3) := by decide +kernel
theorem dX10_shares_67 : decode cX10_shares 67 = .ok (.iload_n 2, 1) := by decide +kernel
theorem dX10_shares_68 : decode cX10_shares 68 = .ok (.iload_n 3, 1) := by decide +kernel
theorem dX10_shares_69 : decode cX10_shares 69 = .ok (.bipush 10, 2) := by decide +kernel
theorem dX10_shares_71 : decode cX10_shares 71 = .ok (.isub, 1) := by decide +kernel
theorem dX10_shares_72 : decode cX10_shares 72 = .ok (.invokevirtual 305, 3) := by decide +kernel
theorem dX10_shares_75 : decode cX10_shares 75 = .ok (.ireturn, 1) := by decide +kernel
theorem dX10_isTenAndThing_0 : decode cX10_isTenAndThing 0 = .ok (.iload_n 1, 1) := by decide +kernel
theorem dX10_isTenAndThing_1 : decode cX10_isTenAndThing 1 = .ok (.bipush 10, 2) := by decide +kernel
theorem dX10_isTenAndThing_3 : decode cX10_isTenAndThing 3 = .ok (.if_icmp .lt 21, 3) := by decide +kernel
theorem dX10_isTenAndThing_6 : decode cX10_isTenAndThing 6 = .ok (.aload_n 0, 1) := by decide +kernel
theorem dX10_isTenAndThing_7 : decode cX10_isTenAndThing 7 = .ok (.getfield 20, 3) := by decide +kernel
theorem dX10_isTenAndThing_10 : decode cX10_isTenAndThing 10 = .ok (.iload_n 1, 1) := by decide +kernel
theorem dX10_isTenAndThing_11 : decode cX10_isTenAndThing 11 = .ok (.bipush 10, 2) := by decide +kernel
theorem dX10_isTenAndThing_13 : decode cX10_isTenAndThing 13 = .ok (.isub, 1) := by decide +kernel
theorem dX10_isTenAndThing_14 : decode cX10_isTenAndThing 14 = .ok (.invokevirtual 287, 3) := by decide +kernel
theorem dX10_isTenAndThing_17 : decode cX10_isTenAndThing 17 = .ok (.ifCond .eq 7, 3) := by decide +kernel
theorem dX10_isTenAndThing_20 : decode cX10_isTenAndThing 20 = .ok (.iconst 1, 1) := by decide +kernel
theorem dX10_isTenAndThing_21 : decode cX10_isTenAndThing 21 = .ok (.goto 4, 3) := by decide +kernel
theorem dX10_isTenAndThing_24 : decode cX10_isTenAndThing 24 = .ok (.iconst 0, 1) := by decide +kernel
theorem dX10_isTenAndThing_25 : decode cX10_isTenAndThing 25 = .ok (.ireturn, 1) := by decide +kernel
theorem dX10_lies_0 : decode cX10_lies 0 = .ok (.iload_n 1, 1) := by decide +kernel
theorem dX10_lies_1 : decode cX10_lies 1 = .ok (.ifCond .lt 10, 3) := by decide +kernel
theorem dX10_lies_4 : decode cX10_lies 4 = .ok (.iload_n 1, 1) := by decide +kernel
theorem dX10_lies_5 : decode cX10_lies 5 = .ok (.ldc_w 308, 3) := by decide +kernel
theorem dX10_lies_8 : decode cX10_lies 8 = .ok (.if_icmp .le 6, 3) := by decide +kernel
theorem dX10_lies_11 : decode cX10_lies 11 = .ok (.bipush (-3), 2) := by decide +kernel
theorem dX10_lies_13 : decode cX10_lies 13 = .ok (.ireturn, 1) := by decide +kernel
theorem dX10_lies_14 : decode cX10_lies 14 = .ok (.aload_n 0, 1) := by decide +kernel
theorem dX10_lies_15 : decode cX10_lies 15 = .ok (.getfield 39, 3) := by decide +kernel
theorem dX10_lies_18 : decode cX10_lies 18 = .ok (.getfield 173, 3) := by decide +kernel
theorem dX10_lies_21 : decode cX10_lies 21 = .ok (.istore_n 2, 1) := by decide +kernel
theorem dX10_lies_22 : decode cX10_lies 22 = .ok (.iload_n 1, 1) := by decide +kernel
theorem dX10_lies_23 : decode cX10_lies 23 = .ok (.aload_n 0, 1) := by decide +kernel
theorem dX10_lies_24 : decode cX10_lies 24 = .ok (.invokevirtual 309, 3) := by decide +kernel
theorem dX10_lies_27 : decode cX10_lies 27 = .ok (.invokestatic 312, 3) := by decide +kernel
theorem dX10_lies_30 : decode cX10_lies 30 = .ok (.istore_n 3, 1) := by decide +kernel
theorem dX10_lies_31 : decode cX10_lies 31 = .ok (.iconst 0, 1) := by decide +kernel
theorem dX10_lies_32 : decode cX10_lies 32 = .ok (.istore 4, 2) := by decide +kernel
theorem dX10_lies_34 : decode cX10_lies 34 = .ok (.iload 4, 2) := by decide +kernel
theorem dX10_lies_36 : decode cX10_lies 36 = .ok (.iload_n 3, 1) := by decide +kernel
theorem dX10_lies_37 : decode cX10_lies 37 = .ok (.if_icmp .ge 18, 3) := by decide +kernel
theorem dX10_lies_40 : decode cX10_lies 40 = .ok (.aload_n 0, 1) := by decide +kernel
theorem dX10_lies_41 : decode cX10_lies 41 = .ok (.getfield 80, 3) := by decide +kernel
theorem dX10_lies_44 : decode cX10_lies 44 = .ok (.iload_n 2, 1) := by decide +kernel
theorem dX10_lies_45 : decode cX10_lies 45 = .ok (.invokevirtual 317, 3) := by decide +kernel
theorem dX10_lies_48 : decode cX10_lies 48 = .ok (.istore_n 2, 1) := by decide +kernel
theorem dX10_lies_49 : decode cX10_lies 49 = .ok (.iinc 4 1, 3) := by decide +kernel
theorem dX10_lies_52 : decode cX10_lies 52 = .ok (.goto (-18), 3) := by decide +kernel
theorem dX10_lies_55 : decode cX10_lies 55 = .ok (.iload_n 2, 1) := by decide +kernel
theorem dX10_lies_56 : decode cX10_lies 56 = .ok (.invokestatic 183, 3) := by decide +kernel
theorem dX10_lies_59 : decode cX10_lies 59 = .ok (.ireturn, 1) := by decide +kernel
theorem dX10_timesTillSettled_0 : decode cX10_timesTillSettled 0 = .ok (.aload_n 0, 1) := by decide +kernel
theorem dX10_timesTillSettled_1 : decode cX10_timesTillSettled 1 = .ok (.getfield 39, 3) := by decide +kernel
theorem dX10_timesTillSettled_4 : decode cX10_timesTillSettled 4 = .ok (.getfield 173, 3) := by decide +kernel
theorem dX10_timesTillSettled_7 : decode cX10_timesTillSettled 7 = .ok (.istore_n 1, 1) := by decide +kernel
theorem dX10_timesTillSettled_8 : decode cX10_timesTillSettled 8 = .ok (.iconst 0, 1) := by decide +kernel
theorem dX10_timesTillSettled_9 : decode cX10_timesTillSettled 9 = .ok (.istore_n 2, 1) := by decide +kernel
theorem dX10_timesTillSettled_10 : decode cX10_timesTillSettled 10 = .ok (.iload_n 2, 1) := by decide +kernel
theorem dX10_timesTillSettled_11 : decode cX10_timesTillSettled 11 = .ok (.sipush 2880, 3) := by decide +kernel
theorem dX10_timesTillSettled_14 : decode cX10_timesTillSettled 14 = .ok (.if_icmp .ge 27, 3) := by decide +kernel
theorem dX10_timesTillSettled_17 : decode cX10_timesTillSettled 17 = .ok (.aload_n 0, 1) := by decide +kernel
theorem dX10_timesTillSettled_18 : decode cX10_timesTillSettled 18 = .ok (.getfield 80, 3) := by decide +kernel
theorem dX10_timesTillSettled_21 : decode cX10_timesTillSettled 21 = .ok (.iload_n 1, 1) := by decide +kernel
theorem dX10_timesTillSettled_22 : decode cX10_timesTillSettled 22 = .ok (.invokevirtual 317, 3) := by decide +kernel
theorem dX10_timesTillSettled_25 : decode cX10_timesTillSettled 25 = .ok (.istore_n 3, 1) := by decide +kernel
theorem dX10_timesTillSettled_26 : decode cX10_timesTillSettled 26 = .ok (.iload_n 3, 1) := by decide +kernel
theorem dX10_timesTillSettled_27 : decode cX10_timesTillSettled 27 = .ok (.iload_n 1, 1) := by decide +kernel
theorem dX10_timesTillSettled_28 : decode cX10_timesTillSettled 28 = .ok (.if_icmp .ne 5, 3) := by decide +kernel
theorem dX10_timesTillSettled_31 : decode cX10_timesTillSettled 31 = .ok (.iload_n 2, 1) := by decide +kernel
theorem dX10_timesTillSettled_32 : decode cX10_timesTillSettled 32 = .ok (.ireturn, 1) := by decide +kernel
theorem dX10_timesTillSettled_33 : decode cX10_timesTillSettled 33 = .ok (.iload_n 3, 1) := by decide +kernel
theorem dX10_timesTillSettled_34 : decode cX10_timesTillSettled 34 = .ok (.istore_n 1, 1) := by decide +kernel
theorem dX10_timesTillSettled_35 : decode cX10_timesTillSettled 35 = .ok (.iinc 2 1, 3) := by decide +kernel
theorem dX10_timesTillSettled_38 : decode cX10_timesTillSettled 38 = .ok (.goto (-28), 3) := by decide +kernel
theorem dX10_timesTillSettled_41 : decode cX10_timesTillSettled 41 = .ok (.sipush 2880, 3) := by decide +kernel
theorem dX10_timesTillSettled_44 : decode cX10_timesTillSettled 44 = .ok (.ireturn, 1) := by decide +kernel
theorem dX10_round_0 : decode cX10_round 0 = .ok (.iload_n 1, 1) := by decide +kernel
theorem dX10_round_1 : decode cX10_round 1 = .ok (.ifCond .ne 8, 3) := by decide +kernel
theorem dX10_round_4 : decode cX10_round 4 = .ok (.aload_n 0, 1) := by decide +kernel
theorem dX10_round_5 : decode cX10_round 5 = .ok (.invokevirtual 309, 3) := by decide +kernel
theorem dX10_round_8 : decode cX10_round 8 = .ok (.ireturn, 1) := by decide +kernel
theorem dX10_round_9 : decode cX10_round 9 = .ok (.iload_n 1, 1) := by decide +kernel
theorem dX10_round_10 : decode cX10_round 10 = .ok (.iconst 1, 1) := by decide +kernel
theorem dX10_round_11 : decode cX10_round 11 = .ok (.if_icmp .ne 7, 3) := by decide +kernel
theorem dX10_round_14 : decode cX10_round 14 = .ok (.iconst 1, 1) := by decide +kernel
theorem dX10_round_15 : decode cX10_round 15 = .ok (.goto 5, 3) := by decide +kernel
theorem dX10_round_18 : decode cX10_round 18 = .ok (.bipush (-2), 2) := by decide +kernel
theorem dX10_round_20 : decode cX10_round 20 = .ok (.ireturn, 1) := by decide +kernel
theorem dX10_when_0 : decode cX10_when 0 = .ok (.aload_n 0, 1) := by decide +kernel
theorem dX10_when_1 : decode cX10_when 1 = .ok (.getfield 20, 3) := by decide +kernel
theorem dX10_when_4 : decode cX10_when 4 = .ok (.iload_n 1, 1) := by decide +kernel
theorem dX10_when_5 : decode cX10_when 5 = .ok (.invokevirtual 160, 3) := by decide +kernel
theorem dX10_when_8 : decode cX10_when 8 = .ok (.ifCond .ne 6, 3) := by decide +kernel
theorem dX10_when_11 : decode cX10_when 11 = .ok (.bipush (-2), 2) := by decide +kernel
theorem dX10_when_13 : decode cX10_when 13 = .ok (.ireturn, 1) := by decide +kernel
theorem dX10_when_14 : decode cX10_when 14 = .ok (.aload_n 0, 1) := by decide +kernel
theorem dX10_when_15 : decode cX10_when 15 = .ok (.getfield 39, 3) := by decide +kernel
theorem dX10_when_18 : decode cX10_when 18 = .ok (.getfield 173, 3) := by decide +kernel
theorem dX10_when_21 : decode cX10_when 21 = .ok (.istore_n 2, 1) := by decide +kernel
theorem dX10_when_22 : decode cX10_when 22 = .ok (.aload_n 0, 1) := by decide +kernel
theorem dX10_when_23 : decode cX10_when 23 = .ok (.invokevirtual 309, 3) := by decide +kernel
theorem dX10_when_26 : decode cX10_when 26 = .ok (.istore_n 3, 1) := by decide +kernel
theorem dX10_when_27 : decode cX10_when 27 = .ok (.iconst 0, 1) := by decide +kernel
theorem dX10_when_28 : decode cX10_when 28 = .ok (.istore 4, 2) := by decide +kernel
theorem dX10_when_30 : decode cX10_when 30 = .ok (.iload 4, 2) := by decide +kernel
theorem dX10_when_32 : decode cX10_when 32 = .ok (.iload_n 3, 1) := by decide +kernel
theorem dX10_when_33 : decode cX10_when 33 = .ok (.if_icmp .gt 29, 3) := by decide +kernel
theorem dX10_when_36 : decode cX10_when 36 = .ok (.iload_n 2, 1) := by decide +kernel
theorem dX10_when_37 : decode cX10_when 37 = .ok (.invokestatic 183, 3) := by decide +kernel
theorem dX10_when_40 : decode cX10_when 40 = .ok (.iload_n 1, 1) := by decide +kernel
theorem dX10_when_41 : decode cX10_when 41 = .ok (.if_icmp .ne 6, 3) := by decide +kernel
theorem dX10_when_44 : decode cX10_when 44 = .ok (.iload 4, 2) := by decide +kernel
theorem dX10_when_46 : decode cX10_when 46 = .ok (.ireturn, 1) := by decide +kernel
theorem dX10_when_47 : decode cX10_when 47 = .ok (.aload_n 0, 1) := by decide +kernel
theorem dX10_when_48 : decode cX10_when 48 = .ok (.getfield 80, 3) := by decide +kernel
theorem dX10_when_51 : decode cX10_when 51 = .ok (.iload_n 2, 1) := by decide +kernel
theorem dX10_when_52 : decode cX10_when 52 = .ok (.invokevirtual 317, 3) := by decide +kernel
theorem dX10_when_55 : decode cX10_when 55 = .ok (.istore_n 2, 1) := by decide +kernel
theorem dX10_when_56 : decode cX10_when 56 = .ok (.iinc 4 1, 3) := by decide +kernel
theorem dX10_when_59 : decode cX10_when 59 = .ok (.goto (-29), 3) := by decide +kernel
theorem dX10_when_62 : decode cX10_when 62 = .ok (.iconst (-1), 1) := by decide +kernel
theorem dX10_when_63 : decode cX10_when 63 = .ok (.ireturn, 1) := by decide +kernel
theorem dX10_seen_0 : decode cX10_seen 0 = .ok (.aload_n 0, 1) := by decide +kernel
theorem dX10_seen_1 : decode cX10_seen 1 = .ok (.iload_n 1, 1) := by decide +kernel
theorem dX10_seen_2 : decode cX10_seen 2 = .ok (.invokevirtual 320, 3) := by decide +kernel
theorem dX10_seen_5 : decode cX10_seen 5 = .ok (.istore_n 2, 1) := by decide +kernel
theorem dX10_seen_6 : decode cX10_seen 6 = .ok (.iload_n 2, 1) := by decide +kernel
theorem dX10_seen_7 : decode cX10_seen 7 = .ok (.ifCond .eq 8, 3) := by decide +kernel
theorem dX10_seen_10 : decode cX10_seen 10 = .ok (.iload_n 2, 1) := by decide +kernel
theorem dX10_seen_11 : decode cX10_seen 11 = .ok (.i2l, 1) := by decide +kernel
theorem dX10_seen_12 : decode cX10_seen 12 = .ok (.goto 12, 3) := by decide +kernel
theorem dX10_seen_15 : decode cX10_seen 15 = .ok (.aload_n 0, 1) := by decide +kernel
theorem dX10_seen_16 : decode cX10_seen 16 = .ok (.getfield 99, 3) := by decide +kernel
theorem dX10_seen_19 : decode cX10_seen 19 = .ok (.iconst (-1), 1) := by decide +kernel
theorem dX10_seen_20 : decode cX10_seen 20 = .ok (.iconst 0, 1) := by decide +kernel
theorem dX10_seen_21 : decode cX10_seen 21 = .ok (.invokevirtual 268, 3) := by decide +kernel
theorem dX10_seen_24 : decode cX10_seen 24 = .ok (.lreturn, 1) := by decide +kernel
theorem dX10_seenBy_0 : decode cX10_seenBy 0 = .ok (.aload_n 0, 1) := by decide +kernel
theorem dX10_seenBy_1 : decode cX10_seenBy 1 = .ok (.iload_n 1, 1) := by decide +kernel
theorem dX10_seenBy_2 : decode cX10_seenBy 2 = .ok (.invokevirtual 320, 3) := by decide +kernel
theorem dX10_seenBy_5 : decode cX10_seenBy 5 = .ok (.istore_n 3, 1) := by decide +kernel
theorem dX10_seenBy_6 : decode cX10_seenBy 6 = .ok (.iload_n 3, 1) := by decide +kernel
theorem dX10_seenBy_7 : decode cX10_seenBy 7 = .ok (.ifCond .eq 5, 3) := by decide +kernel
theorem dX10_seenBy_10 : decode cX10_seenBy 10 = .ok (.iload_n 3, 1) := by decide +kernel
theorem dX10_seenBy_11 : decode cX10_seenBy 11 = .ok (.ireturn, 1) := by decide +kernel
theorem dX10_seenBy_12 : decode cX10_seenBy 12 = .ok (.iload_n 2, 1) := by decide +kernel
theorem dX10_seenBy_13 : decode cX10_seenBy 13 = .ok (.ifCond .ge 8, 3) := by decide +kernel
theorem dX10_seenBy_16 : decode cX10_seenBy 16 = .ok (.bipush (-3), 2) := by decide +kernel
theorem dX10_seenBy_18 : decode cX10_seenBy 18 = .ok (.goto 18, 3) := by decide +kernel
theorem dX10_seenBy_21 : decode cX10_seenBy 21 = .ok (.aload_n 0, 1) := by decide +kernel
theorem dX10_seenBy_22 : decode cX10_seenBy 22 = .ok (.getfield 99, 3) := by decide +kernel
theorem dX10_seenBy_25 : decode cX10_seenBy 25 = .ok (.aload_n 0, 1) := by decide +kernel
theorem dX10_seenBy_26 : decode cX10_seenBy 26 = .ok (.getfield 39, 3) := by decide +kernel
theorem dX10_seenBy_29 : decode cX10_seenBy 29 = .ok (.getfield 173, 3) := by decide +kernel
theorem dX10_seenBy_32 : decode cX10_seenBy 32 = .ok (.iload_n 2, 1) := by decide +kernel
theorem dX10_seenBy_33 : decode cX10_seenBy 33 = .ok (.invokevirtual 323, 3) := by decide +kernel
theorem dX10_seenBy_36 : decode cX10_seenBy 36 = .ok (.ireturn, 1) := by decide +kernel
theorem dX10_surely_0 : decode cX10_surely 0 = .ok (.aload_n 0, 1) := by decide +kernel
theorem dX10_surely_1 : decode cX10_surely 1 = .ok (.iload_n 1, 1) := by decide +kernel
theorem dX10_surely_2 : decode cX10_surely 2 = .ok (.invokevirtual 320, 3) := by decide +kernel
theorem dX10_surely_5 : decode cX10_surely 5 = .ok (.istore_n 2, 1) := by decide +kernel
theorem dX10_surely_6 : decode cX10_surely 6 = .ok (.iload_n 2, 1) := by decide +kernel
theorem dX10_surely_7 : decode cX10_surely 7 = .ok (.ifCond .eq 7, 3) := by decide +kernel
theorem dX10_surely_10 : decode cX10_surely 10 = .ok (.iload_n 2, 1) := by decide +kernel
theorem dX10_surely_11 : decode cX10_surely 11 = .ok (.goto 10, 3) := by decide +kernel
theorem dX10_surely_14 : decode cX10_surely 14 = .ok (.aload_n 0, 1) := by decide +kernel
theorem dX10_surely_15 : decode cX10_surely 15 = .ok (.getfield 99, 3) := by decide +kernel
theorem dX10_surely_18 : decode cX10_surely 18 = .ok (.invokevirtual 326, 3) := by decide +kernel
theorem dX10_surely_21 : decode cX10_surely 21 = .ok (.ireturn, 1) := by decide +kernel
theorem dX10_tallySeen_0 : decode cX10_tallySeen 0 = .ok (.aload_n 0, 1) := by decide +kernel
theorem dX10_tallySeen_1 : decode cX10_tallySeen 1 = .ok (.iload_n 1, 1) := by decide +kernel
theorem dX10_tallySeen_2 : decode cX10_tallySeen 2 = .ok (.bipush 6, 2) := by decide +kernel
theorem dX10_tallySeen_4 : decode cX10_tallySeen 4 = .ok (.iconst (-1), 1) := by decide +kernel
theorem dX10_tallySeen_5 : decode cX10_tallySeen 5 = .ok (.bipush 6, 2) := by decide +kernel
theorem dX10_tallySeen_7 : decode cX10_tallySeen 7 = .ok (.invokevirtual 329, 3) := by decide +kernel
theorem dX10_tallySeen_10 : decode cX10_tallySeen 10 = .ok (.istore_n 2, 1) := by decide +kernel
theorem dX10_tallySeen_11 : decode cX10_tallySeen 11 = .ok (.iload_n 2, 1) := by decide +kernel
theorem dX10_tallySeen_12 : decode cX10_tallySeen 12 = .ok (.ifCond .ne 44, 3) := by decide +kernel
theorem dX10_tallySeen_15 : decode cX10_tallySeen 15 = .ok (.aload_n 0, 1) := by decide +kernel
theorem dX10_tallySeen_16 : decode cX10_tallySeen 16 = .ok (.getfield 89, 3) := by decide +kernel
theorem dX10_tallySeen_19 : decode cX10_tallySeen 19 = .ok (.aload_n 0, 1) := by decide +kernel
theorem dX10_tallySeen_20 : decode cX10_tallySeen 20 = .ok (.getfield 39, 3) := by decide +kernel
theorem dX10_tallySeen_23 : decode cX10_tallySeen 23 = .ok (.getfield 173, 3) := by decide +kernel
theorem dX10_tallySeen_26 : decode cX10_tallySeen 26 = .ok (.invokevirtual 245, 3) := by decide +kernel
theorem dX10_tallySeen_29 : decode cX10_tallySeen 29 = .ok (.aload_n 0, 1) := by decide +kernel
theorem dX10_tallySeen_30 : decode cX10_tallySeen 30 = .ok (.getfield 99, 3) := by decide +kernel
theorem dX10_tallySeen_33 : decode cX10_tallySeen 33 = .ok (.aload_n 0, 1) := by decide +kernel
theorem dX10_tallySeen_34 : decode cX10_tallySeen 34 = .ok (.getfield 55, 3) := by decide +kernel
theorem dX10_tallySeen_37 : decode cX10_tallySeen 37 = .ok (.iload_n 1, 1) := by decide +kernel
theorem dX10_tallySeen_38 : decode cX10_tallySeen 38 = .ok (.aaload, 1) := by decide +kernel
theorem dX10_tallySeen_39 : decode cX10_tallySeen 39 = .ok (.invokevirtual 333, 3) := by decide +kernel
theorem dX10_tallySeen_42 : decode cX10_tallySeen 42 = .ok (.aload_n 0, 1) := by decide +kernel
theorem dX10_tallySeen_43 : decode cX10_tallySeen 43 = .ok (.getfield 99, 3) := by decide +kernel
theorem dX10_tallySeen_46 : decode cX10_tallySeen 46 = .ok (.aload_n 0, 1) := by decide +kernel
theorem dX10_tallySeen_47 : decode cX10_tallySeen 47 = .ok (.getfield 39, 3) := by decide +kernel
theorem dX10_tallySeen_50 : decode cX10_tallySeen 50 = .ok (.getfield 173, 3) := by decide +kernel
theorem dX10_tallySeen_53 : decode cX10_tallySeen 53 = .ok (.invokevirtual 265, 3) := by decide +kernel
theorem dX10_tallySeen_56 : decode cX10_tallySeen 56 = .ok (.iload_n 2, 1) := by decide +kernel
theorem dX10_tallySeen_57 : decode cX10_tallySeen 57 = .ok (.ireturn, 1) := by decide +kernel
theorem dX10_toldRefused_0 : decode cX10_toldRefused 0 = .ok (.aload_n 0, 1) := by decide +kernel
theorem dX10_toldRefused_1 : decode cX10_toldRefused 1 = .ok (.iload_n 1, 1) := by decide +kernel
theorem dX10_toldRefused_2 : decode cX10_toldRefused 2 = .ok (.invokevirtual 232, 3) := by decide +kernel
theorem dX10_toldRefused_5 : decode cX10_toldRefused 5 = .ok (.istore 5, 2) := by decide +kernel
theorem dX10_toldRefused_7 : decode cX10_toldRefused 7 = .ok (.iload 5, 2) := by decide +kernel
theorem dX10_toldRefused_9 : decode cX10_toldRefused 9 = .ok (.ifCond .eq 6, 3) := by decide +kernel
theorem dX10_toldRefused_12 : decode cX10_toldRefused 12 = .ok (.iload 5, 2) := by decide +kernel
theorem dX10_toldRefused_14 : decode cX10_toldRefused 14 = .ok (.ireturn, 1) := by decide +kernel
theorem dX10_toldRefused_15 : decode cX10_toldRefused 15 = .ok (.aload_n 0, 1) := by decide +kernel
theorem dX10_toldRefused_16 : decode cX10_toldRefused 16 = .ok (.getfield 55, 3) := by decide +kernel
theorem dX10_toldRefused_19 : decode cX10_toldRefused 19 = .ok (.iload_n 1, 1) := by decide +kernel
theorem dX10_toldRefused_20 : decode cX10_toldRefused 20 = .ok (.aaload, 1) := by decide +kernel
theorem dX10_toldRefused_21 : decode cX10_toldRefused 21 = .ok (.astore 6, 2) := by decide +kernel
theorem dX10_toldRefused_23 : decode cX10_toldRefused 23 = .ok (.aload 6, 2) := by decide +kernel
theorem dX10_toldRefused_25 : decode cX10_toldRefused 25 = .ok (.getfield 226, 3) := by decide +kernel
theorem dX10_toldRefused_28 : decode cX10_toldRefused 28 = .ok (.iconst 1, 1) := by decide +kernel
theorem dX10_toldRefused_29 : decode cX10_toldRefused 29 = .ok (.if_icmp .lt 12, 3) := by decide +kernel
theorem dX10_toldRefused_32 : decode cX10_toldRefused 32 = .ok (.aload 6, 2) := by decide +kernel
theorem dX10_toldRefused_34 : decode cX10_toldRefused 34 = .ok (.getfield 226, 3) := by decide +kernel
theorem dX10_toldRefused_37 : decode cX10_toldRefused 37 = .ok (.iload_n 2, 1) := by decide +kernel
theorem dX10_toldRefused_38 : decode cX10_toldRefused 38 = .ok (.if_icmp .le 6, 3) := by decide +kernel
theorem dX10_toldRefused_41 : decode cX10_toldRefused 41 = .ok (.bipush (-4), 2) := by decide +kernel
theorem dX10_toldRefused_43 : decode cX10_toldRefused 43 = .ok (.ireturn, 1) := by decide +kernel
theorem dX10_toldRefused_44 : decode cX10_toldRefused 44 = .ok (.iconst 0, 1) := by decide +kernel
theorem dX10_toldRefused_45 : decode cX10_toldRefused 45 = .ok (.istore 7, 2) := by decide +kernel
theorem dX10_toldRefused_47 : decode cX10_toldRefused 47 = .ok (.iload 7, 2) := by decide +kernel
theorem dX10_toldRefused_49 : decode cX10_toldRefused 49 = .ok (.aload 6, 2) := by decide +kernel
theorem dX10_toldRefused_51 : decode cX10_toldRefused 51 = .ok (.getfield 226, 3) := by decide +kernel
theorem dX10_toldRefused_54 : decode cX10_toldRefused 54 = .ok (.if_icmp .ge 41, 3) := by decide +kernel
theorem dX10_toldRefused_57 : decode cX10_toldRefused 57 = .ok (.aload 6, 2) := by decide +kernel
theorem dX10_toldRefused_59 : decode cX10_toldRefused 59 = .ok (.getfield 337, 3) := by decide +kernel
theorem dX10_toldRefused_62 : decode cX10_toldRefused 62 = .ok (.iload 7, 2) := by decide +kernel
theorem dX10_toldRefused_64 : decode cX10_toldRefused 64 = .ok (.laload, 1) := by decide +kernel
theorem dX10_toldRefused_65 : decode cX10_toldRefused 65 = .ok (.iload_n 3, 1) := by decide +kernel
theorem dX10_toldRefused_66 : decode cX10_toldRefused 66 = .ok (.i2l, 1) := by decide +kernel
theorem dX10_toldRefused_67 : decode cX10_toldRefused 67 = .ok (.lcmp, 1) := by decide +kernel
theorem dX10_toldRefused_68 : decode cX10_toldRefused 68 = .ok (.ifCond .lt 18, 3) := by decide +kernel
theorem dX10_toldRefused_71 : decode cX10_toldRefused 71 = .ok (.aload 6, 2) := by decide +kernel
theorem dX10_toldRefused_73 : decode cX10_toldRefused 73 = .ok (.getfield 337, 3) := by decide +kernel
theorem dX10_toldRefused_76 : decode cX10_toldRefused 76 = .ok (.iload 7, 2) := by decide +kernel
theorem dX10_toldRefused_78 : decode cX10_toldRefused 78 = .ok (.laload, 1) := by decide +kernel
theorem dX10_toldRefused_79 : decode cX10_toldRefused 79 = .ok (.iload 4, 2) := by decide +kernel
theorem dX10_toldRefused_81 : decode cX10_toldRefused 81 = .ok (.i2l, 1) := by decide +kernel
theorem dX10_toldRefused_82 : decode cX10_toldRefused 82 = .ok (.lcmp, 1) := by decide +kernel
theorem dX10_toldRefused_83 : decode cX10_toldRefused 83 = .ok (.ifCond .le 6, 3) := by decide +kernel
theorem dX10_toldRefused_86 : decode cX10_toldRefused 86 = .ok (.bipush (-3), 2) := by decide +kernel
theorem dX10_toldRefused_88 : decode cX10_toldRefused 88 = .ok (.ireturn, 1) := by decide +kernel
theorem dX10_toldRefused_89 : decode cX10_toldRefused 89 = .ok (.iinc 7 1, 3) := by decide +kernel
theorem dX10_toldRefused_92 : decode cX10_toldRefused 92 = .ok (.goto (-45), 3) := by decide +kernel
theorem dX10_toldRefused_95 : decode cX10_toldRefused 95 = .ok (.iconst 0, 1) := by decide +kernel
theorem dX10_toldRefused_96 : decode cX10_toldRefused 96 = .ok (.ireturn, 1) := by decide +kernel
theorem dX10_winds_0 : decode cX10_winds 0 = .ok (.aload_n 0, 1) := by decide +kernel
theorem dX10_winds_1 : decode cX10_winds 1 = .ok (.iload_n 1, 1) := by decide +kernel
theorem dX10_winds_2 : decode cX10_winds 2 = .ok (.bipush 8, 2) := by decide +kernel
theorem dX10_winds_4 : decode cX10_winds 4 = .ok (.iconst 0, 1) := by decide +kernel
theorem dX10_winds_5 : decode cX10_winds 5 = .ok (.iconst 4, 1) := by decide +kernel
theorem dX10_winds_6 : decode cX10_winds 6 = .ok (.invokevirtual 329, 3) := by decide +kernel
theorem dX10_winds_9 : decode cX10_winds 9 = .ok (.istore_n 2, 1) := by decide +kernel
theorem dX10_winds_10 : decode cX10_winds 10 = .ok (.iload_n 2, 1) := by decide +kernel
theorem dX10_winds_11 : decode cX10_winds 11 = .ok (.ifCond .eq 7, 3) := by decide +kernel
theorem dX10_winds_14 : decode cX10_winds 14 = .ok (.iload_n 2, 1) := by decide +kernel
theorem dX10_winds_15 : decode cX10_winds 15 = .ok (.goto 13, 3) := by decide +kernel
theorem dX10_winds_18 : decode cX10_winds 18 = .ok (.aload_n 0, 1) := by decide +kernel
theorem dX10_winds_19 : decode cX10_winds 19 = .ok (.aload_n 0, 1) := by decide +kernel
theorem dX10_winds_20 : decode cX10_winds 20 = .ok (.getfield 55, 3) := by decide +kernel
theorem dX10_winds_23 : decode cX10_winds 23 = .ok (.iload_n 1, 1) := by decide +kernel
theorem dX10_winds_24 : decode cX10_winds 24 = .ok (.aaload, 1) := by decide +kernel
theorem dX10_winds_25 : decode cX10_winds 25 = .ok (.invokevirtual 341, 3) := by decide +kernel
theorem dX10_winds_28 : decode cX10_winds 28 = .ok (.ireturn, 1) := by decide +kernel
theorem dX10_windsThatTire_0 : decode cX10_windsThatTire 0 = .ok (.iconst 0, 1) := by decide +kernel
theorem dX10_windsThatTire_1 : decode cX10_windsThatTire 1 = .ok (.istore_n 2, 1) := by decide +kernel
theorem dX10_windsThatTire_2 : decode cX10_windsThatTire 2 = .ok (.iconst 0, 1) := by decide +kernel
theorem dX10_windsThatTire_3 : decode cX10_windsThatTire 3 = .ok (.istore_n 3, 1) := by decide +kernel
theorem dX10_windsThatTire_4 : decode cX10_windsThatTire 4 = .ok (.iload_n 3, 1) := by decide +kernel
theorem dX10_windsThatTire_5 : decode cX10_windsThatTire 5 = .ok (.bipush 10, 2) := by decide +kernel
theorem dX10_windsThatTire_7 : decode cX10_windsThatTire 7 = .ok (.if_icmp .ge 31, 3) := by decide +kernel
theorem dX10_windsThatTire_10 : decode cX10_windsThatTire 10 = .ok (.aload_n 0, 1) := by decide +kernel
theorem dX10_windsThatTire_11 : decode cX10_windsThatTire 11 = .ok (.getfield 71, 3) := by decide +kernel
theorem dX10_windsThatTire_14 : decode cX10_windsThatTire 14 = .ok (.iload_n 3, 1) := by decide +kernel
theorem dX10_windsThatTire_15 : decode cX10_windsThatTire 15 = .ok (.invokevirtual 153, 3) := by decide +kernel
theorem dX10_windsThatTire_18 : decode cX10_windsThatTire 18 = .ok (.aload_n 0, 1) := by decide +kernel
theorem dX10_windsThatTire_19 : decode cX10_windsThatTire 19 = .ok (.aload_n 1, 1) := by decide +kernel
theorem dX10_windsThatTire_20 : decode cX10_windsThatTire 20 = .ok (.invokevirtual 344, 3) := by decide +kernel
theorem dX10_windsThatTire_23 : decode cX10_windsThatTire 23 = .ok (.ifCond .eq 9, 3) := by decide +kernel
theorem dX10_windsThatTire_26 : decode cX10_windsThatTire 26 = .ok (.iload_n 2, 1) := by decide +kernel
theorem dX10_windsThatTire_27 : decode cX10_windsThatTire 27 = .ok (.iconst 1, 1) := by decide +kernel
theorem dX10_windsThatTire_28 : decode cX10_windsThatTire 28 = .ok (.iload_n 3, 1) := by decide +kernel
theorem dX10_windsThatTire_29 : decode cX10_windsThatTire 29 = .ok (.ishl, 1) := by decide +kernel
theorem dX10_windsThatTire_30 : decode cX10_windsThatTire 30 = .ok (.ior, 1) := by decide +kernel
theorem dX10_windsThatTire_31 : decode cX10_windsThatTire 31 = .ok (.istore_n 2, 1) := by decide +kernel
theorem dX10_windsThatTire_32 : decode cX10_windsThatTire 32 = .ok (.iinc 3 1, 3) := by decide +kernel
theorem dX10_windsThatTire_35 : decode cX10_windsThatTire 35 = .ok (.goto (-31), 3) := by decide +kernel
theorem dX10_windsThatTire_38 : decode cX10_windsThatTire 38 = .ok (.aload_n 0, 1) := by decide +kernel
theorem dX10_windsThatTire_39 : decode cX10_windsThatTire 39 = .ok (.getfield 71, 3) := by decide +kernel
theorem dX10_windsThatTire_42 : decode cX10_windsThatTire 42 = .ok (.aload_n 0, 1) := by decide +kernel
theorem dX10_windsThatTire_43 : decode cX10_windsThatTire 43 = .ok (.getfield 39, 3) := by decide +kernel
theorem dX10_windsThatTire_46 : decode cX10_windsThatTire 46 = .ok (.getfield 150, 3) := by decide +kernel
theorem dX10_windsThatTire_49 : decode cX10_windsThatTire 49 = .ok (.invokevirtual 153, 3) := by decide +kernel
theorem dX10_windsThatTire_52 : decode cX10_windsThatTire 52 = .ok (.iload_n 2, 1) := by decide +kernel
theorem dX10_windsThatTire_53 : decode cX10_windsThatTire 53 = .ok (.ireturn, 1) := by decide +kernel
theorem dX10_tiresAsTold_0 : decode cX10_tiresAsTold 0 = .ok (.aload_n 0, 1) := by decide +kernel
theorem dX10_tiresAsTold_1 : decode cX10_tiresAsTold 1 = .ok (.getfield 39, 3) := by decide +kernel
theorem dX10_tiresAsTold_4 : decode cX10_tiresAsTold 4 = .ok (.getfield 173, 3) := by decide +kernel
theorem dX10_tiresAsTold_7 : decode cX10_tiresAsTold 7 = .ok (.istore_n 2, 1) := by decide +kernel
theorem dX10_tiresAsTold_8 : decode cX10_tiresAsTold 8 = .ok (.iconst 0, 1) := by decide +kernel
theorem dX10_tiresAsTold_9 : decode cX10_tiresAsTold 9 = .ok (.istore_n 3, 1) := by decide +kernel
theorem dX10_tiresAsTold_10 : decode cX10_tiresAsTold 10 = .ok (.iload_n 3, 1) := by decide +kernel
theorem dX10_tiresAsTold_11 : decode cX10_tiresAsTold 11 = .ok (.aload_n 1, 1) := by decide +kernel
theorem dX10_tiresAsTold_12 : decode cX10_tiresAsTold 12 = .ok (.getfield 226, 3) := by decide +kernel
theorem dX10_tiresAsTold_15 : decode cX10_tiresAsTold 15 = .ok (.if_icmp .ge 58, 3) := by decide +kernel
theorem dX10_tiresAsTold_18 : decode cX10_tiresAsTold 18 = .ok (.aload_n 0, 1) := by decide +kernel
theorem dX10_tiresAsTold_19 : decode cX10_tiresAsTold 19 = .ok (.getfield 80, 3) := by decide +kernel
theorem dX10_tiresAsTold_22 : decode cX10_tiresAsTold 22 = .ok (.iload_n 2, 1) := by decide +kernel
theorem dX10_tiresAsTold_23 : decode cX10_tiresAsTold 23 = .ok (.iconst 1, 1) := by decide +kernel
theorem dX10_tiresAsTold_24 : decode cX10_tiresAsTold 24 = .ok (.invokevirtual 180, 3) := by decide +kernel
theorem dX10_tiresAsTold_27 : decode cX10_tiresAsTold 27 = .ok (.istore 4, 2) := by decide +kernel
theorem dX10_tiresAsTold_29 : decode cX10_tiresAsTold 29 = .ok (.iload 4, 2) := by decide +kernel
theorem dX10_tiresAsTold_31 : decode cX10_tiresAsTold 31 = .ok (.iconst (-1), 1) := by decide +kernel
theorem dX10_tiresAsTold_32 : decode cX10_tiresAsTold 32 = .ok (.if_icmp .eq 8, 3) := by decide +kernel
theorem dX10_tiresAsTold_35 : decode cX10_tiresAsTold 35 = .ok (.iload 4, 2) := by decide +kernel
theorem dX10_tiresAsTold_37 : decode cX10_tiresAsTold 37 = .ok (.goto 12, 3) := by decide +kernel
theorem dX10_tiresAsTold_40 : decode cX10_tiresAsTold 40 = .ok (.aload_n 0, 1) := by decide +kernel
theorem dX10_tiresAsTold_41 : decode cX10_tiresAsTold 41 = .ok (.getfield 80, 3) := by decide +kernel
theorem dX10_tiresAsTold_44 : decode cX10_tiresAsTold 44 = .ok (.iload_n 2, 1) := by decide +kernel
theorem dX10_tiresAsTold_45 : decode cX10_tiresAsTold 45 = .ok (.iconst 0, 1) := by decide +kernel
theorem dX10_tiresAsTold_46 : decode cX10_tiresAsTold 46 = .ok (.invokevirtual 180, 3) := by decide +kernel
theorem dX10_tiresAsTold_49 : decode cX10_tiresAsTold 49 = .ok (.istore_n 2, 1) := by decide +kernel
theorem dX10_tiresAsTold_50 : decode cX10_tiresAsTold 50 = .ok (.iload_n 2, 1) := by decide +kernel
theorem dX10_tiresAsTold_51 : decode cX10_tiresAsTold 51 = .ok (.invokestatic 190, 3) := by decide +kernel
theorem dX10_tiresAsTold_54 : decode cX10_tiresAsTold 54 = .ok (.i2l, 1) := by decide +kernel
theorem dX10_tiresAsTold_55 : decode cX10_tiresAsTold 55 = .ok (.aload_n 1, 1) := by decide +kernel
theorem dX10_tiresAsTold_56 : decode cX10_tiresAsTold 56 = .ok (.getfield 337, 3) := by decide +kernel
theorem dX10_tiresAsTold_59 : decode cX10_tiresAsTold 59 = .ok (.iload_n 3, 1) := by decide +kernel
theorem dX10_tiresAsTold_60 : decode cX10_tiresAsTold 60 = .ok (.laload, 1) := by decide +kernel
theorem dX10_tiresAsTold_61 : decode cX10_tiresAsTold 61 = .ok (.lcmp, 1) := by decide +kernel
theorem dX10_tiresAsTold_62 : decode cX10_tiresAsTold 62 = .ok (.ifCond .eq 5, 3) := by decide +kernel
theorem dX10_tiresAsTold_65 : decode cX10_tiresAsTold 65 = .ok (.iconst 0, 1) := by decide +kernel
theorem dX10_tiresAsTold_66 : decode cX10_tiresAsTold 66 = .ok (.ireturn, 1) := by decide +kernel
theorem dX10_tiresAsTold_67 : decode cX10_tiresAsTold 67 = .ok (.iinc 3 1, 3) := by decide +kernel
theorem dX10_tiresAsTold_70 : decode cX10_tiresAsTold 70 = .ok (.goto (-60), 3) := by decide +kernel
theorem dX10_tiresAsTold_73 : decode cX10_tiresAsTold 73 = .ok (.iconst 1, 1) := by decide +kernel
theorem dX10_tiresAsTold_74 : decode cX10_tiresAsTold 74 = .ok (.ireturn, 1) := by decide +kernel
theorem dX10_attempt_0 : decode cX10_attempt 0 = .ok (.aload_n 0, 1) := by decide +kernel
theorem dX10_attempt_1 : decode cX10_attempt 1 = .ok (.iload_n 1, 1) := by decide +kernel
theorem dX10_attempt_2 : decode cX10_attempt 2 = .ok (.bipush 8, 2) := by decide +kernel
theorem dX10_attempt_4 : decode cX10_attempt 4 = .ok (.iconst 0, 1) := by decide +kernel
theorem dX10_attempt_5 : decode cX10_attempt 5 = .ok (.iconst 4, 1) := by decide +kernel
theorem dX10_attempt_6 : decode cX10_attempt 6 = .ok (.invokevirtual 329, 3) := by decide +kernel
theorem dX10_attempt_9 : decode cX10_attempt 9 = .ok (.istore_n 2, 1) := by decide +kernel
theorem dX10_attempt_10 : decode cX10_attempt 10 = .ok (.iload_n 2, 1) := by decide +kernel
theorem dX10_attempt_11 : decode cX10_attempt 11 = .ok (.ifCond .eq 5, 3) := by decide +kernel
theorem dX10_attempt_14 : decode cX10_attempt 14 = .ok (.iload_n 2, 1) := by decide +kernel
theorem dX10_attempt_15 : decode cX10_attempt 15 = .ok (.ireturn, 1) := by decide +kernel
theorem dX10_attempt_16 : decode cX10_attempt 16 = .ok (.aload_n 0, 1) := by decide +kernel
theorem dX10_attempt_17 : decode cX10_attempt 17 = .ok (.aload_n 0, 1) := by decide +kernel
theorem dX10_attempt_18 : decode cX10_attempt 18 = .ok (.getfield 55, 3) := by decide +kernel
theorem dX10_attempt_21 : decode cX10_attempt 21 = .ok (.iload_n 1, 1) := by decide +kernel
theorem dX10_attempt_22 : decode cX10_attempt 22 = .ok (.aaload, 1) := by decide +kernel
theorem dX10_attempt_23 : decode cX10_attempt 23 = .ok (.invokevirtual 341, 3) := by decide +kernel
theorem dX10_attempt_26 : decode cX10_attempt 26 = .ok (.istore_n 3, 1) := by decide +kernel
theorem dX10_attempt_27 : decode cX10_attempt 27 = .ok (.iconst (-1), 1) := by decide +kernel
theorem dX10_attempt_28 : decode cX10_attempt 28 = .ok (.istore 4, 2) := by decide +kernel
theorem dX10_attempt_30 : decode cX10_attempt 30 = .ok (.bipush 11, 2) := by decide +kernel
theorem dX10_attempt_32 : decode cX10_attempt 32 = .ok (.istore 5, 2) := by decide +kernel
theorem dX10_attempt_34 : decode cX10_attempt 34 = .ok (.iconst 0, 1) := by decide +kernel
theorem dX10_attempt_35 : decode cX10_attempt 35 = .ok (.istore 6, 2) := by decide +kernel
theorem dX10_attempt_37 : decode cX10_attempt 37 = .ok (.iload 6, 2) := by decide +kernel
theorem dX10_attempt_39 : decode cX10_attempt 39 = .ok (.iconst 2, 1) := by decide +kernel
theorem dX10_attempt_40 : decode cX10_attempt 40 = .ok (.if_icmp .gt 37, 3) := by decide +kernel
theorem dX10_attempt_43 : decode cX10_attempt 43 = .ok (.iload_n 3, 1) := by decide +kernel
theorem dX10_attempt_44 : decode cX10_attempt 44 = .ok (.ifCond .eq 33, 3) := by decide +kernel
theorem dX10_attempt_47 : decode cX10_attempt 47 = .ok (.aload_n 0, 1) := by decide +kernel
theorem dX10_attempt_48 : decode cX10_attempt 48 = .ok (.iload_n 3, 1) := by decide +kernel
theorem dX10_attempt_49 : decode cX10_attempt 49 = .ok (.iload 6, 2) := by decide +kernel
theorem dX10_attempt_51 : decode cX10_attempt 51 = .ok (.invokevirtual 348, 3) := by decide +kernel
theorem dX10_attempt_54 : decode cX10_attempt 54 = .ok (.istore 7, 2) := by decide +kernel
theorem dX10_attempt_56 : decode cX10_attempt 56 = .ok (.iload 7, 2) := by decide +kernel
theorem dX10_attempt_58 : decode cX10_attempt 58 = .ok (.iload 5, 2) := by decide +kernel
theorem dX10_attempt_60 : decode cX10_attempt 60 = .ok (.if_icmp .ge 11, 3) := by decide +kernel
theorem dX10_attempt_63 : decode cX10_attempt 63 = .ok (.iload 7, 2) := by decide +kernel
theorem dX10_attempt_65 : decode cX10_attempt 65 = .ok (.istore 5, 2) := by decide +kernel
theorem dX10_attempt_67 : decode cX10_attempt 67 = .ok (.iload 6, 2) := by decide +kernel
theorem dX10_attempt_69 : decode cX10_attempt 69 = .ok (.istore 4, 2) := by decide +kernel
theorem dX10_attempt_71 : decode cX10_attempt 71 = .ok (.iinc 6 1, 3) := by decide +kernel
theorem dX10_attempt_74 : decode cX10_attempt 74 = .ok (.goto (-37), 3) := by decide +kernel
theorem dX10_attempt_77 : decode cX10_attempt 77 = .ok (.aload_n 0, 1) := by decide +kernel
theorem dX10_attempt_78 : decode cX10_attempt 78 = .ok (.getfield 71, 3) := by decide +kernel
theorem dX10_attempt_81 : decode cX10_attempt 81 = .ok (.aload_n 0, 1) := by decide +kernel
theorem dX10_attempt_82 : decode cX10_attempt 82 = .ok (.getfield 39, 3) := by decide +kernel
theorem dX10_attempt_85 : decode cX10_attempt 85 = .ok (.getfield 150, 3) := by decide +kernel
theorem dX10_attempt_88 : decode cX10_attempt 88 = .ok (.invokevirtual 153, 3) := by decide +kernel
theorem dX10_attempt_91 : decode cX10_attempt 91 = .ok (.iload 4, 2) := by decide +kernel
theorem dX10_attempt_93 : decode cX10_attempt 93 = .ok (.ireturn, 1) := by decide +kernel
theorem dX10_mostAlike_0 : decode cX10_mostAlike 0 = .ok (.bipush 10, 2) := by decide +kernel
theorem dX10_mostAlike_2 : decode cX10_mostAlike 2 = .ok (.newarray .int, 2) := by decide +kernel
theorem dX10_mostAlike_4 : decode cX10_mostAlike 4 = .ok (.astore_n 3, 1) := by decide +kernel
theorem dX10_mostAlike_5 : decode cX10_mostAlike 5 = .ok (.iconst 0, 1) := by decide +kernel
theorem dX10_mostAlike_6 : decode cX10_mostAlike 6 = .ok (.istore 4, 2) := by decide +kernel
theorem dX10_mostAlike_8 : decode cX10_mostAlike 8 = .ok (.iconst 0, 1) := by decide +kernel
theorem dX10_mostAlike_9 : decode cX10_mostAlike 9 = .ok (.istore 5, 2) := by decide +kernel
theorem dX10_mostAlike_11 : decode cX10_mostAlike 11 = .ok (.iload 5, 2) := by decide +kernel
theorem dX10_mostAlike_13 : decode cX10_mostAlike 13 = .ok (.bipush 10, 2) := by decide +kernel
theorem dX10_mostAlike_15 : decode cX10_mostAlike 15 = .ok (.if_icmp .ge 116, 3) := by decide +kernel
theorem dX10_mostAlike_18 : decode cX10_mostAlike 18 = .ok (.iload_n 1, 1) := by decide +kernel
theorem dX10_mostAlike_19 : decode cX10_mostAlike 19 = .ok (.iload 5, 2) := by decide +kernel
theorem dX10_mostAlike_21 : decode cX10_mostAlike 21 = .ok (.ishr, 1) := by decide +kernel
theorem dX10_mostAlike_22 : decode cX10_mostAlike 22 = .ok (.iconst 1, 1) := by decide +kernel
theorem dX10_mostAlike_23 : decode cX10_mostAlike 23 = .ok (.iand, 1) := by decide +kernel
theorem dX10_mostAlike_24 : decode cX10_mostAlike 24 = .ok (.ifCond .ne 11, 3) := by decide +kernel
theorem dX10_mostAlike_27 : decode cX10_mostAlike 27 = .ok (.aload_n 3, 1) := by decide +kernel
theorem dX10_mostAlike_28 : decode cX10_mostAlike 28 = .ok (.iload 5, 2) := by decide +kernel
theorem dX10_mostAlike_30 : decode cX10_mostAlike 30 = .ok (.iconst (-1), 1) := by decide +kernel
theorem dX10_mostAlike_31 : decode cX10_mostAlike 31 = .ok (.iastore, 1) := by decide +kernel
theorem dX10_mostAlike_32 : decode cX10_mostAlike 32 = .ok (.goto 93, 3) := by decide +kernel
theorem dX10_mostAlike_35 : decode cX10_mostAlike 35 = .ok (.aload_n 0, 1) := by decide +kernel
theorem dX10_mostAlike_36 : decode cX10_mostAlike 36 = .ok (.getfield 71, 3) := by decide +kernel
theorem dX10_mostAlike_39 : decode cX10_mostAlike 39 = .ok (.iload 5, 2) := by decide +kernel
theorem dX10_mostAlike_41 : decode cX10_mostAlike 41 = .ok (.invokevirtual 153, 3) := by decide +kernel
theorem dX10_mostAlike_44 : decode cX10_mostAlike 44 = .ok (.aload_n 0, 1) := by decide +kernel
theorem dX10_mostAlike_45 : decode cX10_mostAlike 45 = .ok (.getfield 80, 3) := by decide +kernel
theorem dX10_mostAlike_48 : decode cX10_mostAlike 48 = .ok (.aload_n 0, 1) := by decide +kernel
theorem dX10_mostAlike_49 : decode cX10_mostAlike 49 = .ok (.getfield 39, 3) := by decide +kernel
theorem dX10_mostAlike_52 : decode cX10_mostAlike 52 = .ok (.getfield 173, 3) := by decide +kernel
theorem dX10_mostAlike_55 : decode cX10_mostAlike 55 = .ok (.iload_n 2, 1) := by decide +kernel
theorem dX10_mostAlike_56 : decode cX10_mostAlike 56 = .ok (.invokevirtual 180, 3) := by decide +kernel
theorem dX10_mostAlike_59 : decode cX10_mostAlike 59 = .ok (.istore 6, 2) := by decide +kernel
theorem dX10_mostAlike_61 : decode cX10_mostAlike 61 = .ok (.aload_n 3, 1) := by decide +kernel
theorem dX10_mostAlike_62 : decode cX10_mostAlike 62 = .ok (.iload 5, 2) := by decide +kernel
theorem dX10_mostAlike_64 : decode cX10_mostAlike 64 = .ok (.iload 6, 2) := by decide +kernel
theorem dX10_mostAlike_66 : decode cX10_mostAlike 66 = .ok (.iconst (-1), 1) := by decide +kernel
theorem dX10_mostAlike_67 : decode cX10_mostAlike 67 = .ok (.if_icmp .ne 13, 3) := by decide +kernel
theorem dX10_mostAlike_70 : decode cX10_mostAlike 70 = .ok (.aload_n 0, 1) := by decide +kernel
theorem dX10_mostAlike_71 : decode cX10_mostAlike 71 = .ok (.getfield 39, 3) := by decide +kernel
theorem dX10_mostAlike_74 : decode cX10_mostAlike 74 = .ok (.getfield 173, 3) := by decide +kernel
theorem dX10_mostAlike_77 : decode cX10_mostAlike 77 = .ok (.goto 5, 3) := by decide +kernel
theorem dX10_mostAlike_80 : decode cX10_mostAlike 80 = .ok (.iload 6, 2) := by decide +kernel
theorem dX10_mostAlike_82 : decode cX10_mostAlike 82 = .ok (.iastore, 1) := by decide +kernel
theorem dX10_mostAlike_83 : decode cX10_mostAlike 83 = .ok (.iconst 0, 1) := by decide +kernel
theorem dX10_mostAlike_84 : decode cX10_mostAlike 84 = .ok (.istore 7, 2) := by decide +kernel
theorem dX10_mostAlike_86 : decode cX10_mostAlike 86 = .ok (.iconst 0, 1) := by decide +kernel
theorem dX10_mostAlike_87 : decode cX10_mostAlike 87 = .ok (.istore 8, 2) := by decide +kernel
theorem dX10_mostAlike_89 : decode cX10_mostAlike 89 = .ok (.iload 8, 2) := by decide +kernel
theorem dX10_mostAlike_91 : decode cX10_mostAlike 91 = .ok (.iload 5, 2) := by decide +kernel
theorem dX10_mostAlike_93 : decode cX10_mostAlike 93 = .ok (.if_icmp .gt 23, 3) := by decide +kernel
theorem dX10_mostAlike_96 : decode cX10_mostAlike 96 = .ok (.aload_n 3, 1) := by decide +kernel
theorem dX10_mostAlike_97 : decode cX10_mostAlike 97 = .ok (.iload 8, 2) := by decide +kernel
theorem dX10_mostAlike_99 : decode cX10_mostAlike 99 = .ok (.iaload, 1) := by decide +kernel
theorem dX10_mostAlike_100 : decode cX10_mostAlike 100 = .ok (.aload_n 3, 1) := by decide +kernel
theorem dX10_mostAlike_101 : decode cX10_mostAlike 101 = .ok (.iload 5, 2) := by decide +kernel
theorem dX10_mostAlike_103 : decode cX10_mostAlike 103 = .ok (.iaload, 1) := by decide +kernel
theorem dX10_mostAlike_104 : decode cX10_mostAlike 104 = .ok (.if_icmp .ne 6, 3) := by decide +kernel
theorem dX10_mostAlike_107 : decode cX10_mostAlike 107 = .ok (.iinc 7 1, 3) := by decide +kernel
theorem dX10_mostAlike_110 : decode cX10_mostAlike 110 = .ok (.iinc 8 1, 3) := by decide +kernel
theorem dX10_mostAlike_113 : decode cX10_mostAlike 113 = .ok (.goto (-24), 3) := by decide +kernel
theorem dX10_mostAlike_116 : decode cX10_mostAlike 116 = .ok (.iload 4, 2) := by decide +kernel
theorem dX10_mostAlike_118 : decode cX10_mostAlike 118 = .ok (.iload 7, 2) := by decide +kernel
theorem dX10_mostAlike_120 : decode cX10_mostAlike 120 = .ok (.invokestatic 351, 3) := by decide +kernel
theorem dX10_mostAlike_123 : decode cX10_mostAlike 123 = .ok (.istore 4, 2) := by decide +kernel
theorem dX10_mostAlike_125 : decode cX10_mostAlike 125 = .ok (.iinc 5 1, 3) := by decide +kernel
theorem dX10_mostAlike_128 : decode cX10_mostAlike 128 = .ok (.goto (-117), 3) := by decide +kernel
theorem dX10_mostAlike_131 : decode cX10_mostAlike 131 = .ok (.iload 4, 2) := by decide +kernel
theorem dX10_mostAlike_133 : decode cX10_mostAlike 133 = .ok (.ireturn, 1) := by decide +kernel
theorem dX10_withstands_0 : decode cX10_withstands 0 = .ok (.aload_n 0, 1) := by decide +kernel
theorem dX10_withstands_1 : decode cX10_withstands 1 = .ok (.getfield 20, 3) := by decide +kernel
theorem dX10_withstands_4 : decode cX10_withstands 4 = .ok (.iload_n 1, 1) := by decide +kernel
theorem dX10_withstands_5 : decode cX10_withstands 5 = .ok (.invokevirtual 160, 3) := by decide +kernel
theorem dX10_withstands_8 : decode cX10_withstands 8 = .ok (.ifCond .ne 6, 3) := by decide +kernel
theorem dX10_withstands_11 : decode cX10_withstands 11 = .ok (.bipush (-2), 2) := by decide +kernel
theorem dX10_withstands_13 : decode cX10_withstands 13 = .ok (.ireturn, 1) := by decide +kernel
theorem dX10_withstands_14 : decode cX10_withstands 14 = .ok (.aload_n 0, 1) := by decide +kernel
theorem dX10_withstands_15 : decode cX10_withstands 15 = .ok (.getfield 89, 3) := by decide +kernel
theorem dX10_withstands_18 : decode cX10_withstands 18 = .ok (.aload_n 0, 1) := by decide +kernel
theorem dX10_withstands_19 : decode cX10_withstands 19 = .ok (.getfield 39, 3) := by decide +kernel
theorem dX10_withstands_22 : decode cX10_withstands 22 = .ok (.getfield 173, 3) := by decide +kernel
theorem dX10_withstands_25 : decode cX10_withstands 25 = .ok (.invokevirtual 245, 3) := by decide +kernel
theorem dX10_withstands_28 : decode cX10_withstands 28 = .ok (.aload_n 0, 1) := by decide +kernel
theorem dX10_withstands_29 : decode cX10_withstands 29 = .ok (.getfield 89, 3) := by decide +kernel
theorem dX10_withstands_32 : decode cX10_withstands 32 = .ok (.iload_n 1, 1) := by decide +kernel
theorem dX10_withstands_33 : decode cX10_withstands 33 = .ok (.iconst 0, 1) := by decide +kernel
theorem dX10_withstands_34 : decode cX10_withstands 34 = .ok (.invokevirtual 248, 3) := by decide +kernel
theorem dX10_withstands_37 : decode cX10_withstands 37 = .ok (.iconst (-1), 1) := by decide +kernel
theorem dX10_withstands_38 : decode cX10_withstands 38 = .ok (.if_icmp .ne 7, 3) := by decide +kernel
theorem dX10_withstands_41 : decode cX10_withstands 41 = .ok (.iconst (-1), 1) := by decide +kernel
theorem dX10_withstands_42 : decode cX10_withstands 42 = .ok (.goto 5, 3) := by decide +kernel
theorem dX10_withstands_45 : decode cX10_withstands 45 = .ok (.bipush 9, 2) := by decide +kernel
theorem dX10_withstands_47 : decode cX10_withstands 47 = .ok (.ireturn, 1) := by decide +kernel
theorem dX10_chance_0 : decode cX10_chance 0 = .ok (.aload_n 0, 1) := by decide +kernel
theorem dX10_chance_1 : decode cX10_chance 1 = .ok (.getfield 20, 3) := by decide +kernel
theorem dX10_chance_4 : decode cX10_chance 4 = .ok (.iload_n 1, 1) := by decide +kernel
theorem dX10_chance_5 : decode cX10_chance 5 = .ok (.invokevirtual 160, 3) := by decide +kernel
theorem dX10_chance_8 : decode cX10_chance 8 = .ok (.ifCond .eq 12, 3) := by decide +kernel
theorem dX10_chance_11 : decode cX10_chance 11 = .ok (.iload_n 3, 1) := by decide +kernel
theorem dX10_chance_12 : decode cX10_chance 12 = .ok (.ifCond .lt 8, 3) := by decide +kernel
theorem dX10_chance_15 : decode cX10_chance 15 = .ok (.iload_n 3, 1) := by decide +kernel
theorem dX10_chance_16 : decode cX10_chance 16 = .ok (.iconst 1, 1) := by decide +kernel
theorem dX10_chance_17 : decode cX10_chance 17 = .ok (.if_icmp .le 6, 3) := by decide +kernel
theorem dX10_chance_20 : decode cX10_chance 20 = .ok (.bipush (-2), 2) := by decide +kernel
theorem dX10_chance_22 : decode cX10_chance 22 = .ok (.ireturn, 1) := by decide +kernel
theorem dX10_chance_23 : decode cX10_chance 23 = .ok (.iload_n 2, 1) := by decide +kernel
theorem dX10_chance_24 : decode cX10_chance 24 = .ok (.ifCond .lt 9, 3) := by decide +kernel
theorem dX10_chance_27 : decode cX10_chance 27 = .ok (.iload_n 2, 1) := by decide +kernel
theorem dX10_chance_28 : decode cX10_chance 28 = .ok (.bipush 8, 2) := by decide +kernel
theorem dX10_chance_30 : decode cX10_chance 30 = .ok (.if_icmp .le 6, 3) := by decide +kernel
theorem dX10_chance_33 : decode cX10_chance 33 = .ok (.bipush (-3), 2) := by decide +kernel
theorem dX10_chance_35 : decode cX10_chance 35 = .ok (.ireturn, 1) := by decide +kernel
theorem dX10_chance_36 : decode cX10_chance 36 = .ok (.aload_n 0, 1) := by decide +kernel
theorem dX10_chance_37 : decode cX10_chance 37 = .ok (.getfield 108, 3) := by decide +kernel
theorem dX10_chance_40 : decode cX10_chance 40 = .ok (.aload_n 0, 1) := by decide +kernel
theorem dX10_chance_41 : decode cX10_chance 41 = .ok (.getfield 39, 3) := by decide +kernel
theorem dX10_chance_44 : decode cX10_chance 44 = .ok (.getfield 173, 3) := by decide +kernel
theorem dX10_chance_47 : decode cX10_chance 47 = .ok (.iload_n 1, 1) := by decide +kernel
theorem dX10_chance_48 : decode cX10_chance 48 = .ok (.iload_n 2, 1) := by decide +kernel
theorem dX10_chance_49 : decode cX10_chance 49 = .ok (.invokevirtual 354, 3) := by decide +kernel
theorem dX10_chance_52 : decode cX10_chance 52 = .ok (.iload_n 3, 1) := by decide +kernel
theorem dX10_chance_53 : decode cX10_chance 53 = .ok (.ifCond .ne 13, 3) := by decide +kernel
theorem dX10_chance_56 : decode cX10_chance 56 = .ok (.aload_n 0, 1) := by decide +kernel
theorem dX10_chance_57 : decode cX10_chance 57 = .ok (.getfield 108, 3) := by decide +kernel
theorem dX10_chance_60 : decode cX10_chance 60 = .ok (.invokevirtual 357, 3) := by decide +kernel
theorem dX10_chance_63 : decode cX10_chance 63 = .ok (.goto 10, 3) := by decide +kernel
theorem dX10_chance_66 : decode cX10_chance 66 = .ok (.aload_n 0, 1) := by decide +kernel
theorem dX10_chance_67 : decode cX10_chance 67 = .ok (.getfield 108, 3) := by decide +kernel
theorem dX10_chance_70 : decode cX10_chance 70 = .ok (.invokevirtual 360, 3) := by decide +kernel
theorem dX10_chance_73 : decode cX10_chance 73 = .ok (.ireturn, 1) := by decide +kernel
theorem dX10_best_0 : decode cX10_best 0 = .ok (.aload_n 0, 1) := by decide +kernel
theorem dX10_best_1 : decode cX10_best 1 = .ok (.getfield 20, 3) := by decide +kernel
theorem dX10_best_4 : decode cX10_best 4 = .ok (.iload_n 1, 1) := by decide +kernel
theorem dX10_best_5 : decode cX10_best 5 = .ok (.invokevirtual 160, 3) := by decide +kernel
theorem dX10_best_8 : decode cX10_best 8 = .ok (.ifCond .ne 6, 3) := by decide +kernel
theorem dX10_best_11 : decode cX10_best 11 = .ok (.bipush (-2), 2) := by decide +kernel
theorem dX10_best_13 : decode cX10_best 13 = .ok (.ireturn, 1) := by decide +kernel
theorem dX10_best_14 : decode cX10_best 14 = .ok (.iload_n 2, 1) := by decide +kernel
theorem dX10_best_15 : decode cX10_best 15 = .ok (.ifCond .lt 9, 3) := by decide +kernel
theorem dX10_best_18 : decode cX10_best 18 = .ok (.iload_n 2, 1) := by decide +kernel
theorem dX10_best_19 : decode cX10_best 19 = .ok (.bipush 8, 2) := by decide +kernel
theorem dX10_best_21 : decode cX10_best 21 = .ok (.if_icmp .le 6, 3) := by decide +kernel
theorem dX10_best_24 : decode cX10_best 24 = .ok (.bipush (-3), 2) := by decide +kernel
theorem dX10_best_26 : decode cX10_best 26 = .ok (.ireturn, 1) := by decide +kernel
theorem dX10_best_27 : decode cX10_best 27 = .ok (.aload_n 0, 1) := by decide +kernel
theorem dX10_best_28 : decode cX10_best 28 = .ok (.getfield 108, 3) := by decide +kernel
theorem dX10_best_31 : decode cX10_best 31 = .ok (.aload_n 0, 1) := by decide +kernel
theorem dX10_best_32 : decode cX10_best 32 = .ok (.getfield 39, 3) := by decide +kernel
theorem dX10_best_35 : decode cX10_best 35 = .ok (.getfield 173, 3) := by decide +kernel
theorem dX10_best_38 : decode cX10_best 38 = .ok (.iload_n 1, 1) := by decide +kernel
theorem dX10_best_39 : decode cX10_best 39 = .ok (.iload_n 2, 1) := by decide +kernel
theorem dX10_best_40 : decode cX10_best 40 = .ok (.invokevirtual 354, 3) := by decide +kernel
theorem dX10_best_43 : decode cX10_best 43 = .ok (.aload_n 0, 1) := by decide +kernel
theorem dX10_best_44 : decode cX10_best 44 = .ok (.getfield 108, 3) := by decide +kernel
theorem dX10_best_47 : decode cX10_best 47 = .ok (.getfield 363, 3) := by decide +kernel
theorem dX10_best_50 : decode cX10_best 50 = .ok (.ireturn, 1) := by decide +kernel
theorem dX10_isTray_0 : decode cX10_isTray 0 = .ok (.iload_n 0, 1) := by decide +kernel
theorem dX10_isTray_1 : decode cX10_isTray 1 = .ok (.ifCond .lt 12, 3) := by decide +kernel
theorem dX10_isTray_4 : decode cX10_isTray 4 = .ok (.iload_n 0, 1) := by decide +kernel
theorem dX10_isTray_5 : decode cX10_isTray 5 = .ok (.iconst 4, 1) := by decide +kernel
theorem dX10_isTray_6 : decode cX10_isTray 6 = .ok (.if_icmp .ge 7, 3) := by decide +kernel
theorem dX10_isTray_9 : decode cX10_isTray 9 = .ok (.iconst 1, 1) := by decide +kernel
theorem dX10_isTray_10 : decode cX10_isTray 10 = .ok (.goto 4, 3) := by decide +kernel
theorem dX10_isTray_13 : decode cX10_isTray 13 = .ok (.iconst 0, 1) := by decide +kernel
theorem dX10_isTray_14 : decode cX10_isTray 14 = .ok (.ireturn, 1) := by decide +kernel
theorem dX10_trayRefused_0 : decode cX10_trayRefused 0 = .ok (.iload_n 1, 1) := by decide +kernel
theorem dX10_trayRefused_1 : decode cX10_trayRefused 1 = .ok (.invokestatic 215, 3) := by decide +kernel
theorem dX10_trayRefused_4 : decode cX10_trayRefused 4 = .ok (.ifCond .ne 6, 3) := by decide +kernel
theorem dX10_trayRefused_7 : decode cX10_trayRefused 7 = .ok (.bipush (-2), 2) := by decide +kernel
theorem dX10_trayRefused_9 : decode cX10_trayRefused 9 = .ok (.ireturn, 1) := by decide +kernel
theorem dX10_trayRefused_10 : decode cX10_trayRefused 10 = .ok (.aload_n 0, 1) := by decide +kernel
theorem dX10_trayRefused_11 : decode cX10_trayRefused 11 = .ok (.getfield 55, 3) := by decide +kernel
theorem dX10_trayRefused_14 : decode cX10_trayRefused 14 = .ok (.iload_n 1, 1) := by decide +kernel
theorem dX10_trayRefused_15 : decode cX10_trayRefused 15 = .ok (.aaload, 1) := by decide +kernel
theorem dX10_trayRefused_16 : decode cX10_trayRefused 16 = .ok (.getfield 218, 3) := by decide +kernel
theorem dX10_trayRefused_19 : decode cX10_trayRefused 19 = .ok (.ifCond .eq 8, 3) := by decide +kernel
theorem dX10_trayRefused_22 : decode cX10_trayRefused 22 = .ok (.bipush (-6), 2) := by decide +kernel
theorem dX10_trayRefused_24 : decode cX10_trayRefused 24 = .ok (.goto 4, 3) := by decide +kernel
theorem dX10_trayRefused_27 : decode cX10_trayRefused 27 = .ok (.iconst 0, 1) := by decide +kernel
theorem dX10_trayRefused_28 : decode cX10_trayRefused 28 = .ok (.ireturn, 1) := by decide +kernel
theorem dX10_numbers_0 : decode cX10_numbers 0 = .ok (.iload_n 1, 1) := by decide +kernel
theorem dX10_numbers_1 : decode cX10_numbers 1 = .ok (.invokestatic 215, 3) := by decide +kernel
theorem dX10_numbers_4 : decode cX10_numbers 4 = .ok (.ifCond .eq 12, 3) := by decide +kernel
theorem dX10_numbers_7 : decode cX10_numbers 7 = .ok (.iload_n 2, 1) := by decide +kernel
theorem dX10_numbers_8 : decode cX10_numbers 8 = .ok (.ifCond .lt 8, 3) := by decide +kernel
theorem dX10_numbers_11 : decode cX10_numbers 11 = .ok (.iload_n 2, 1) := by decide +kernel
theorem dX10_numbers_12 : decode cX10_numbers 12 = .ok (.iconst 3, 1) := by decide +kernel
theorem dX10_numbers_13 : decode cX10_numbers 13 = .ok (.if_icmp .le 6, 3) := by decide +kernel
theorem dX10_numbers_16 : decode cX10_numbers 16 = .ok (.bipush (-2), 2) := by decide +kernel
theorem dX10_numbers_18 : decode cX10_numbers 18 = .ok (.ireturn, 1) := by decide +kernel
theorem dX10_numbers_19 : decode cX10_numbers 19 = .ok (.iload_n 3, 1) := by decide +kernel
theorem dX10_numbers_20 : decode cX10_numbers 20 = .ok (.ifCond .lt 9, 3) := by decide +kernel
theorem dX10_numbers_23 : decode cX10_numbers 23 = .ok (.iload_n 3, 1) := by decide +kernel
theorem dX10_numbers_24 : decode cX10_numbers 24 = .ok (.bipush 40, 2) := by decide +kernel
theorem dX10_numbers_26 : decode cX10_numbers 26 = .ok (.if_icmp .le 6, 3) := by decide +kernel
theorem dX10_numbers_29 : decode cX10_numbers 29 = .ok (.bipush (-3), 2) := by decide +kernel
theorem dX10_numbers_31 : decode cX10_numbers 31 = .ok (.ireturn, 1) := by decide +kernel
theorem dX10_numbers_32 : decode cX10_numbers 32 = .ok (.aload_n 0, 1) := by decide +kernel
theorem dX10_numbers_33 : decode cX10_numbers 33 = .ok (.getfield 55, 3) := by decide +kernel
theorem dX10_numbers_36 : decode cX10_numbers 36 = .ok (.iload_n 1, 1) := by decide +kernel
theorem dX10_numbers_37 : decode cX10_numbers 37 = .ok (.aaload, 1) := by decide +kernel
theorem dX10_numbers_38 : decode cX10_numbers 38 = .ok (.iload_n 2, 1) := by decide +kernel
theorem dX10_numbers_39 : decode cX10_numbers 39 = .ok (.iload_n 3, 1) := by decide +kernel
theorem dX10_numbers_40 : decode cX10_numbers 40 = .ok (.invokevirtual 366, 3) := by decide +kernel
theorem dX10_numbers_43 : decode cX10_numbers 43 = .ok (.iconst 0, 1) := by decide +kernel
theorem dX10_numbers_44 : decode cX10_numbers 44 = .ok (.ireturn, 1) := by decide +kernel
theorem dX10_write_0 : decode cX10_write 0 = .ok (.aload_n 0, 1) := by decide +kernel
theorem dX10_write_1 : decode cX10_write 1 = .ok (.iload_n 1, 1) := by decide +kernel
theorem dX10_write_2 : decode cX10_write 2 = .ok (.invokevirtual 232, 3) := by decide +kernel
theorem dX10_write_5 : decode cX10_write 5 = .ok (.istore 5, 2) := by decide +kernel
theorem dX10_write_7 : decode cX10_write 7 = .ok (.iload 5, 2) := by decide +kernel
theorem dX10_write_9 : decode cX10_write 9 = .ok (.ifCond .eq 7, 3) := by decide +kernel
theorem dX10_write_12 : decode cX10_write 12 = .ok (.iload 5, 2) := by decide +kernel
theorem dX10_write_14 : decode cX10_write 14 = .ok (.i2l, 1) := by decide +kernel
theorem dX10_write_15 : decode cX10_write 15 = .ok (.lreturn, 1) := by decide +kernel
theorem dX10_write_16 : decode cX10_write 16 = .ok (.iload_n 2, 1) := by decide +kernel
theorem dX10_write_17 : decode cX10_write 17 = .ok (.ifCond .lt 16, 3) := by decide +kernel
theorem dX10_write_20 : decode cX10_write 20 = .ok (.iload_n 2, 1) := by decide +kernel
theorem dX10_write_21 : decode cX10_write 21 = .ok (.aload_n 0, 1) := by decide +kernel
theorem dX10_write_22 : decode cX10_write 22 = .ok (.getfield 55, 3) := by decide +kernel
theorem dX10_write_25 : decode cX10_write 25 = .ok (.iload_n 1, 1) := by decide +kernel
theorem dX10_write_26 : decode cX10_write 26 = .ok (.aaload, 1) := by decide +kernel
theorem dX10_write_27 : decode cX10_write 27 = .ok (.getfield 226, 3) := by decide +kernel
theorem dX10_write_30 : decode cX10_write 30 = .ok (.if_icmp .lt 7, 3) := by decide +kernel
theorem dX10_write_33 : decode cX10_write 33 = .ok (.ldc2_w 369, 3) := by decide +kernel
theorem dX10_write_36 : decode cX10_write 36 = .ok (.lreturn, 1) := by decide +kernel
theorem dX10_write_37 : decode cX10_write 37 = .ok (.aload_n 0, 1) := by decide +kernel
theorem dX10_write_38 : decode cX10_write 38 = .ok (.getfield 55, 3) := by decide +kernel
theorem dX10_write_41 : decode cX10_write 41 = .ok (.iload_n 1, 1) := by decide +kernel
theorem dX10_write_42 : decode cX10_write 42 = .ok (.aaload, 1) := by decide +kernel
theorem dX10_write_43 : decode cX10_write 43 = .ok (.iload_n 2, 1) := by decide +kernel
theorem dX10_write_44 : decode cX10_write 44 = .ok (.lload_n 3, 1) := by decide +kernel
theorem dX10_write_45 : decode cX10_write 45 = .ok (.invokevirtual 371, 3) := by decide +kernel
theorem dX10_write_48 : decode cX10_write 48 = .ok (.lreturn, 1) := by decide +kernel
theorem dX10_lists_0 : decode cX10_lists 0 = .ok (.iload_n 1, 1) := by decide +kernel
theorem dX10_lists_1 : decode cX10_lists 1 = .ok (.invokestatic 215, 3) := by decide +kernel
theorem dX10_lists_4 : decode cX10_lists 4 = .ok (.ifCond .eq 14, 3) := by decide +kernel
theorem dX10_lists_7 : decode cX10_lists 7 = .ok (.aload_n 0, 1) := by decide +kernel
theorem dX10_lists_8 : decode cX10_lists 8 = .ok (.getfield 20, 3) := by decide +kernel
theorem dX10_lists_11 : decode cX10_lists 11 = .ok (.iload_n 2, 1) := by decide +kernel
theorem dX10_lists_12 : decode cX10_lists 12 = .ok (.invokevirtual 160, 3) := by decide +kernel
theorem dX10_lists_15 : decode cX10_lists 15 = .ok (.ifCond .ne 6, 3) := by decide +kernel
theorem dX10_lists_18 : decode cX10_lists 18 = .ok (.bipush (-2), 2) := by decide +kernel
theorem dX10_lists_20 : decode cX10_lists 20 = .ok (.ireturn, 1) := by decide +kernel
theorem dX10_lists_21 : decode cX10_lists 21 = .ok (.aload_n 0, 1) := by decide +kernel
theorem dX10_lists_22 : decode cX10_lists 22 = .ok (.getfield 55, 3) := by decide +kernel
theorem dX10_lists_25 : decode cX10_lists 25 = .ok (.iload_n 1, 1) := by decide +kernel
theorem dX10_lists_26 : decode cX10_lists 26 = .ok (.aaload, 1) := by decide +kernel
theorem dX10_lists_27 : decode cX10_lists 27 = .ok (.getfield 218, 3) := by decide +kernel
theorem dX10_lists_30 : decode cX10_lists 30 = .ok (.ifCond .eq 6, 3) := by decide +kernel
theorem dX10_lists_33 : decode cX10_lists 33 = .ok (.bipush (-6), 2) := by decide +kernel
theorem dX10_lists_35 : decode cX10_lists 35 = .ok (.ireturn, 1) := by decide +kernel
theorem dX10_lists_36 : decode cX10_lists 36 = .ok (.aload_n 0, 1) := by decide +kernel
theorem dX10_lists_37 : decode cX10_lists 37 = .ok (.getfield 20, 3) := by decide +kernel
theorem dX10_lists_40 : decode cX10_lists 40 = .ok (.iload_n 3, 1) := by decide +kernel
theorem dX10_lists_41 : decode cX10_lists 41 = .ok (.invokevirtual 254, 3) := by decide +kernel
theorem dX10_lists_44 : decode cX10_lists 44 = .ok (.ifCond .ne 6, 3) := by decide +kernel
theorem dX10_lists_47 : decode cX10_lists 47 = .ok (.bipush (-3), 2) := by decide +kernel
theorem dX10_lists_49 : decode cX10_lists 49 = .ok (.ireturn, 1) := by decide +kernel
theorem dX10_lists_50 : decode cX10_lists 50 = .ok (.aload_n 0, 1) := by decide +kernel
theorem dX10_lists_51 : decode cX10_lists 51 = .ok (.getfield 89, 3) := by decide +kernel
theorem dX10_lists_54 : decode cX10_lists 54 = .ok (.aload_n 0, 1) := by decide +kernel
theorem dX10_lists_55 : decode cX10_lists 55 = .ok (.getfield 39, 3) := by decide +kernel
theorem dX10_lists_58 : decode cX10_lists 58 = .ok (.getfield 173, 3) := by decide +kernel
theorem dX10_lists_61 : decode cX10_lists 61 = .ok (.invokevirtual 245, 3) := by decide +kernel
theorem dX10_lists_64 : decode cX10_lists 64 = .ok (.aload_n 0, 1) := by decide +kernel
theorem dX10_lists_65 : decode cX10_lists 65 = .ok (.getfield 89, 3) := by decide +kernel
theorem dX10_lists_68 : decode cX10_lists 68 = .ok (.iload_n 2, 1) := by decide +kernel
theorem dX10_lists_69 : decode cX10_lists 69 = .ok (.iload_n 3, 1) := by decide +kernel
theorem dX10_lists_70 : decode cX10_lists 70 = .ok (.invokevirtual 248, 3) := by decide +kernel
theorem dX10_lists_73 : decode cX10_lists 73 = .ok (.istore 4, 2) := by decide +kernel
theorem dX10_lists_75 : decode cX10_lists 75 = .ok (.iload 4, 2) := by decide +kernel
theorem dX10_lists_77 : decode cX10_lists 77 = .ok (.iconst (-1), 1) := by decide +kernel
theorem dX10_lists_78 : decode cX10_lists 78 = .ok (.if_icmp .ne 6, 3) := by decide +kernel
theorem dX10_lists_81 : decode cX10_lists 81 = .ok (.bipush (-5), 2) := by decide +kernel
theorem dX10_lists_83 : decode cX10_lists 83 = .ok (.ireturn, 1) := by decide +kernel
theorem dX10_lists_84 : decode cX10_lists 84 = .ok (.aload_n 0, 1) := by decide +kernel
theorem dX10_lists_85 : decode cX10_lists 85 = .ok (.getfield 89, 3) := by decide +kernel
theorem dX10_lists_88 : decode cX10_lists 88 = .ok (.iload 4, 2) := by decide +kernel
theorem dX10_lists_90 : decode cX10_lists 90 = .ok (.invokevirtual 251, 3) := by decide +kernel
theorem dX10_lists_93 : decode cX10_lists 93 = .ok (.aload_n 0, 1) := by decide +kernel
theorem dX10_lists_94 : decode cX10_lists 94 = .ok (.getfield 55, 3) := by decide +kernel
theorem dX10_lists_97 : decode cX10_lists 97 = .ok (.iload_n 1, 1) := by decide +kernel
theorem dX10_lists_98 : decode cX10_lists 98 = .ok (.aaload, 1) := by decide +kernel
theorem dX10_lists_99 : decode cX10_lists 99 = .ok (.getfield 226, 3) := by decide +kernel
theorem dX10_lists_102 : decode cX10_lists 102 = .ok (.invokestatic 312, 3) := by decide +kernel
theorem dX10_lists_105 : decode cX10_lists 105 = .ok (.istore 5, 2) := by decide +kernel
theorem dX10_lists_107 : decode cX10_lists 107 = .ok (.iconst 0, 1) := by decide +kernel
theorem dX10_lists_108 : decode cX10_lists 108 = .ok (.istore 6, 2) := by decide +kernel
theorem dX10_lists_110 : decode cX10_lists 110 = .ok (.iload 6, 2) := by decide +kernel
theorem dX10_lists_112 : decode cX10_lists 112 = .ok (.iload 5, 2) := by decide +kernel
theorem dX10_lists_114 : decode cX10_lists 114 = .ok (.if_icmp .ge 33, 3) := by decide +kernel
theorem dX10_lists_117 : decode cX10_lists 117 = .ok (.aload_n 0, 1) := by decide +kernel
theorem dX10_lists_118 : decode cX10_lists 118 = .ok (.getfield 55, 3) := by decide +kernel
theorem dX10_lists_121 : decode cX10_lists 121 = .ok (.iload_n 1, 1) := by decide +kernel
theorem dX10_lists_122 : decode cX10_lists 122 = .ok (.aaload, 1) := by decide +kernel
theorem dX10_lists_123 : decode cX10_lists 123 = .ok (.iload 6, 2) := by decide +kernel
theorem dX10_lists_125 : decode cX10_lists 125 = .ok (.aload_n 0, 1) := by decide +kernel
theorem dX10_lists_126 : decode cX10_lists 126 = .ok (.getfield 89, 3) := by decide +kernel
theorem dX10_lists_129 : decode cX10_lists 129 = .ok (.iload 4, 2) := by decide +kernel
theorem dX10_lists_131 : decode cX10_lists 131 = .ok (.iload 6, 2) := by decide +kernel
theorem dX10_lists_133 : decode cX10_lists 133 = .ok (.invokevirtual 257, 3) := by decide +kernel
theorem dX10_lists_136 : decode cX10_lists 136 = .ok (.i2l, 1) := by decide +kernel
theorem dX10_lists_137 : decode cX10_lists 137 = .ok (.invokevirtual 371, 3) := by decide +kernel
theorem dX10_lists_140 : decode cX10_lists 140 = .ok (.pop2, 1) := by decide +kernel
theorem dX10_lists_141 : decode cX10_lists 141 = .ok (.iinc 6 1, 3) := by decide +kernel
theorem dX10_lists_144 : decode cX10_lists 144 = .ok (.goto (-34), 3) := by decide +kernel
theorem dX10_lists_147 : decode cX10_lists 147 = .ok (.iload 5, 2) := by decide +kernel
theorem dX10_lists_149 : decode cX10_lists 149 = .ok (.ireturn, 1) := by decide +kernel
theorem dX10_isImage_0 : decode cX10_isImage 0 = .ok (.iload_n 0, 1) := by decide +kernel
theorem dX10_isImage_1 : decode cX10_isImage 1 = .ok (.ifCond .lt 12, 3) := by decide +kernel
theorem dX10_isImage_4 : decode cX10_isImage 4 = .ok (.iload_n 0, 1) := by decide +kernel
theorem dX10_isImage_5 : decode cX10_isImage 5 = .ok (.iconst 2, 1) := by decide +kernel
theorem dX10_isImage_6 : decode cX10_isImage 6 = .ok (.if_icmp .ge 7, 3) := by decide +kernel
theorem dX10_isImage_9 : decode cX10_isImage 9 = .ok (.iconst 1, 1) := by decide +kernel
theorem dX10_isImage_10 : decode cX10_isImage 10 = .ok (.goto 4, 3) := by decide +kernel
theorem dX10_isImage_13 : decode cX10_isImage 13 = .ok (.iconst 0, 1) := by decide +kernel
theorem dX10_isImage_14 : decode cX10_isImage 14 = .ok (.ireturn, 1) := by decide +kernel
theorem dX10_image_0 : decode cX10_image 0 = .ok (.iload_n 1, 1) := by decide +kernel
theorem dX10_image_1 : decode cX10_image 1 = .ok (.invokestatic 375, 3) := by decide +kernel
theorem dX10_image_4 : decode cX10_image 4 = .ok (.ifCond .ne 6, 3) := by decide +kernel
theorem dX10_image_7 : decode cX10_image 7 = .ok (.bipush (-2), 2) := by decide +kernel
theorem dX10_image_9 : decode cX10_image 9 = .ok (.ireturn, 1) := by decide +kernel
theorem dX10_image_10 : decode cX10_image 10 = .ok (.aload_n 0, 1) := by decide +kernel
theorem dX10_image_11 : decode cX10_image 11 = .ok (.getfield 59, 3) := by decide +kernel
theorem dX10_image_14 : decode cX10_image 14 = .ok (.iload_n 1, 1) := by decide +kernel
theorem dX10_image_15 : decode cX10_image 15 = .ok (.aaload, 1) := by decide +kernel
theorem dX10_image_16 : decode cX10_image 16 = .ok (.ifnull 12, 3) := by decide +kernel
theorem dX10_image_19 : decode cX10_image 19 = .ok (.aload_n 0, 1) := by decide +kernel
theorem dX10_image_20 : decode cX10_image 20 = .ok (.getfield 63, 3) := by decide +kernel
theorem dX10_image_23 : decode cX10_image 23 = .ok (.iload_n 1, 1) := by decide +kernel
theorem dX10_image_24 : decode cX10_image 24 = .ok (.aaload, 1) := by decide +kernel
theorem dX10_image_25 : decode cX10_image 25 = .ok (.ifnonnull 29, 3) := by decide +kernel
theorem dX10_image_28 : decode cX10_image 28 = .ok (.aload_n 0, 1) := by decide +kernel
theorem dX10_image_29 : decode cX10_image 29 = .ok (.getfield 59, 3) := by decide +kernel
theorem dX10_image_32 : decode cX10_image 32 = .ok (.iload_n 1, 1) := by decide +kernel
theorem dX10_image_33 : decode cX10_image 33 = .ok (.new 17, 3) := by decide +kernel
theorem dX10_image_36 : decode cX10_image 36 = .ok (.dup, 1) := by decide +kernel
theorem dX10_image_37 : decode cX10_image 37 = .ok (.invokespecial 19, 3) := by decide +kernel
theorem dX10_image_40 : decode cX10_image 40 = .ok (.aastore, 1) := by decide +kernel
theorem dX10_image_41 : decode cX10_image 41 = .ok (.aload_n 0, 1) := by decide +kernel
theorem dX10_image_42 : decode cX10_image 42 = .ok (.getfield 63, 3) := by decide +kernel
theorem dX10_image_45 : decode cX10_image 45 = .ok (.iload_n 1, 1) := by decide +kernel
theorem dX10_image_46 : decode cX10_image 46 = .ok (.new 36, 3) := by decide +kernel
theorem dX10_image_49 : decode cX10_image 49 = .ok (.dup, 1) := by decide +kernel
theorem dX10_image_50 : decode cX10_image 50 = .ok (.invokespecial 38, 3) := by decide +kernel
theorem dX10_image_53 : decode cX10_image 53 = .ok (.aastore, 1) := by decide +kernel
theorem dX10_image_54 : decode cX10_image 54 = .ok (.aload_n 0, 1) := by decide +kernel
theorem dX10_image_55 : decode cX10_image 55 = .ok (.getfield 59, 3) := by decide +kernel
theorem dX10_image_58 : decode cX10_image 58 = .ok (.iload_n 1, 1) := by decide +kernel
theorem dX10_image_59 : decode cX10_image 59 = .ok (.aaload, 1) := by decide +kernel
theorem dX10_image_60 : decode cX10_image 60 = .ok (.aload_n 0, 1) := by decide +kernel
theorem dX10_image_61 : decode cX10_image 61 = .ok (.getfield 20, 3) := by decide +kernel
theorem dX10_image_64 : decode cX10_image 64 = .ok (.invokevirtual 135, 3) := by decide +kernel
theorem dX10_image_67 : decode cX10_image 67 = .ok (.aload_n 0, 1) := by decide +kernel
theorem dX10_image_68 : decode cX10_image 68 = .ok (.getfield 63, 3) := by decide +kernel
theorem dX10_image_71 : decode cX10_image 71 = .ok (.iload_n 1, 1) := by decide +kernel
theorem dX10_image_72 : decode cX10_image 72 = .ok (.aaload, 1) := by decide +kernel
theorem dX10_image_73 : decode cX10_image 73 = .ok (.aload_n 0, 1) := by decide +kernel
theorem dX10_image_74 : decode cX10_image 74 = .ok (.getfield 39, 3) := by decide +kernel
theorem dX10_image_77 : decode cX10_image 77 = .ok (.invokevirtual 193, 3) := by decide +kernel
theorem dX10_image_80 : decode cX10_image 80 = .ok (.iconst 0, 1) := by decide +kernel
theorem dX10_image_81 : decode cX10_image 81 = .ok (.ireturn, 1) := by decide +kernel
theorem dX10_restore_0 : decode cX10_restore 0 = .ok (.iload_n 1, 1) := by decide +kernel
theorem dX10_restore_1 : decode cX10_restore 1 = .ok (.invokestatic 375, 3) := by decide +kernel
theorem dX10_restore_4 : decode cX10_restore 4 = .ok (.ifCond .ne 6, 3) := by decide +kernel
theorem dX10_restore_7 : decode cX10_restore 7 = .ok (.bipush (-2), 2) := by decide +kernel
theorem dX10_restore_9 : decode cX10_restore 9 = .ok (.ireturn, 1) := by decide +kernel
theorem dX10_restore_10 : decode cX10_restore 10 = .ok (.aload_n 0, 1) := by decide +kernel
theorem dX10_restore_11 : decode cX10_restore 11 = .ok (.getfield 59, 3) := by decide +kernel
theorem dX10_restore_14 : decode cX10_restore 14 = .ok (.iload_n 1, 1) := by decide +kernel
theorem dX10_restore_15 : decode cX10_restore 15 = .ok (.aaload, 1) := by decide +kernel
theorem dX10_restore_16 : decode cX10_restore 16 = .ok (.ifnull 12, 3) := by decide +kernel
theorem dX10_restore_19 : decode cX10_restore 19 = .ok (.aload_n 0, 1) := by decide +kernel
theorem dX10_restore_20 : decode cX10_restore 20 = .ok (.getfield 63, 3) := by decide +kernel
theorem dX10_restore_23 : decode cX10_restore 23 = .ok (.iload_n 1, 1) := by decide +kernel
theorem dX10_restore_24 : decode cX10_restore 24 = .ok (.aaload, 1) := by decide +kernel
theorem dX10_restore_25 : decode cX10_restore 25 = .ok (.ifnonnull 6, 3) := by decide +kernel
theorem dX10_restore_28 : decode cX10_restore 28 = .ok (.bipush (-5), 2) := by decide +kernel
theorem dX10_restore_30 : decode cX10_restore 30 = .ok (.ireturn, 1) := by decide +kernel
theorem dX10_restore_31 : decode cX10_restore 31 = .ok (.aload_n 0, 1) := by decide +kernel
theorem dX10_restore_32 : decode cX10_restore 32 = .ok (.getfield 20, 3) := by decide +kernel
theorem dX10_restore_35 : decode cX10_restore 35 = .ok (.aload_n 0, 1) := by decide +kernel
theorem dX10_restore_36 : decode cX10_restore 36 = .ok (.getfield 59, 3) := by decide +kernel
theorem dX10_restore_39 : decode cX10_restore 39 = .ok (.iload_n 1, 1) := by decide +kernel
theorem dX10_restore_40 : decode cX10_restore 40 = .ok (.aaload, 1) := by decide +kernel
theorem dX10_restore_41 : decode cX10_restore 41 = .ok (.invokevirtual 135, 3) := by decide +kernel
theorem dX10_restore_44 : decode cX10_restore 44 = .ok (.aload_n 0, 1) := by decide +kernel
theorem dX10_restore_45 : decode cX10_restore 45 = .ok (.getfield 39, 3) := by decide +kernel
theorem dX10_restore_48 : decode cX10_restore 48 = .ok (.aload_n 0, 1) := by decide +kernel
theorem dX10_restore_49 : decode cX10_restore 49 = .ok (.getfield 63, 3) := by decide +kernel
theorem dX10_restore_52 : decode cX10_restore 52 = .ok (.iload_n 1, 1) := by decide +kernel
theorem dX10_restore_53 : decode cX10_restore 53 = .ok (.aaload, 1) := by decide +kernel
theorem dX10_restore_54 : decode cX10_restore 54 = .ok (.invokevirtual 193, 3) := by decide +kernel
theorem dX10_restore_57 : decode cX10_restore 57 = .ok (.aload_n 0, 1) := by decide +kernel
theorem dX10_restore_58 : decode cX10_restore 58 = .ok (.invokevirtual 138, 3) := by decide +kernel
theorem dX10_restore_61 : decode cX10_restore 61 = .ok (.iconst 0, 1) := by decide +kernel
theorem dX10_restore_62 : decode cX10_restore 62 = .ok (.ireturn, 1) := by decide +kernel
theorem dX10_count_0 : decode cX10_count 0 = .ok (.iload_n 1, 1) := by decide +kernel
theorem dX10_count_1 : decode cX10_count 1 = .ok (.tableswitch 138 0 9 #[55, 63, 71, 82, 93, 104, 112, 120, 125, 130], 55) := by decide +kernel
theorem dX10_count_56 : decode cX10_count 56 = .ok (.aload_n 0, 1) := by decide +kernel
theorem dX10_count_57 : decode cX10_count 57 = .ok (.getfield 20, 3) := by decide +kernel
theorem dX10_count_60 : decode cX10_count 60 = .ok (.getfield 378, 3) := by decide +kernel
theorem dX10_count_63 : decode cX10_count 63 = .ok (.ireturn, 1) := by decide +kernel
theorem dX10_count_64 : decode cX10_count 64 = .ok (.aload_n 0, 1) := by decide +kernel
theorem dX10_count_65 : decode cX10_count 65 = .ok (.getfield 20, 3) := by decide +kernel
theorem dX10_count_68 : decode cX10_count 68 = .ok (.getfield 381, 3) := by decide +kernel
theorem dX10_count_71 : decode cX10_count 71 = .ok (.ireturn, 1) := by decide +kernel
theorem dX10_count_72 : decode cX10_count 72 = .ok (.aload_n 0, 1) := by decide +kernel
theorem dX10_count_73 : decode cX10_count 73 = .ok (.getfield 39, 3) := by decide +kernel
theorem dX10_count_76 : decode cX10_count 76 = .ok (.getfield 173, 3) := by decide +kernel
theorem dX10_count_79 : decode cX10_count 79 = .ok (.invokestatic 183, 3) := by decide +kernel
theorem dX10_count_82 : decode cX10_count 82 = .ok (.ireturn, 1) := by decide +kernel
theorem dX10_count_83 : decode cX10_count 83 = .ok (.aload_n 0, 1) := by decide +kernel
theorem dX10_count_84 : decode cX10_count 84 = .ok (.getfield 39, 3) := by decide +kernel
theorem dX10_count_87 : decode cX10_count 87 = .ok (.getfield 173, 3) := by decide +kernel
theorem dX10_count_90 : decode cX10_count 90 = .ok (.invokestatic 187, 3) := by decide +kernel
theorem dX10_count_93 : decode cX10_count 93 = .ok (.ireturn, 1) := by decide +kernel
theorem dX10_count_94 : decode cX10_count 94 = .ok (.aload_n 0, 1) := by decide +kernel
theorem dX10_count_95 : decode cX10_count 95 = .ok (.getfield 39, 3) := by decide +kernel
theorem dX10_count_98 : decode cX10_count 98 = .ok (.getfield 173, 3) := by decide +kernel
theorem dX10_count_101 : decode cX10_count 101 = .ok (.invokestatic 190, 3) := by decide +kernel
theorem dX10_count_104 : decode cX10_count 104 = .ok (.ireturn, 1) := by decide +kernel
theorem dX10_count_105 : decode cX10_count 105 = .ok (.aload_n 0, 1) := by decide +kernel
theorem dX10_count_106 : decode cX10_count 106 = .ok (.getfield 39, 3) := by decide +kernel
theorem dX10_count_109 : decode cX10_count 109 = .ok (.getfield 150, 3) := by decide +kernel
theorem dX10_count_112 : decode cX10_count 112 = .ok (.ireturn, 1) := by decide +kernel
theorem dX10_count_113 : decode cX10_count 113 = .ok (.aload_n 0, 1) := by decide +kernel
theorem dX10_count_114 : decode cX10_count 114 = .ok (.getfield 39, 3) := by decide +kernel
theorem dX10_count_117 : decode cX10_count 117 = .ok (.getfield 206, 3) := by decide +kernel
theorem dX10_count_120 : decode cX10_count 120 = .ok (.ireturn, 1) := by decide +kernel
theorem dX10_count_121 : decode cX10_count 121 = .ok (.aload_n 0, 1) := by decide +kernel
theorem dX10_count_122 : decode cX10_count 122 = .ok (.getfield 50, 3) := by decide +kernel
theorem dX10_count_125 : decode cX10_count 125 = .ok (.ireturn, 1) := by decide +kernel
theorem dX10_count_126 : decode cX10_count 126 = .ok (.aload_n 0, 1) := by decide +kernel
theorem dX10_count_127 : decode cX10_count 127 = .ok (.getfield 13, 3) := by decide +kernel
theorem dX10_count_130 : decode cX10_count 130 = .ok (.ireturn, 1) := by decide +kernel
theorem dX10_count_131 : decode cX10_count 131 = .ok (.aload_n 0, 1) := by decide +kernel
theorem dX10_count_132 : decode cX10_count 132 = .ok (.getfield 20, 3) := by decide +kernel
theorem dX10_count_135 : decode cX10_count 135 = .ok (.getfield 141, 3) := by decide +kernel
theorem dX10_count_138 : decode cX10_count 138 = .ok (.ireturn, 1) := by decide +kernel
theorem dX10_count_139 : decode cX10_count 139 = .ok (.iconst (-1), 1) := by decide +kernel
theorem dX10_count_140 : decode cX10_count 140 = .ok (.ireturn, 1) := by decide +kernel
theorem dX10_standOf_0 : decode cX10_standOf 0 = .ok (.iload_n 0, 1) := by decide +kernel
theorem dX10_standOf_1 : decode cX10_standOf 1 = .ok (.bipush 64, 2) := by decide +kernel
theorem dX10_standOf_3 : decode cX10_standOf 3 = .ok (.imul, 1) := by decide +kernel
theorem dX10_standOf_4 : decode cX10_standOf 4 = .ok (.iload_n 1, 1) := by decide +kernel
theorem dX10_standOf_5 : decode cX10_standOf 5 = .ok (.iadd, 1) := by decide +kernel
theorem dX10_standOf_6 : decode cX10_standOf 6 = .ok (.iconst 5, 1) := by decide +kernel
theorem dX10_standOf_7 : decode cX10_standOf 7 = .ok (.imul, 1) := by decide +kernel
theorem dX10_standOf_8 : decode cX10_standOf 8 = .ok (.iload_n 2, 1) := by decide +kernel
theorem dX10_standOf_9 : decode cX10_standOf 9 = .ok (.iadd, 1) := by decide +kernel
theorem dX10_standOf_10 : decode cX10_standOf 10 = .ok (.ireturn, 1) := by decide +kernel
theorem dX10_rungOf_0 : decode cX10_rungOf 0 = .ok (.iload_n 0, 1) := by decide +kernel
theorem dX10_rungOf_1 : decode cX10_rungOf 1 = .ok (.sipush 320, 3) := by decide +kernel
theorem dX10_rungOf_4 : decode cX10_rungOf 4 = .ok (.idiv, 1) := by decide +kernel
theorem dX10_rungOf_5 : decode cX10_rungOf 5 = .ok (.ireturn, 1) := by decide +kernel
theorem dX10_thingsOf_0 : decode cX10_thingsOf 0 = .ok (.iload_n 0, 1) := by decide +kernel
theorem dX10_thingsOf_1 : decode cX10_thingsOf 1 = .ok (.iconst 5, 1) := by decide +kernel
theorem dX10_thingsOf_2 : decode cX10_thingsOf 2 = .ok (.idiv, 1) := by decide +kernel
theorem dX10_thingsOf_3 : decode cX10_thingsOf 3 = .ok (.bipush 64, 2) := by decide +kernel
theorem dX10_thingsOf_5 : decode cX10_thingsOf 5 = .ok (.irem, 1) := by decide +kernel
theorem dX10_thingsOf_6 : decode cX10_thingsOf 6 = .ok (.ireturn, 1) := by decide +kernel
theorem dX10_strengthOf_0 : decode cX10_strengthOf 0 = .ok (.iload_n 0, 1) := by decide +kernel
theorem dX10_strengthOf_1 : decode cX10_strengthOf 1 = .ok (.iconst 5, 1) := by decide +kernel
theorem dX10_strengthOf_2 : decode cX10_strengthOf 2 = .ok (.irem, 1) := by decide +kernel
theorem dX10_strengthOf_3 : decode cX10_strengthOf 3 = .ok (.ireturn, 1) := by decide +kernel
theorem dJ11_isValidCodePoint_9a6ad_0 : decode cJ11_isValidCodePoint_9a6ad 0 = .ok (.iload_n 0, 1) := by decide +kernel
theorem dJ11_isValidCodePoint_9a6ad_1 : decode cJ11_isValidCodePoint_9a6ad 1 = .ok (.bipush 16, 2) := by decide +kernel
theorem dJ11_isValidCodePoint_9a6ad_3 : decode cJ11_isValidCodePoint_9a6ad 3 = .ok (.iushr, 1) := by decide +kernel
theorem dJ11_isValidCodePoint_9a6ad_4 : decode cJ11_isValidCodePoint_9a6ad 4 = .ok (.istore_n 1, 1) := by decide +kernel
theorem dJ11_isValidCodePoint_9a6ad_5 : decode cJ11_isValidCodePoint_9a6ad 5 = .ok (.iload_n 1, 1) := by decide +kernel
theorem dJ11_isValidCodePoint_9a6ad_6 : decode cJ11_isValidCodePoint_9a6ad 6 = .ok (.bipush 17, 2) := by decide +kernel
theorem dJ11_isValidCodePoint_9a6ad_8 : decode cJ11_isValidCodePoint_9a6ad 8 = .ok (.if_icmp .ge 7, 3) := by decide +kernel
theorem dJ11_isValidCodePoint_9a6ad_11 : decode cJ11_isValidCodePoint_9a6ad 11 = .ok (.iconst 1, 1) := by decide +kernel
theorem dJ11_isValidCodePoint_9a6ad_12 : decode cJ11_isValidCodePoint_9a6ad 12 = .ok (.goto 4, 3) := by decide +kernel
theorem dJ11_isValidCodePoint_9a6ad_15 : decode cJ11_isValidCodePoint_9a6ad 15 = .ok (.iconst 0, 1) := by decide +kernel
theorem dJ11_isValidCodePoint_9a6ad_16 : decode cJ11_isValidCodePoint_9a6ad 16 = .ok (.ireturn, 1) := by decide +kernel
theorem dJ11_highSurrogate_5068e_0 : decode cJ11_highSurrogate_5068e 0 = .ok (.iload_n 0, 1) := by decide +kernel
theorem dJ11_highSurrogate_5068e_1 : decode cJ11_highSurrogate_5068e 1 = .ok (.bipush 10, 2) := by decide +kernel
theorem dJ11_highSurrogate_5068e_3 : decode cJ11_highSurrogate_5068e 3 = .ok (.iushr, 1) := by decide +kernel
theorem dJ11_highSurrogate_5068e_4 : decode cJ11_highSurrogate_5068e 4 = .ok (.ldc 110, 2) := by decide +kernel
theorem dJ11_highSurrogate_5068e_6 : decode cJ11_highSurrogate_5068e 6 = .ok (.iadd, 1) := by decide +kernel
theorem dJ11_highSurrogate_5068e_7 : decode cJ11_highSurrogate_5068e 7 = .ok (.i2c, 1) := by decide +kernel
theorem dJ11_highSurrogate_5068e_8 : decode cJ11_highSurrogate_5068e 8 = .ok (.ireturn, 1) := by decide +kernel
theorem dJ11_lowSurrogate_5068e_0 : decode cJ11_lowSurrogate_5068e 0 = .ok (.iload_n 0, 1) := by decide +kernel
theorem dJ11_lowSurrogate_5068e_1 : decode cJ11_lowSurrogate_5068e 1 = .ok (.sipush 1023, 3) := by decide +kernel
theorem dJ11_lowSurrogate_5068e_4 : decode cJ11_lowSurrogate_5068e 4 = .ok (.iand, 1) := by decide +kernel
theorem dJ11_lowSurrogate_5068e_5 : decode cJ11_lowSurrogate_5068e 5 = .ok (.ldc 76, 2) := by decide +kernel
theorem dJ11_lowSurrogate_5068e_7 : decode cJ11_lowSurrogate_5068e 7 = .ok (.iadd, 1) := by decide +kernel
theorem dJ11_lowSurrogate_5068e_8 : decode cJ11_lowSurrogate_5068e 8 = .ok (.i2c, 1) := by decide +kernel
theorem dJ11_lowSurrogate_5068e_9 : decode cJ11_lowSurrogate_5068e 9 = .ok (.ireturn, 1) := by decide +kernel
theorem dJ6_bitCount_0f7a4_0 : decode cJ6_bitCount_0f7a4 0 = .ok (.iload_n 0, 1) := by decide +kernel
theorem dJ6_bitCount_0f7a4_1 : decode cJ6_bitCount_0f7a4 1 = .ok (.iload_n 0, 1) := by decide +kernel
theorem dJ6_bitCount_0f7a4_2 : decode cJ6_bitCount_0f7a4 2 = .ok (.iconst 1, 1) := by decide +kernel
theorem dJ6_bitCount_0f7a4_3 : decode cJ6_bitCount_0f7a4 3 = .ok (.iushr, 1) := by decide +kernel
theorem dJ6_bitCount_0f7a4_4 : decode cJ6_bitCount_0f7a4 4 = .ok (.ldc_w 265, 3) := by decide +kernel
theorem dJ6_bitCount_0f7a4_7 : decode cJ6_bitCount_0f7a4 7 = .ok (.iand, 1) := by decide +kernel
theorem dJ6_bitCount_0f7a4_8 : decode cJ6_bitCount_0f7a4 8 = .ok (.isub, 1) := by decide +kernel
theorem dJ6_bitCount_0f7a4_9 : decode cJ6_bitCount_0f7a4 9 = .ok (.istore_n 0, 1) := by decide +kernel
theorem dJ6_bitCount_0f7a4_10 : decode cJ6_bitCount_0f7a4 10 = .ok (.iload_n 0, 1) := by decide +kernel
theorem dJ6_bitCount_0f7a4_11 : decode cJ6_bitCount_0f7a4 11 = .ok (.ldc_w 266, 3) := by decide +kernel
theorem dJ6_bitCount_0f7a4_14 : decode cJ6_bitCount_0f7a4 14 = .ok (.iand, 1) := by decide +kernel
theorem dJ6_bitCount_0f7a4_15 : decode cJ6_bitCount_0f7a4 15 = .ok (.iload_n 0, 1) := by decide +kernel
theorem dJ6_bitCount_0f7a4_16 : decode cJ6_bitCount_0f7a4 16 = .ok (.iconst 2, 1) := by decide +kernel
theorem dJ6_bitCount_0f7a4_17 : decode cJ6_bitCount_0f7a4 17 = .ok (.iushr, 1) := by decide +kernel
theorem dJ6_bitCount_0f7a4_18 : decode cJ6_bitCount_0f7a4 18 = .ok (.ldc_w 266, 3) := by decide +kernel
theorem dJ6_bitCount_0f7a4_21 : decode cJ6_bitCount_0f7a4 21 = .ok (.iand, 1) := by decide +kernel
theorem dJ6_bitCount_0f7a4_22 : decode cJ6_bitCount_0f7a4 22 = .ok (.iadd, 1) := by decide +kernel
theorem dJ6_bitCount_0f7a4_23 : decode cJ6_bitCount_0f7a4 23 = .ok (.istore_n 0, 1) := by decide +kernel
theorem dJ6_bitCount_0f7a4_24 : decode cJ6_bitCount_0f7a4 24 = .ok (.iload_n 0, 1) := by decide +kernel
theorem dJ6_bitCount_0f7a4_25 : decode cJ6_bitCount_0f7a4 25 = .ok (.iload_n 0, 1) := by decide +kernel
theorem dJ6_bitCount_0f7a4_26 : decode cJ6_bitCount_0f7a4 26 = .ok (.iconst 4, 1) := by decide +kernel
theorem dJ6_bitCount_0f7a4_27 : decode cJ6_bitCount_0f7a4 27 = .ok (.iushr, 1) := by decide +kernel
theorem dJ6_bitCount_0f7a4_28 : decode cJ6_bitCount_0f7a4 28 = .ok (.iadd, 1) := by decide +kernel
theorem dJ6_bitCount_0f7a4_29 : decode cJ6_bitCount_0f7a4 29 = .ok (.ldc_w 267, 3) := by decide +kernel
theorem dJ6_bitCount_0f7a4_32 : decode cJ6_bitCount_0f7a4 32 = .ok (.iand, 1) := by decide +kernel
theorem dJ6_bitCount_0f7a4_33 : decode cJ6_bitCount_0f7a4 33 = .ok (.istore_n 0, 1) := by decide +kernel
theorem dJ6_bitCount_0f7a4_34 : decode cJ6_bitCount_0f7a4 34 = .ok (.iload_n 0, 1) := by decide +kernel
theorem dJ6_bitCount_0f7a4_35 : decode cJ6_bitCount_0f7a4 35 = .ok (.iload_n 0, 1) := by decide +kernel
theorem dJ6_bitCount_0f7a4_36 : decode cJ6_bitCount_0f7a4 36 = .ok (.bipush 8, 2) := by decide +kernel
theorem dJ6_bitCount_0f7a4_38 : decode cJ6_bitCount_0f7a4 38 = .ok (.iushr, 1) := by decide +kernel
theorem dJ6_bitCount_0f7a4_39 : decode cJ6_bitCount_0f7a4 39 = .ok (.iadd, 1) := by decide +kernel
theorem dJ6_bitCount_0f7a4_40 : decode cJ6_bitCount_0f7a4 40 = .ok (.istore_n 0, 1) := by decide +kernel
theorem dJ6_bitCount_0f7a4_41 : decode cJ6_bitCount_0f7a4 41 = .ok (.iload_n 0, 1) := by decide +kernel
theorem dJ6_bitCount_0f7a4_42 : decode cJ6_bitCount_0f7a4 42 = .ok (.iload_n 0, 1) := by decide +kernel
theorem dJ6_bitCount_0f7a4_43 : decode cJ6_bitCount_0f7a4 43 = .ok (.bipush 16, 2) := by decide +kernel
theorem dJ6_bitCount_0f7a4_45 : decode cJ6_bitCount_0f7a4 45 = .ok (.iushr, 1) := by decide +kernel
theorem dJ6_bitCount_0f7a4_46 : decode cJ6_bitCount_0f7a4 46 = .ok (.iadd, 1) := by decide +kernel
theorem dJ6_bitCount_0f7a4_47 : decode cJ6_bitCount_0f7a4 47 = .ok (.istore_n 0, 1) := by decide +kernel
theorem dJ6_bitCount_0f7a4_48 : decode cJ6_bitCount_0f7a4 48 = .ok (.iload_n 0, 1) := by decide +kernel
theorem dJ6_bitCount_0f7a4_49 : decode cJ6_bitCount_0f7a4 49 = .ok (.bipush 63, 2) := by decide +kernel
theorem dJ6_bitCount_0f7a4_51 : decode cJ6_bitCount_0f7a4 51 = .ok (.iand, 1) := by decide +kernel
theorem dJ6_bitCount_0f7a4_52 : decode cJ6_bitCount_0f7a4 52 = .ok (.ireturn, 1) := by decide +kernel
theorem dJ9_max_7cf53_0 : decode cJ9_max_7cf53 0 = .ok (.iload_n 0, 1) := by decide +kernel
theorem dJ9_max_7cf53_1 : decode cJ9_max_7cf53 1 = .ok (.iload_n 1, 1) := by decide +kernel
theorem dJ9_max_7cf53_2 : decode cJ9_max_7cf53 2 = .ok (.if_icmp .lt 7, 3) := by decide +kernel
theorem dJ9_max_7cf53_5 : decode cJ9_max_7cf53 5 = .ok (.iload_n 0, 1) := by decide +kernel
theorem dJ9_max_7cf53_6 : decode cJ9_max_7cf53 6 = .ok (.goto 4, 3) := by decide +kernel
theorem dJ9_max_7cf53_9 : decode cJ9_max_7cf53 9 = .ok (.iload_n 1, 1) := by decide +kernel
theorem dJ9_max_7cf53_10 : decode cJ9_max_7cf53 10 = .ok (.ireturn, 1) := by decide +kernel
theorem dJ9_max_f86c9_0 : decode cJ9_max_f86c9 0 = .ok (.lload_n 0, 1) := by decide +kernel
theorem dJ9_max_f86c9_1 : decode cJ9_max_f86c9 1 = .ok (.lload_n 2, 1) := by decide +kernel
theorem dJ9_max_f86c9_2 : decode cJ9_max_f86c9 2 = .ok (.lcmp, 1) := by decide +kernel
theorem dJ9_max_f86c9_3 : decode cJ9_max_f86c9 3 = .ok (.ifCond .lt 7, 3) := by decide +kernel
theorem dJ9_max_f86c9_6 : decode cJ9_max_f86c9 6 = .ok (.lload_n 0, 1) := by decide +kernel
theorem dJ9_max_f86c9_7 : decode cJ9_max_f86c9 7 = .ok (.goto 4, 3) := by decide +kernel
theorem dJ9_max_f86c9_10 : decode cJ9_max_f86c9 10 = .ok (.lload_n 2, 1) := by decide +kernel
theorem dJ9_max_f86c9_11 : decode cJ9_max_f86c9 11 = .ok (.lreturn, 1) := by decide +kernel
theorem dJ9_min_7cf53_0 : decode cJ9_min_7cf53 0 = .ok (.iload_n 0, 1) := by decide +kernel
theorem dJ9_min_7cf53_1 : decode cJ9_min_7cf53 1 = .ok (.iload_n 1, 1) := by decide +kernel
theorem dJ9_min_7cf53_2 : decode cJ9_min_7cf53 2 = .ok (.if_icmp .gt 7, 3) := by decide +kernel
theorem dJ9_min_7cf53_5 : decode cJ9_min_7cf53 5 = .ok (.iload_n 0, 1) := by decide +kernel
theorem dJ9_min_7cf53_6 : decode cJ9_min_7cf53 6 = .ok (.goto 4, 3) := by decide +kernel
theorem dJ9_min_7cf53_9 : decode cJ9_min_7cf53 9 = .ok (.iload_n 1, 1) := by decide +kernel
theorem dJ9_min_7cf53_10 : decode cJ9_min_7cf53 10 = .ok (.ireturn, 1) := by decide +kernel
theorem dJ9_min_f86c9_0 : decode cJ9_min_f86c9 0 = .ok (.lload_n 0, 1) := by decide +kernel
theorem dJ9_min_f86c9_1 : decode cJ9_min_f86c9 1 = .ok (.lload_n 2, 1) := by decide +kernel
theorem dJ9_min_f86c9_2 : decode cJ9_min_f86c9 2 = .ok (.lcmp, 1) := by decide +kernel
theorem dJ9_min_f86c9_3 : decode cJ9_min_f86c9 3 = .ok (.ifCond .gt 7, 3) := by decide +kernel
theorem dJ9_min_f86c9_6 : decode cJ9_min_f86c9 6 = .ok (.lload_n 0, 1) := by decide +kernel
theorem dJ9_min_f86c9_7 : decode cJ9_min_f86c9 7 = .ok (.goto 4, 3) := by decide +kernel
theorem dJ9_min_f86c9_10 : decode cJ9_min_f86c9 10 = .ok (.lload_n 2, 1) := by decide +kernel
theorem dJ9_min_f86c9_11 : decode cJ9_min_f86c9 11 = .ok (.lreturn, 1) := by decide +kernel
theorem dJ0_length_8abf5_0 : decode cJ0_length_8abf5 0 = .ok (.aload_n 0, 1) := by decide +kernel
theorem dJ0_length_8abf5_1 : decode cJ0_length_8abf5 1 = .ok (.getfield 9, 3) := by decide +kernel
theorem dJ0_length_8abf5_4 : decode cJ0_length_8abf5 4 = .ok (.arraylength, 1) := by decide +kernel
theorem dJ0_length_8abf5_5 : decode cJ0_length_8abf5 5 = .ok (.aload_n 0, 1) := by decide +kernel
theorem dJ0_length_8abf5_6 : decode cJ0_length_8abf5 6 = .ok (.invokevirtual 335, 3) := by decide +kernel
theorem dJ0_length_8abf5_9 : decode cJ0_length_8abf5 9 = .ok (.ishr, 1) := by decide +kernel
theorem dJ0_length_8abf5_10 : decode cJ0_length_8abf5 10 = .ok (.ireturn, 1) := by decide +kernel
theorem dJ0_charAt_5068e_0 : decode cJ0_charAt_5068e 0 = .ok (.aload_n 0, 1) := by decide +kernel
theorem dJ0_charAt_5068e_1 : decode cJ0_charAt_5068e 1 = .ok (.invokevirtual 492, 3) := by decide +kernel
theorem dJ0_charAt_5068e_4 : decode cJ0_charAt_5068e 4 = .ok (.ifCond .eq 12, 3) := by decide +kernel
theorem dJ0_charAt_5068e_7 : decode cJ0_charAt_5068e 7 = .ok (.aload_n 0, 1) := by decide +kernel
theorem dJ0_charAt_5068e_8 : decode cJ0_charAt_5068e 8 = .ok (.getfield 9, 3) := by decide +kernel
theorem dJ0_charAt_5068e_11 : decode cJ0_charAt_5068e 11 = .ok (.iload_n 1, 1) := by decide +kernel
theorem dJ0_charAt_5068e_12 : decode cJ0_charAt_5068e 12 = .ok (.invokestatic 495, 3) := by decide +kernel
theorem dJ0_charAt_5068e_15 : decode cJ0_charAt_5068e 15 = .ok (.ireturn, 1) := by decide +kernel
theorem dJ0_charAt_5068e_16 : decode cJ0_charAt_5068e 16 = .ok (.aload_n 0, 1) := by decide +kernel
theorem dJ0_charAt_5068e_17 : decode cJ0_charAt_5068e 17 = .ok (.getfield 9, 3) := by decide +kernel
theorem dJ0_charAt_5068e_20 : decode cJ0_charAt_5068e 20 = .ok (.iload_n 1, 1) := by decide +kernel
theorem dJ0_charAt_5068e_21 : decode cJ0_charAt_5068e 21 = .ok (.invokestatic 498, 3) := by decide +kernel
theorem dJ0_charAt_5068e_24 : decode cJ0_charAt_5068e 24 = .ok (.ireturn, 1) := by decide +kernel
theorem dJ0_indexOf_0f7a4_0 : decode cJ0_indexOf_0f7a4 0 = .ok (.aload_n 0, 1) := by decide +kernel
theorem dJ0_indexOf_0f7a4_1 : decode cJ0_indexOf_0f7a4 1 = .ok (.iload_n 1, 1) := by decide +kernel
theorem dJ0_indexOf_0f7a4_2 : decode cJ0_indexOf_0f7a4 2 = .ok (.iconst 0, 1) := by decide +kernel
theorem dJ0_indexOf_0f7a4_3 : decode cJ0_indexOf_0f7a4 3 = .ok (.invokevirtual 633, 3) := by decide +kernel
theorem dJ0_indexOf_0f7a4_6 : decode cJ0_indexOf_0f7a4 6 = .ok (.ireturn, 1) := by decide +kernel
theorem dJ0_indexOf_7cf53_0 : decode cJ0_indexOf_7cf53 0 = .ok (.aload_n 0, 1) := by decide +kernel
theorem dJ0_indexOf_7cf53_1 : decode cJ0_indexOf_7cf53 1 = .ok (.invokevirtual 492, 3) := by decide +kernel
theorem dJ0_indexOf_7cf53_4 : decode cJ0_indexOf_7cf53 4 = .ok (.ifCond .eq 19, 3) := by decide +kernel
theorem dJ0_indexOf_7cf53_7 : decode cJ0_indexOf_7cf53 7 = .ok (.aload_n 0, 1) := by decide +kernel
theorem dJ0_indexOf_7cf53_8 : decode cJ0_indexOf_7cf53 8 = .ok (.getfield 9, 3) := by decide +kernel
theorem dJ0_indexOf_7cf53_11 : decode cJ0_indexOf_7cf53 11 = .ok (.iload_n 1, 1) := by decide +kernel
theorem dJ0_indexOf_7cf53_12 : decode cJ0_indexOf_7cf53 12 = .ok (.iload_n 2, 1) := by decide +kernel
theorem dJ0_indexOf_7cf53_13 : decode cJ0_indexOf_7cf53 13 = .ok (.aload_n 0, 1) := by decide +kernel
theorem dJ0_indexOf_7cf53_14 : decode cJ0_indexOf_7cf53 14 = .ok (.invokevirtual 505, 3) := by decide +kernel
theorem dJ0_indexOf_7cf53_17 : decode cJ0_indexOf_7cf53 17 = .ok (.invokestatic 637, 3) := by decide +kernel
theorem dJ0_indexOf_7cf53_20 : decode cJ0_indexOf_7cf53 20 = .ok (.goto 16, 3) := by decide +kernel
theorem dJ0_indexOf_7cf53_23 : decode cJ0_indexOf_7cf53 23 = .ok (.aload_n 0, 1) := by decide +kernel
theorem dJ0_indexOf_7cf53_24 : decode cJ0_indexOf_7cf53 24 = .ok (.getfield 9, 3) := by decide +kernel
theorem dJ0_indexOf_7cf53_27 : decode cJ0_indexOf_7cf53 27 = .ok (.iload_n 1, 1) := by decide +kernel
theorem dJ0_indexOf_7cf53_28 : decode cJ0_indexOf_7cf53 28 = .ok (.iload_n 2, 1) := by decide +kernel
theorem dJ0_indexOf_7cf53_29 : decode cJ0_indexOf_7cf53 29 = .ok (.aload_n 0, 1) := by decide +kernel
theorem dJ0_indexOf_7cf53_30 : decode cJ0_indexOf_7cf53 30 = .ok (.invokevirtual 505, 3) := by decide +kernel
theorem dJ0_indexOf_7cf53_33 : decode cJ0_indexOf_7cf53 33 = .ok (.invokestatic 640, 3) := by decide +kernel
theorem dJ0_indexOf_7cf53_36 : decode cJ0_indexOf_7cf53 36 = .ok (.ireturn, 1) := by decide +kernel
theorem dJ0_coder_7d493_0 : decode cJ0_coder_7d493 0 = .ok (.getstatic 38, 3) := by decide +kernel
theorem dJ0_coder_7d493_3 : decode cJ0_coder_7d493 3 = .ok (.ifCond .eq 10, 3) := by decide +kernel
theorem dJ0_coder_7d493_6 : decode cJ0_coder_7d493 6 = .ok (.aload_n 0, 1) := by decide +kernel
theorem dJ0_coder_7d493_7 : decode cJ0_coder_7d493 7 = .ok (.getfield 15, 3) := by decide +kernel
theorem dJ0_coder_7d493_10 : decode cJ0_coder_7d493 10 = .ok (.goto 4, 3) := by decide +kernel
theorem dJ0_coder_7d493_13 : decode cJ0_coder_7d493 13 = .ok (.iconst 1, 1) := by decide +kernel
theorem dJ0_coder_7d493_14 : decode cJ0_coder_7d493 14 = .ok (.ireturn, 1) := by decide +kernel
theorem dJ0_isLatin1_aae02_0 : decode cJ0_isLatin1_aae02 0 = .ok (.getstatic 38, 3) := by decide +kernel
theorem dJ0_isLatin1_aae02_3 : decode cJ0_isLatin1_aae02 3 = .ok (.ifCond .eq 14, 3) := by decide +kernel
theorem dJ0_isLatin1_aae02_6 : decode cJ0_isLatin1_aae02 6 = .ok (.aload_n 0, 1) := by decide +kernel
theorem dJ0_isLatin1_aae02_7 : decode cJ0_isLatin1_aae02 7 = .ok (.getfield 15, 3) := by decide +kernel
theorem dJ0_isLatin1_aae02_10 : decode cJ0_isLatin1_aae02 10 = .ok (.ifCond .ne 7, 3) := by decide +kernel
theorem dJ0_isLatin1_aae02_13 : decode cJ0_isLatin1_aae02 13 = .ok (.iconst 1, 1) := by decide +kernel
theorem dJ0_isLatin1_aae02_14 : decode cJ0_isLatin1_aae02 14 = .ok (.goto 4, 3) := by decide +kernel
theorem dJ0_isLatin1_aae02_17 : decode cJ0_isLatin1_aae02 17 = .ok (.iconst 0, 1) := by decide +kernel
theorem dJ0_isLatin1_aae02_18 : decode cJ0_isLatin1_aae02 18 = .ok (.ireturn, 1) := by decide +kernel
theorem dJ0_checkIndex_df160_0 : decode cJ0_checkIndex_df160 0 = .ok (.iload_n 0, 1) := by decide +kernel
theorem dJ0_checkIndex_df160_1 : decode cJ0_checkIndex_df160 1 = .ok (.iload_n 1, 1) := by decide +kernel
theorem dJ0_checkIndex_df160_2 : decode cJ0_checkIndex_df160 2 = .ok (.getstatic 1053, 3) := by decide +kernel
theorem dJ0_checkIndex_df160_5 : decode cJ0_checkIndex_df160 5 = .ok (.invokestatic 1059, 3) := by decide +kernel
theorem dJ0_checkIndex_df160_8 : decode cJ0_checkIndex_df160 8 = .ok (.pop, 1) := by decide +kernel
theorem dJ0_checkIndex_df160_9 : decode cJ0_checkIndex_df160 9 = .ok (.return_, 1) := by decide +kernel
theorem dJ0_checkBoundsBeginEnd_23922_0 : decode cJ0_checkBoundsBeginEnd_23922 0 = .ok (.iload_n 0, 1) := by decide +kernel
theorem dJ0_checkBoundsBeginEnd_23922_1 : decode cJ0_checkBoundsBeginEnd_23922 1 = .ok (.iload_n 1, 1) := by decide +kernel
theorem dJ0_checkBoundsBeginEnd_23922_2 : decode cJ0_checkBoundsBeginEnd_23922 2 = .ok (.iload_n 2, 1) := by decide +kernel
theorem dJ0_checkBoundsBeginEnd_23922_3 : decode cJ0_checkBoundsBeginEnd_23922 3 = .ok (.getstatic 1053, 3) := by decide +kernel
theorem dJ0_checkBoundsBeginEnd_23922_6 : decode cJ0_checkBoundsBeginEnd_23922 6 = .ok (.invokestatic 1062, 3) := by decide +kernel
theorem dJ0_checkBoundsBeginEnd_23922_9 : decode cJ0_checkBoundsBeginEnd_23922 9 = .ok (.pop, 1) := by decide +kernel
theorem dJ0_checkBoundsBeginEnd_23922_10 : decode cJ0_checkBoundsBeginEnd_23922 10 = .ok (.return_, 1) := by decide +kernel
theorem dJ1_charAt_3b067_0 : decode cJ1_charAt_3b067 0 = .ok (.iload_n 1, 1) := by decide +kernel
theorem dJ1_charAt_3b067_1 : decode cJ1_charAt_3b067 1 = .ok (.aload_n 0, 1) := by decide +kernel
theorem dJ1_charAt_3b067_2 : decode cJ1_charAt_3b067 2 = .ok (.arraylength, 1) := by decide +kernel
theorem dJ1_charAt_3b067_3 : decode cJ1_charAt_3b067 3 = .ok (.invokestatic 9, 3) := by decide +kernel
theorem dJ1_charAt_3b067_6 : decode cJ1_charAt_3b067 6 = .ok (.aload_n 0, 1) := by decide +kernel
theorem dJ1_charAt_3b067_7 : decode cJ1_charAt_3b067 7 = .ok (.iload_n 1, 1) := by decide +kernel
theorem dJ1_charAt_3b067_8 : decode cJ1_charAt_3b067 8 = .ok (.baload, 1) := by decide +kernel
theorem dJ1_charAt_3b067_9 : decode cJ1_charAt_3b067 9 = .ok (.sipush 255, 3) := by decide +kernel
theorem dJ1_charAt_3b067_12 : decode cJ1_charAt_3b067 12 = .ok (.iand, 1) := by decide +kernel
theorem dJ1_charAt_3b067_13 : decode cJ1_charAt_3b067 13 = .ok (.i2c, 1) := by decide +kernel
theorem dJ1_charAt_3b067_14 : decode cJ1_charAt_3b067 14 = .ok (.ireturn, 1) := by decide +kernel
theorem dJ1_canEncode_9a6ad_0 : decode cJ1_canEncode_9a6ad 0 = .ok (.iload_n 0, 1) := by decide +kernel
theorem dJ1_canEncode_9a6ad_1 : decode cJ1_canEncode_9a6ad 1 = .ok (.ifCond .lt 14, 3) := by decide +kernel
theorem dJ1_canEncode_9a6ad_4 : decode cJ1_canEncode_9a6ad 4 = .ok (.iload_n 0, 1) := by decide +kernel
theorem dJ1_canEncode_9a6ad_5 : decode cJ1_canEncode_9a6ad 5 = .ok (.sipush 255, 3) := by decide +kernel
theorem dJ1_canEncode_9a6ad_8 : decode cJ1_canEncode_9a6ad 8 = .ok (.if_icmp .gt 7, 3) := by decide +kernel
theorem dJ1_canEncode_9a6ad_11 : decode cJ1_canEncode_9a6ad 11 = .ok (.iconst 1, 1) := by decide +kernel
theorem dJ1_canEncode_9a6ad_12 : decode cJ1_canEncode_9a6ad 12 = .ok (.goto 4, 3) := by decide +kernel
theorem dJ1_canEncode_9a6ad_15 : decode cJ1_canEncode_9a6ad 15 = .ok (.iconst 0, 1) := by decide +kernel
theorem dJ1_canEncode_9a6ad_16 : decode cJ1_canEncode_9a6ad 16 = .ok (.ireturn, 1) := by decide +kernel
theorem dJ1_indexOf_4cfef_0 : decode cJ1_indexOf_4cfef 0 = .ok (.iload_n 1, 1) := by decide +kernel
theorem dJ1_indexOf_4cfef_1 : decode cJ1_indexOf_4cfef 1 = .ok (.invokestatic 88, 3) := by decide +kernel
theorem dJ1_indexOf_4cfef_4 : decode cJ1_indexOf_4cfef 4 = .ok (.ifCond .ne 5, 3) := by decide +kernel
theorem dJ1_indexOf_4cfef_7 : decode cJ1_indexOf_4cfef 7 = .ok (.iconst (-1), 1) := by decide +kernel
theorem dJ1_indexOf_4cfef_8 : decode cJ1_indexOf_4cfef 8 = .ok (.ireturn, 1) := by decide +kernel
theorem dJ1_indexOf_4cfef_9 : decode cJ1_indexOf_4cfef 9 = .ok (.iload_n 2, 1) := by decide +kernel
theorem dJ1_indexOf_4cfef_10 : decode cJ1_indexOf_4cfef 10 = .ok (.iconst 0, 1) := by decide +kernel
theorem dJ1_indexOf_4cfef_11 : decode cJ1_indexOf_4cfef 11 = .ok (.invokestatic 92, 3) := by decide +kernel
theorem dJ1_indexOf_4cfef_14 : decode cJ1_indexOf_4cfef 14 = .ok (.istore_n 2, 1) := by decide +kernel
theorem dJ1_indexOf_4cfef_15 : decode cJ1_indexOf_4cfef 15 = .ok (.iload_n 3, 1) := by decide +kernel
theorem dJ1_indexOf_4cfef_16 : decode cJ1_indexOf_4cfef 16 = .ok (.aload_n 0, 1) := by decide +kernel
theorem dJ1_indexOf_4cfef_17 : decode cJ1_indexOf_4cfef 17 = .ok (.arraylength, 1) := by decide +kernel
theorem dJ1_indexOf_4cfef_18 : decode cJ1_indexOf_4cfef 18 = .ok (.invokestatic 38, 3) := by decide +kernel
theorem dJ1_indexOf_4cfef_21 : decode cJ1_indexOf_4cfef 21 = .ok (.istore_n 3, 1) := by decide +kernel
theorem dJ1_indexOf_4cfef_22 : decode cJ1_indexOf_4cfef 22 = .ok (.iload_n 2, 1) := by decide +kernel
theorem dJ1_indexOf_4cfef_23 : decode cJ1_indexOf_4cfef 23 = .ok (.iload_n 3, 1) := by decide +kernel
theorem dJ1_indexOf_4cfef_24 : decode cJ1_indexOf_4cfef 24 = .ok (.if_icmp .lt 5, 3) := by decide +kernel
theorem dJ1_indexOf_4cfef_27 : decode cJ1_indexOf_4cfef 27 = .ok (.iconst (-1), 1) := by decide +kernel
theorem dJ1_indexOf_4cfef_28 : decode cJ1_indexOf_4cfef 28 = .ok (.ireturn, 1) := by decide +kernel
theorem dJ1_indexOf_4cfef_29 : decode cJ1_indexOf_4cfef 29 = .ok (.aload_n 0, 1) := by decide +kernel
theorem dJ1_indexOf_4cfef_30 : decode cJ1_indexOf_4cfef 30 = .ok (.iload_n 1, 1) := by decide +kernel
theorem dJ1_indexOf_4cfef_31 : decode cJ1_indexOf_4cfef 31 = .ok (.iload_n 2, 1) := by decide +kernel
theorem dJ1_indexOf_4cfef_32 : decode cJ1_indexOf_4cfef 32 = .ok (.iload_n 3, 1) := by decide +kernel
theorem dJ1_indexOf_4cfef_33 : decode cJ1_indexOf_4cfef 33 = .ok (.invokestatic 95, 3) := by decide +kernel
theorem dJ1_indexOf_4cfef_36 : decode cJ1_indexOf_4cfef 36 = .ok (.ireturn, 1) := by decide +kernel
theorem dJ1_indexOfChar_4cfef_0 : decode cJ1_indexOfChar_4cfef 0 = .ok (.iload_n 1, 1) := by decide +kernel
theorem dJ1_indexOfChar_4cfef_1 : decode cJ1_indexOfChar_4cfef 1 = .ok (.i2b, 1) := by decide +kernel
theorem dJ1_indexOfChar_4cfef_2 : decode cJ1_indexOfChar_4cfef 2 = .ok (.istore 4, 2) := by decide +kernel
theorem dJ1_indexOfChar_4cfef_4 : decode cJ1_indexOfChar_4cfef 4 = .ok (.iload_n 2, 1) := by decide +kernel
theorem dJ1_indexOfChar_4cfef_5 : decode cJ1_indexOfChar_4cfef 5 = .ok (.istore 5, 2) := by decide +kernel
theorem dJ1_indexOfChar_4cfef_7 : decode cJ1_indexOfChar_4cfef 7 = .ok (.iload 5, 2) := by decide +kernel
theorem dJ1_indexOfChar_4cfef_9 : decode cJ1_indexOfChar_4cfef 9 = .ok (.iload_n 3, 1) := by decide +kernel
theorem dJ1_indexOfChar_4cfef_10 : decode cJ1_indexOfChar_4cfef 10 = .ok (.if_icmp .ge 21, 3) := by decide +kernel
theorem dJ1_indexOfChar_4cfef_13 : decode cJ1_indexOfChar_4cfef 13 = .ok (.aload_n 0, 1) := by decide +kernel
theorem dJ1_indexOfChar_4cfef_14 : decode cJ1_indexOfChar_4cfef 14 = .ok (.iload 5, 2) := by decide +kernel
theorem dJ1_indexOfChar_4cfef_16 : decode cJ1_indexOfChar_4cfef 16 = .ok (.baload, 1) := by decide +kernel
theorem dJ1_indexOfChar_4cfef_17 : decode cJ1_indexOfChar_4cfef 17 = .ok (.iload 4, 2) := by decide +kernel
theorem dJ1_indexOfChar_4cfef_19 : decode cJ1_indexOfChar_4cfef 19 = .ok (.if_icmp .ne 6, 3) := by decide +kernel
theorem dJ1_indexOfChar_4cfef_22 : decode cJ1_indexOfChar_4cfef 22 = .ok (.iload 5, 2) := by decide +kernel
theorem dJ1_indexOfChar_4cfef_24 : decode cJ1_indexOfChar_4cfef 24 = .ok (.ireturn, 1) := by decide +kernel
theorem dJ1_indexOfChar_4cfef_25 : decode cJ1_indexOfChar_4cfef 25 = .ok (.iinc 5 1, 3) := by decide +kernel
theorem dJ1_indexOfChar_4cfef_28 : decode cJ1_indexOfChar_4cfef 28 = .ok (.goto (-21), 3) := by decide +kernel
theorem dJ1_indexOfChar_4cfef_31 : decode cJ1_indexOfChar_4cfef 31 = .ok (.iconst (-1), 1) := by decide +kernel
theorem dJ1_indexOfChar_4cfef_32 : decode cJ1_indexOfChar_4cfef 32 = .ok (.ireturn, 1) := by decide +kernel
theorem dJ2_getChar_3b067_0 : decode cJ2_getChar_3b067 0 = .ok (.getstatic 44, 3) := by decide +kernel
theorem dJ2_getChar_3b067_3 : decode cJ2_getChar_3b067 3 = .ok (.ifCond .ne 25, 3) := by decide +kernel
theorem dJ2_getChar_3b067_6 : decode cJ2_getChar_3b067 6 = .ok (.iload_n 1, 1) := by decide +kernel
theorem dJ2_getChar_3b067_7 : decode cJ2_getChar_3b067 7 = .ok (.ifCond .lt 11, 3) := by decide +kernel
theorem dJ2_getChar_3b067_10 : decode cJ2_getChar_3b067 10 = .ok (.iload_n 1, 1) := by decide +kernel
theorem dJ2_getChar_3b067_11 : decode cJ2_getChar_3b067 11 = .ok (.aload_n 0, 1) := by decide +kernel
theorem dJ2_getChar_3b067_12 : decode cJ2_getChar_3b067 12 = .ok (.invokestatic 48, 3) := by decide +kernel
theorem dJ2_getChar_3b067_15 : decode cJ2_getChar_3b067 15 = .ok (.if_icmp .lt 13, 3) := by decide +kernel
theorem dJ2_getChar_3b067_18 : decode cJ2_getChar_3b067 18 = .ok (.new 52, 3) := by decide +kernel
theorem dJ2_getChar_3b067_21 : decode cJ2_getChar_3b067 21 = .ok (.dup, 1) := by decide +kernel
theorem dJ2_getChar_3b067_22 : decode cJ2_getChar_3b067 22 = .ok (.ldc 54, 2) := by decide +kernel
theorem dJ2_getChar_3b067_24 : decode cJ2_getChar_3b067 24 = .ok (.invokespecial 56, 3) := by decide +kernel
theorem dJ2_getChar_3b067_27 : decode cJ2_getChar_3b067 27 = .ok (.athrow, 1) := by decide +kernel
theorem dJ2_getChar_3b067_28 : decode cJ2_getChar_3b067 28 = .ok (.iload_n 1, 1) := by decide +kernel
theorem dJ2_getChar_3b067_29 : decode cJ2_getChar_3b067 29 = .ok (.iconst 1, 1) := by decide +kernel
theorem dJ2_getChar_3b067_30 : decode cJ2_getChar_3b067 30 = .ok (.ishl, 1) := by decide +kernel
theorem dJ2_getChar_3b067_31 : decode cJ2_getChar_3b067 31 = .ok (.istore_n 1, 1) := by decide +kernel
theorem dJ2_getChar_3b067_32 : decode cJ2_getChar_3b067 32 = .ok (.aload_n 0, 1) := by decide +kernel
theorem dJ2_getChar_3b067_33 : decode cJ2_getChar_3b067 33 = .ok (.iload_n 1, 1) := by decide +kernel
theorem dJ2_getChar_3b067_34 : decode cJ2_getChar_3b067 34 = .ok (.iinc 1 1, 3) := by decide +kernel
theorem dJ2_getChar_3b067_37 : decode cJ2_getChar_3b067 37 = .ok (.baload, 1) := by decide +kernel
theorem dJ2_getChar_3b067_38 : decode cJ2_getChar_3b067 38 = .ok (.sipush 255, 3) := by decide +kernel
theorem dJ2_getChar_3b067_41 : decode cJ2_getChar_3b067 41 = .ok (.iand, 1) := by decide +kernel
theorem dJ2_getChar_3b067_42 : decode cJ2_getChar_3b067 42 = .ok (.getstatic 59, 3) := by decide +kernel
theorem dJ2_getChar_3b067_45 : decode cJ2_getChar_3b067 45 = .ok (.ishl, 1) := by decide +kernel
theorem dJ2_getChar_3b067_46 : decode cJ2_getChar_3b067 46 = .ok (.aload_n 0, 1) := by decide +kernel
theorem dJ2_getChar_3b067_47 : decode cJ2_getChar_3b067 47 = .ok (.iload_n 1, 1) := by decide +kernel
theorem dJ2_getChar_3b067_48 : decode cJ2_getChar_3b067 48 = .ok (.baload, 1) := by decide +kernel
theorem dJ2_getChar_3b067_49 : decode cJ2_getChar_3b067 49 = .ok (.sipush 255, 3) := by decide +kernel
theorem dJ2_getChar_3b067_52 : decode cJ2_getChar_3b067 52 = .ok (.iand, 1) := by decide +kernel
theorem dJ2_getChar_3b067_53 : decode cJ2_getChar_3b067 53 = .ok (.getstatic 63, 3) := by decide +kernel
theorem dJ2_getChar_3b067_56 : decode cJ2_getChar_3b067 56 = .ok (.ishl, 1) := by decide +kernel
theorem dJ2_getChar_3b067_57 : decode cJ2_getChar_3b067 57 = .ok (.ior, 1) := by decide +kernel
theorem dJ2_getChar_3b067_58 : decode cJ2_getChar_3b067 58 = .ok (.i2c, 1) := by decide +kernel
theorem dJ2_getChar_3b067_59 : decode cJ2_getChar_3b067 59 = .ok (.ireturn, 1) := by decide +kernel
theorem dJ2_length_9d52b_0 : decode cJ2_length_9d52b 0 = .ok (.aload_n 0, 1) := by decide +kernel
theorem dJ2_length_9d52b_1 : decode cJ2_length_9d52b 1 = .ok (.arraylength, 1) := by decide +kernel
theorem dJ2_length_9d52b_2 : decode cJ2_length_9d52b 2 = .ok (.iconst 1, 1) := by decide +kernel
theorem dJ2_length_9d52b_3 : decode cJ2_length_9d52b 3 = .ok (.ishr, 1) := by decide +kernel
theorem dJ2_length_9d52b_4 : decode cJ2_length_9d52b 4 = .ok (.ireturn, 1) := by decide +kernel
theorem dJ2_indexOf_4cfef_0 : decode cJ2_indexOf_4cfef 0 = .ok (.iload_n 2, 1) := by decide +kernel
theorem dJ2_indexOf_4cfef_1 : decode cJ2_indexOf_4cfef 1 = .ok (.iconst 0, 1) := by decide +kernel
theorem dJ2_indexOf_4cfef_2 : decode cJ2_indexOf_4cfef 2 = .ok (.invokestatic 224, 3) := by decide +kernel
theorem dJ2_indexOf_4cfef_5 : decode cJ2_indexOf_4cfef 5 = .ok (.istore_n 2, 1) := by decide +kernel
theorem dJ2_indexOf_4cfef_6 : decode cJ2_indexOf_4cfef 6 = .ok (.iload_n 3, 1) := by decide +kernel
theorem dJ2_indexOf_4cfef_7 : decode cJ2_indexOf_4cfef 7 = .ok (.aload_n 0, 1) := by decide +kernel
theorem dJ2_indexOf_4cfef_8 : decode cJ2_indexOf_4cfef 8 = .ok (.arraylength, 1) := by decide +kernel
theorem dJ2_indexOf_4cfef_9 : decode cJ2_indexOf_4cfef 9 = .ok (.iconst 1, 1) := by decide +kernel
theorem dJ2_indexOf_4cfef_10 : decode cJ2_indexOf_4cfef 10 = .ok (.ishr, 1) := by decide +kernel
theorem dJ2_indexOf_4cfef_11 : decode cJ2_indexOf_4cfef 11 = .ok (.invokestatic 183, 3) := by decide +kernel
theorem dJ2_indexOf_4cfef_14 : decode cJ2_indexOf_4cfef 14 = .ok (.istore_n 3, 1) := by decide +kernel
theorem dJ2_indexOf_4cfef_15 : decode cJ2_indexOf_4cfef 15 = .ok (.iload_n 2, 1) := by decide +kernel
theorem dJ2_indexOf_4cfef_16 : decode cJ2_indexOf_4cfef 16 = .ok (.iload_n 3, 1) := by decide +kernel
theorem dJ2_indexOf_4cfef_17 : decode cJ2_indexOf_4cfef 17 = .ok (.if_icmp .lt 5, 3) := by decide +kernel
theorem dJ2_indexOf_4cfef_20 : decode cJ2_indexOf_4cfef 20 = .ok (.iconst (-1), 1) := by decide +kernel
theorem dJ2_indexOf_4cfef_21 : decode cJ2_indexOf_4cfef 21 = .ok (.ireturn, 1) := by decide +kernel
theorem dJ2_indexOf_4cfef_22 : decode cJ2_indexOf_4cfef 22 = .ok (.iload_n 1, 1) := by decide +kernel
theorem dJ2_indexOf_4cfef_23 : decode cJ2_indexOf_4cfef 23 = .ok (.ldc 227, 2) := by decide +kernel
theorem dJ2_indexOf_4cfef_25 : decode cJ2_indexOf_4cfef 25 = .ok (.if_icmp .ge 11, 3) := by decide +kernel
theorem dJ2_indexOf_4cfef_28 : decode cJ2_indexOf_4cfef 28 = .ok (.aload_n 0, 1) := by decide +kernel
theorem dJ2_indexOf_4cfef_29 : decode cJ2_indexOf_4cfef 29 = .ok (.iload_n 1, 1) := by decide +kernel
theorem dJ2_indexOf_4cfef_30 : decode cJ2_indexOf_4cfef 30 = .ok (.iload_n 2, 1) := by decide +kernel
theorem dJ2_indexOf_4cfef_31 : decode cJ2_indexOf_4cfef 31 = .ok (.iload_n 3, 1) := by decide +kernel
theorem dJ2_indexOf_4cfef_32 : decode cJ2_indexOf_4cfef 32 = .ok (.invokestatic 228, 3) := by decide +kernel
theorem dJ2_indexOf_4cfef_35 : decode cJ2_indexOf_4cfef 35 = .ok (.ireturn, 1) := by decide +kernel
theorem dJ2_indexOf_4cfef_36 : decode cJ2_indexOf_4cfef 36 = .ok (.aload_n 0, 1) := by decide +kernel
theorem dJ2_indexOf_4cfef_37 : decode cJ2_indexOf_4cfef 37 = .ok (.iload_n 1, 1) := by decide +kernel
theorem dJ2_indexOf_4cfef_38 : decode cJ2_indexOf_4cfef 38 = .ok (.iload_n 2, 1) := by decide +kernel
theorem dJ2_indexOf_4cfef_39 : decode cJ2_indexOf_4cfef 39 = .ok (.iload_n 3, 1) := by decide +kernel
theorem dJ2_indexOf_4cfef_40 : decode cJ2_indexOf_4cfef 40 = .ok (.invokestatic 232, 3) := by decide +kernel
theorem dJ2_indexOf_4cfef_43 : decode cJ2_indexOf_4cfef 43 = .ok (.ireturn, 1) := by decide +kernel
theorem dJ2_indexOfChar_4cfef_0 : decode cJ2_indexOfChar_4cfef 0 = .ok (.iload_n 2, 1) := by decide +kernel
theorem dJ2_indexOfChar_4cfef_1 : decode cJ2_indexOfChar_4cfef 1 = .ok (.iload_n 3, 1) := by decide +kernel
theorem dJ2_indexOfChar_4cfef_2 : decode cJ2_indexOfChar_4cfef 2 = .ok (.aload_n 0, 1) := by decide +kernel
theorem dJ2_indexOfChar_4cfef_3 : decode cJ2_indexOfChar_4cfef 3 = .ok (.invokestatic 96, 3) := by decide +kernel
theorem dJ2_indexOfChar_4cfef_6 : decode cJ2_indexOfChar_4cfef 6 = .ok (.aload_n 0, 1) := by decide +kernel
theorem dJ2_indexOfChar_4cfef_7 : decode cJ2_indexOfChar_4cfef 7 = .ok (.iload_n 1, 1) := by decide +kernel
theorem dJ2_indexOfChar_4cfef_8 : decode cJ2_indexOfChar_4cfef 8 = .ok (.iload_n 2, 1) := by decide +kernel
theorem dJ2_indexOfChar_4cfef_9 : decode cJ2_indexOfChar_4cfef 9 = .ok (.iload_n 3, 1) := by decide +kernel
theorem dJ2_indexOfChar_4cfef_10 : decode cJ2_indexOfChar_4cfef 10 = .ok (.invokestatic 244, 3) := by decide +kernel
theorem dJ2_indexOfChar_4cfef_13 : decode cJ2_indexOfChar_4cfef 13 = .ok (.ireturn, 1) := by decide +kernel
theorem dJ2_indexOfCharUnsafe_4cfef_0 : decode cJ2_indexOfCharUnsafe_4cfef 0 = .ok (.iload_n 2, 1) := by decide +kernel
theorem dJ2_indexOfCharUnsafe_4cfef_1 : decode cJ2_indexOfCharUnsafe_4cfef 1 = .ok (.istore 4, 2) := by decide +kernel
theorem dJ2_indexOfCharUnsafe_4cfef_3 : decode cJ2_indexOfCharUnsafe_4cfef 3 = .ok (.iload 4, 2) := by decide +kernel
theorem dJ2_indexOfCharUnsafe_4cfef_5 : decode cJ2_indexOfCharUnsafe_4cfef 5 = .ok (.iload_n 3, 1) := by decide +kernel
theorem dJ2_indexOfCharUnsafe_4cfef_6 : decode cJ2_indexOfCharUnsafe_4cfef 6 = .ok (.if_icmp .ge 22, 3) := by decide +kernel
theorem dJ2_indexOfCharUnsafe_4cfef_9 : decode cJ2_indexOfCharUnsafe_4cfef 9 = .ok (.aload_n 0, 1) := by decide +kernel
theorem dJ2_indexOfCharUnsafe_4cfef_10 : decode cJ2_indexOfCharUnsafe_4cfef 10 = .ok (.iload 4, 2) := by decide +kernel
theorem dJ2_indexOfCharUnsafe_4cfef_12 : decode cJ2_indexOfCharUnsafe_4cfef 12 = .ok (.invokestatic 71, 3) := by decide +kernel
theorem dJ2_indexOfCharUnsafe_4cfef_15 : decode cJ2_indexOfCharUnsafe_4cfef 15 = .ok (.iload_n 1, 1) := by decide +kernel
theorem dJ2_indexOfCharUnsafe_4cfef_16 : decode cJ2_indexOfCharUnsafe_4cfef 16 = .ok (.if_icmp .ne 6, 3) := by decide +kernel
theorem dJ2_indexOfCharUnsafe_4cfef_19 : decode cJ2_indexOfCharUnsafe_4cfef 19 = .ok (.iload 4, 2) := by decide +kernel
theorem dJ2_indexOfCharUnsafe_4cfef_21 : decode cJ2_indexOfCharUnsafe_4cfef 21 = .ok (.ireturn, 1) := by decide +kernel
theorem dJ2_indexOfCharUnsafe_4cfef_22 : decode cJ2_indexOfCharUnsafe_4cfef 22 = .ok (.iinc 4 1, 3) := by decide +kernel
theorem dJ2_indexOfCharUnsafe_4cfef_25 : decode cJ2_indexOfCharUnsafe_4cfef 25 = .ok (.goto (-22), 3) := by decide +kernel
theorem dJ2_indexOfCharUnsafe_4cfef_28 : decode cJ2_indexOfCharUnsafe_4cfef 28 = .ok (.iconst (-1), 1) := by decide +kernel
theorem dJ2_indexOfCharUnsafe_4cfef_29 : decode cJ2_indexOfCharUnsafe_4cfef 29 = .ok (.ireturn, 1) := by decide +kernel
theorem dJ2_indexOfSupplementary_4cfef_0 : decode cJ2_indexOfSupplementary_4cfef 0 = .ok (.iload_n 1, 1) := by decide +kernel
theorem dJ2_indexOfSupplementary_4cfef_1 : decode cJ2_indexOfSupplementary_4cfef 1 = .ok (.invokestatic 164, 3) := by decide +kernel
theorem dJ2_indexOfSupplementary_4cfef_4 : decode cJ2_indexOfSupplementary_4cfef 4 = .ok (.ifCond .eq 65, 3) := by decide +kernel
theorem dJ2_indexOfSupplementary_4cfef_7 : decode cJ2_indexOfSupplementary_4cfef 7 = .ok (.iload_n 1, 1) := by decide +kernel
theorem dJ2_indexOfSupplementary_4cfef_8 : decode cJ2_indexOfSupplementary_4cfef 8 = .ok (.invokestatic 157, 3) := by decide +kernel
theorem dJ2_indexOfSupplementary_4cfef_11 : decode cJ2_indexOfSupplementary_4cfef 11 = .ok (.istore 4, 2) := by decide +kernel
theorem dJ2_indexOfSupplementary_4cfef_13 : decode cJ2_indexOfSupplementary_4cfef 13 = .ok (.iload_n 1, 1) := by decide +kernel
theorem dJ2_indexOfSupplementary_4cfef_14 : decode cJ2_indexOfSupplementary_4cfef 14 = .ok (.invokestatic 161, 3) := by decide +kernel
theorem dJ2_indexOfSupplementary_4cfef_17 : decode cJ2_indexOfSupplementary_4cfef 17 = .ok (.istore 5, 2) := by decide +kernel
theorem dJ2_indexOfSupplementary_4cfef_19 : decode cJ2_indexOfSupplementary_4cfef 19 = .ok (.iload_n 2, 1) := by decide +kernel
theorem dJ2_indexOfSupplementary_4cfef_20 : decode cJ2_indexOfSupplementary_4cfef 20 = .ok (.iload_n 3, 1) := by decide +kernel
theorem dJ2_indexOfSupplementary_4cfef_21 : decode cJ2_indexOfSupplementary_4cfef 21 = .ok (.aload_n 0, 1) := by decide +kernel
theorem dJ2_indexOfSupplementary_4cfef_22 : decode cJ2_indexOfSupplementary_4cfef 22 = .ok (.invokestatic 96, 3) := by decide +kernel
theorem dJ2_indexOfSupplementary_4cfef_25 : decode cJ2_indexOfSupplementary_4cfef 25 = .ok (.iload_n 2, 1) := by decide +kernel
theorem dJ2_indexOfSupplementary_4cfef_26 : decode cJ2_indexOfSupplementary_4cfef 26 = .ok (.istore 6, 2) := by decide +kernel
theorem dJ2_indexOfSupplementary_4cfef_28 : decode cJ2_indexOfSupplementary_4cfef 28 = .ok (.iload 6, 2) := by decide +kernel
theorem dJ2_indexOfSupplementary_4cfef_30 : decode cJ2_indexOfSupplementary_4cfef 30 = .ok (.iload_n 3, 1) := by decide +kernel
theorem dJ2_indexOfSupplementary_4cfef_31 : decode cJ2_indexOfSupplementary_4cfef 31 = .ok (.iconst 1, 1) := by decide +kernel
theorem dJ2_indexOfSupplementary_4cfef_32 : decode cJ2_indexOfSupplementary_4cfef 32 = .ok (.isub, 1) := by decide +kernel
theorem dJ2_indexOfSupplementary_4cfef_33 : decode cJ2_indexOfSupplementary_4cfef 33 = .ok (.if_icmp .ge 36, 3) := by decide +kernel
theorem dJ2_indexOfSupplementary_4cfef_36 : decode cJ2_indexOfSupplementary_4cfef 36 = .ok (.aload_n 0, 1) := by decide +kernel
theorem dJ2_indexOfSupplementary_4cfef_37 : decode cJ2_indexOfSupplementary_4cfef 37 = .ok (.iload 6, 2) := by decide +kernel
theorem dJ2_indexOfSupplementary_4cfef_39 : decode cJ2_indexOfSupplementary_4cfef 39 = .ok (.invokestatic 71, 3) := by decide +kernel
theorem dJ2_indexOfSupplementary_4cfef_42 : decode cJ2_indexOfSupplementary_4cfef 42 = .ok (.iload 4, 2) := by decide +kernel
theorem dJ2_indexOfSupplementary_4cfef_44 : decode cJ2_indexOfSupplementary_4cfef 44 = .ok (.if_icmp .ne 19, 3) := by decide +kernel
theorem dJ2_indexOfSupplementary_4cfef_47 : decode cJ2_indexOfSupplementary_4cfef 47 = .ok (.aload_n 0, 1) := by decide +kernel
theorem dJ2_indexOfSupplementary_4cfef_48 : decode cJ2_indexOfSupplementary_4cfef 48 = .ok (.iload 6, 2) := by decide +kernel
theorem dJ2_indexOfSupplementary_4cfef_50 : decode cJ2_indexOfSupplementary_4cfef 50 = .ok (.iconst 1, 1) := by decide +kernel
theorem dJ2_indexOfSupplementary_4cfef_51 : decode cJ2_indexOfSupplementary_4cfef 51 = .ok (.iadd, 1) := by decide +kernel
theorem dJ2_indexOfSupplementary_4cfef_52 : decode cJ2_indexOfSupplementary_4cfef 52 = .ok (.invokestatic 71, 3) := by decide +kernel
theorem dJ2_indexOfSupplementary_4cfef_55 : decode cJ2_indexOfSupplementary_4cfef 55 = .ok (.iload 5, 2) := by decide +kernel
theorem dJ2_indexOfSupplementary_4cfef_57 : decode cJ2_indexOfSupplementary_4cfef 57 = .ok (.if_icmp .ne 6, 3) := by decide +kernel
theorem dJ2_indexOfSupplementary_4cfef_60 : decode cJ2_indexOfSupplementary_4cfef 60 = .ok (.iload 6, 2) := by decide +kernel
theorem dJ2_indexOfSupplementary_4cfef_62 : decode cJ2_indexOfSupplementary_4cfef 62 = .ok (.ireturn, 1) := by decide +kernel
theorem dJ2_indexOfSupplementary_4cfef_63 : decode cJ2_indexOfSupplementary_4cfef 63 = .ok (.iinc 6 1, 3) := by decide +kernel
theorem dJ2_indexOfSupplementary_4cfef_66 : decode cJ2_indexOfSupplementary_4cfef 66 = .ok (.goto (-38), 3) := by decide +kernel
theorem dJ2_indexOfSupplementary_4cfef_69 : decode cJ2_indexOfSupplementary_4cfef 69 = .ok (.iconst (-1), 1) := by decide +kernel
theorem dJ2_indexOfSupplementary_4cfef_70 : decode cJ2_indexOfSupplementary_4cfef 70 = .ok (.ireturn, 1) := by decide +kernel
theorem dJ2_charAt_3b067_0 : decode cJ2_charAt_3b067 0 = .ok (.iload_n 1, 1) := by decide +kernel
theorem dJ2_charAt_3b067_1 : decode cJ2_charAt_3b067 1 = .ok (.aload_n 0, 1) := by decide +kernel
theorem dJ2_charAt_3b067_2 : decode cJ2_charAt_3b067 2 = .ok (.invokestatic 67, 3) := by decide +kernel
theorem dJ2_charAt_3b067_5 : decode cJ2_charAt_3b067 5 = .ok (.aload_n 0, 1) := by decide +kernel
theorem dJ2_charAt_3b067_6 : decode cJ2_charAt_3b067 6 = .ok (.iload_n 1, 1) := by decide +kernel
theorem dJ2_charAt_3b067_7 : decode cJ2_charAt_3b067 7 = .ok (.invokestatic 71, 3) := by decide +kernel
theorem dJ2_charAt_3b067_10 : decode cJ2_charAt_3b067 10 = .ok (.ireturn, 1) := by decide +kernel
theorem dJ2_checkIndex_2214a_0 : decode cJ2_checkIndex_2214a 0 = .ok (.iload_n 0, 1) := by decide +kernel
theorem dJ2_checkIndex_2214a_1 : decode cJ2_checkIndex_2214a 1 = .ok (.aload_n 1, 1) := by decide +kernel
theorem dJ2_checkIndex_2214a_2 : decode cJ2_checkIndex_2214a 2 = .ok (.invokestatic 48, 3) := by decide +kernel
theorem dJ2_checkIndex_2214a_5 : decode cJ2_checkIndex_2214a 5 = .ok (.invokestatic 414, 3) := by decide +kernel
theorem dJ2_checkIndex_2214a_8 : decode cJ2_checkIndex_2214a 8 = .ok (.return_, 1) := by decide +kernel
theorem dJ2_checkBoundsBeginEnd_d044e_0 : decode cJ2_checkBoundsBeginEnd_d044e 0 = .ok (.iload_n 0, 1) := by decide +kernel
theorem dJ2_checkBoundsBeginEnd_d044e_1 : decode cJ2_checkBoundsBeginEnd_d044e 1 = .ok (.iload_n 1, 1) := by decide +kernel
theorem dJ2_checkBoundsBeginEnd_d044e_2 : decode cJ2_checkBoundsBeginEnd_d044e 2 = .ok (.aload_n 2, 1) := by decide +kernel
theorem dJ2_checkBoundsBeginEnd_d044e_3 : decode cJ2_checkBoundsBeginEnd_d044e 3 = .ok (.invokestatic 48, 3) := by decide +kernel
theorem dJ2_checkBoundsBeginEnd_d044e_6 : decode cJ2_checkBoundsBeginEnd_d044e 6 = .ok (.invokestatic 241, 3) := by decide +kernel
theorem dJ2_checkBoundsBeginEnd_d044e_9 : decode cJ2_checkBoundsBeginEnd_d044e 9 = .ok (.return_, 1) := by decide +kernel
theorem dJ7_fill_d0a16_0 : decode cJ7_fill_d0a16 0 = .ok (.iconst 0, 1) := by decide +kernel
theorem dJ7_fill_d0a16_1 : decode cJ7_fill_d0a16 1 = .ok (.istore_n 3, 1) := by decide +kernel
theorem dJ7_fill_d0a16_2 : decode cJ7_fill_d0a16 2 = .ok (.aload_n 0, 1) := by decide +kernel
theorem dJ7_fill_d0a16_3 : decode cJ7_fill_d0a16 3 = .ok (.arraylength, 1) := by decide +kernel
theorem dJ7_fill_d0a16_4 : decode cJ7_fill_d0a16 4 = .ok (.istore 4, 2) := by decide +kernel
theorem dJ7_fill_d0a16_6 : decode cJ7_fill_d0a16 6 = .ok (.iload_n 3, 1) := by decide +kernel
theorem dJ7_fill_d0a16_7 : decode cJ7_fill_d0a16 7 = .ok (.iload 4, 2) := by decide +kernel
theorem dJ7_fill_d0a16_9 : decode cJ7_fill_d0a16 9 = .ok (.if_icmp .ge 13, 3) := by decide +kernel
theorem dJ7_fill_d0a16_12 : decode cJ7_fill_d0a16 12 = .ok (.aload_n 0, 1) := by decide +kernel
theorem dJ7_fill_d0a16_13 : decode cJ7_fill_d0a16 13 = .ok (.iload_n 3, 1) := by decide +kernel
theorem dJ7_fill_d0a16_14 : decode cJ7_fill_d0a16 14 = .ok (.lload_n 1, 1) := by decide +kernel
theorem dJ7_fill_d0a16_15 : decode cJ7_fill_d0a16 15 = .ok (.lastore, 1) := by decide +kernel
theorem dJ7_fill_d0a16_16 : decode cJ7_fill_d0a16 16 = .ok (.iinc 3 1, 3) := by decide +kernel
theorem dJ7_fill_d0a16_19 : decode cJ7_fill_d0a16 19 = .ok (.goto (-13), 3) := by decide +kernel
theorem dJ7_fill_d0a16_22 : decode cJ7_fill_d0a16 22 = .ok (.return_, 1) := by decide +kernel
theorem dJ7_fill_53178_0 : decode cJ7_fill_53178 0 = .ok (.iconst 0, 1) := by decide +kernel
theorem dJ7_fill_53178_1 : decode cJ7_fill_53178 1 = .ok (.istore_n 2, 1) := by decide +kernel
theorem dJ7_fill_53178_2 : decode cJ7_fill_53178 2 = .ok (.aload_n 0, 1) := by decide +kernel
theorem dJ7_fill_53178_3 : decode cJ7_fill_53178 3 = .ok (.arraylength, 1) := by decide +kernel
theorem dJ7_fill_53178_4 : decode cJ7_fill_53178 4 = .ok (.istore_n 3, 1) := by decide +kernel
theorem dJ7_fill_53178_5 : decode cJ7_fill_53178 5 = .ok (.iload_n 2, 1) := by decide +kernel
theorem dJ7_fill_53178_6 : decode cJ7_fill_53178 6 = .ok (.iload_n 3, 1) := by decide +kernel
theorem dJ7_fill_53178_7 : decode cJ7_fill_53178 7 = .ok (.if_icmp .ge 13, 3) := by decide +kernel
theorem dJ7_fill_53178_10 : decode cJ7_fill_53178 10 = .ok (.aload_n 0, 1) := by decide +kernel
theorem dJ7_fill_53178_11 : decode cJ7_fill_53178 11 = .ok (.iload_n 2, 1) := by decide +kernel
theorem dJ7_fill_53178_12 : decode cJ7_fill_53178 12 = .ok (.iload_n 1, 1) := by decide +kernel
theorem dJ7_fill_53178_13 : decode cJ7_fill_53178 13 = .ok (.iastore, 1) := by decide +kernel
theorem dJ7_fill_53178_14 : decode cJ7_fill_53178 14 = .ok (.iinc 2 1, 3) := by decide +kernel
theorem dJ7_fill_53178_17 : decode cJ7_fill_53178 17 = .ok (.goto (-12), 3) := by decide +kernel
theorem dJ7_fill_53178_20 : decode cJ7_fill_53178 20 = .ok (.return_, 1) := by decide +kernel
theorem dJ3_checkIndex_8e157_0 : decode cJ3_checkIndex_8e157 0 = .ok (.iload_n 0, 1) := by decide +kernel
theorem dJ3_checkIndex_8e157_1 : decode cJ3_checkIndex_8e157 1 = .ok (.ifCond .lt 8, 3) := by decide +kernel
theorem dJ3_checkIndex_8e157_4 : decode cJ3_checkIndex_8e157 4 = .ok (.iload_n 0, 1) := by decide +kernel
theorem dJ3_checkIndex_8e157_5 : decode cJ3_checkIndex_8e157 5 = .ok (.iload_n 1, 1) := by decide +kernel
theorem dJ3_checkIndex_8e157_6 : decode cJ3_checkIndex_8e157 6 = .ok (.if_icmp .lt 10, 3) := by decide +kernel
theorem dJ3_checkIndex_8e157_9 : decode cJ3_checkIndex_8e157 9 = .ok (.aload_n 2, 1) := by decide +kernel
theorem dJ3_checkIndex_8e157_10 : decode cJ3_checkIndex_8e157 10 = .ok (.iload_n 0, 1) := by decide +kernel
theorem dJ3_checkIndex_8e157_11 : decode cJ3_checkIndex_8e157 11 = .ok (.iload_n 1, 1) := by decide +kernel
theorem dJ3_checkIndex_8e157_12 : decode cJ3_checkIndex_8e157 12 = .ok (.invokestatic 95, 3) := by decide +kernel
theorem dJ3_checkIndex_8e157_15 : decode cJ3_checkIndex_8e157 15 = .ok (.athrow, 1) := by decide +kernel
theorem dJ3_checkIndex_8e157_16 : decode cJ3_checkIndex_8e157 16 = .ok (.iload_n 0, 1) := by decide +kernel
theorem dJ3_checkIndex_8e157_17 : decode cJ3_checkIndex_8e157 17 = .ok (.ireturn, 1) := by decide +kernel
theorem dJ3_checkFromToIndex_8c36e_0 : decode cJ3_checkFromToIndex_8c36e 0 = .ok (.iload_n 0, 1) := by decide +kernel
theorem dJ3_checkFromToIndex_8c36e_1 : decode cJ3_checkFromToIndex_8c36e 1 = .ok (.ifCond .lt 13, 3) := by decide +kernel
theorem dJ3_checkFromToIndex_8c36e_4 : decode cJ3_checkFromToIndex_8c36e 4 = .ok (.iload_n 0, 1) := by decide +kernel
theorem dJ3_checkFromToIndex_8c36e_5 : decode cJ3_checkFromToIndex_8c36e 5 = .ok (.iload_n 1, 1) := by decide +kernel
theorem dJ3_checkFromToIndex_8c36e_6 : decode cJ3_checkFromToIndex_8c36e 6 = .ok (.if_icmp .gt 8, 3) := by decide +kernel
theorem dJ3_checkFromToIndex_8c36e_9 : decode cJ3_checkFromToIndex_8c36e 9 = .ok (.iload_n 1, 1) := by decide +kernel
theorem dJ3_checkFromToIndex_8c36e_10 : decode cJ3_checkFromToIndex_8c36e 10 = .ok (.iload_n 2, 1) := by decide +kernel
theorem dJ3_checkFromToIndex_8c36e_11 : decode cJ3_checkFromToIndex_8c36e 11 = .ok (.if_icmp .le 11, 3) := by decide +kernel
theorem dJ3_checkFromToIndex_8c36e_14 : decode cJ3_checkFromToIndex_8c36e 14 = .ok (.aload_n 3, 1) := by decide +kernel
theorem dJ3_checkFromToIndex_8c36e_15 : decode cJ3_checkFromToIndex_8c36e 15 = .ok (.iload_n 0, 1) := by decide +kernel
theorem dJ3_checkFromToIndex_8c36e_16 : decode cJ3_checkFromToIndex_8c36e 16 = .ok (.iload_n 1, 1) := by decide +kernel
theorem dJ3_checkFromToIndex_8c36e_17 : decode cJ3_checkFromToIndex_8c36e 17 = .ok (.iload_n 2, 1) := by decide +kernel
theorem dJ3_checkFromToIndex_8c36e_18 : decode cJ3_checkFromToIndex_8c36e 18 = .ok (.invokestatic 99, 3) := by decide +kernel
theorem dJ3_checkFromToIndex_8c36e_21 : decode cJ3_checkFromToIndex_8c36e 21 = .ok (.athrow, 1) := by decide +kernel
theorem dJ3_checkFromToIndex_8c36e_22 : decode cJ3_checkFromToIndex_8c36e 22 = .ok (.iload_n 0, 1) := by decide +kernel
theorem dJ3_checkFromToIndex_8c36e_23 : decode cJ3_checkFromToIndex_8c36e 23 = .ok (.ireturn, 1) := by decide +kernel
