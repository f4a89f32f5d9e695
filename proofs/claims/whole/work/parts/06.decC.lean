theorem d_Mod_init_0 : decode b_Mod_init 0 = .ok (.aload_n 0, 1) := by decide +kernel
theorem d_Mod_init_1 : decode b_Mod_init 1 = .ok (.invokespecial 1, 3) := by decide +kernel
theorem d_Mod_init_4 : decode b_Mod_init 4 = .ok (.aload_n 0, 1) := by decide +kernel
theorem d_Mod_init_5 : decode b_Mod_init 5 = .ok (.sipush 1240, 3) := by decide +kernel
theorem d_Mod_init_8 : decode b_Mod_init 8 = .ok (.newarray .int, 2) := by decide +kernel
theorem d_Mod_init_10 : decode b_Mod_init 10 = .ok (.putfield 7, 3) := by decide +kernel
theorem d_Mod_init_13 : decode b_Mod_init 13 = .ok (.aload_n 0, 1) := by decide +kernel
theorem d_Mod_init_14 : decode b_Mod_init 14 = .ok (.bipush 31, 2) := by decide +kernel
theorem d_Mod_init_16 : decode b_Mod_init 16 = .ok (.newarray .int, 2) := by decide +kernel
theorem d_Mod_init_18 : decode b_Mod_init 18 = .ok (.putfield 13, 3) := by decide +kernel
theorem d_Mod_init_21 : decode b_Mod_init 21 = .ok (.aload_n 0, 1) := by decide +kernel
theorem d_Mod_init_22 : decode b_Mod_init 22 = .ok (.bipush 40, 2) := by decide +kernel
theorem d_Mod_init_24 : decode b_Mod_init 24 = .ok (.newarray .int, 2) := by decide +kernel
theorem d_Mod_init_26 : decode b_Mod_init 26 = .ok (.putfield 16, 3) := by decide +kernel
theorem d_Mod_init_29 : decode b_Mod_init 29 = .ok (.aload_n 0, 1) := by decide +kernel
theorem d_Mod_init_30 : decode b_Mod_init 30 = .ok (.bipush 40, 2) := by decide +kernel
theorem d_Mod_init_32 : decode b_Mod_init 32 = .ok (.newarray .int, 2) := by decide +kernel
theorem d_Mod_init_34 : decode b_Mod_init 34 = .ok (.putfield 19, 3) := by decide +kernel
theorem d_Mod_init_37 : decode b_Mod_init 37 = .ok (.aload_n 0, 1) := by decide +kernel
theorem d_Mod_init_38 : decode b_Mod_init 38 = .ok (.bipush 40, 2) := by decide +kernel
theorem d_Mod_init_40 : decode b_Mod_init 40 = .ok (.newarray .int, 2) := by decide +kernel
theorem d_Mod_init_42 : decode b_Mod_init 42 = .ok (.putfield 22, 3) := by decide +kernel
theorem d_Mod_init_45 : decode b_Mod_init 45 = .ok (.aload_n 0, 1) := by decide +kernel
theorem d_Mod_init_46 : decode b_Mod_init 46 = .ok (.bipush 12, 2) := by decide +kernel
theorem d_Mod_init_48 : decode b_Mod_init 48 = .ok (.newarray .boolean, 2) := by decide +kernel
theorem d_Mod_init_50 : decode b_Mod_init 50 = .ok (.putfield 25, 3) := by decide +kernel
theorem d_Mod_init_53 : decode b_Mod_init 53 = .ok (.aload_n 0, 1) := by decide +kernel
theorem d_Mod_init_54 : decode b_Mod_init 54 = .ok (.bipush 12, 2) := by decide +kernel
theorem d_Mod_init_56 : decode b_Mod_init 56 = .ok (.newarray .int, 2) := by decide +kernel
theorem d_Mod_init_58 : decode b_Mod_init 58 = .ok (.putfield 29, 3) := by decide +kernel
theorem d_Mod_init_61 : decode b_Mod_init 61 = .ok (.aload_n 0, 1) := by decide +kernel
theorem d_Mod_init_62 : decode b_Mod_init 62 = .ok (.bipush 12, 2) := by decide +kernel
theorem d_Mod_init_64 : decode b_Mod_init 64 = .ok (.newarray .int, 2) := by decide +kernel
theorem d_Mod_init_66 : decode b_Mod_init 66 = .ok (.putfield 32, 3) := by decide +kernel
theorem d_Mod_init_69 : decode b_Mod_init 69 = .ok (.aload_n 0, 1) := by decide +kernel
theorem d_Mod_init_70 : decode b_Mod_init 70 = .ok (.bipush 48, 2) := by decide +kernel
theorem d_Mod_init_72 : decode b_Mod_init 72 = .ok (.newarray .int, 2) := by decide +kernel
theorem d_Mod_init_74 : decode b_Mod_init 74 = .ok (.putfield 35, 3) := by decide +kernel
theorem d_Mod_init_77 : decode b_Mod_init 77 = .ok (.aload_n 0, 1) := by decide +kernel
theorem d_Mod_init_78 : decode b_Mod_init 78 = .ok (.bipush 12, 2) := by decide +kernel
theorem d_Mod_init_80 : decode b_Mod_init 80 = .ok (.newarray .int, 2) := by decide +kernel
theorem d_Mod_init_82 : decode b_Mod_init 82 = .ok (.putfield 38, 3) := by decide +kernel
theorem d_Mod_init_85 : decode b_Mod_init 85 = .ok (.aload_n 0, 1) := by decide +kernel
theorem d_Mod_init_86 : decode b_Mod_init 86 = .ok (.bipush 12, 2) := by decide +kernel
theorem d_Mod_init_88 : decode b_Mod_init 88 = .ok (.newarray .int, 2) := by decide +kernel
theorem d_Mod_init_90 : decode b_Mod_init 90 = .ok (.putfield 41, 3) := by decide +kernel
theorem d_Mod_init_93 : decode b_Mod_init 93 = .ok (.aload_n 0, 1) := by decide +kernel
theorem d_Mod_init_94 : decode b_Mod_init 94 = .ok (.bipush 12, 2) := by decide +kernel
theorem d_Mod_init_96 : decode b_Mod_init 96 = .ok (.newarray .int, 2) := by decide +kernel
theorem d_Mod_init_98 : decode b_Mod_init 98 = .ok (.putfield 44, 3) := by decide +kernel
theorem d_Mod_init_101 : decode b_Mod_init 101 = .ok (.aload_n 0, 1) := by decide +kernel
theorem d_Mod_init_102 : decode b_Mod_init 102 = .ok (.bipush 12, 2) := by decide +kernel
theorem d_Mod_init_104 : decode b_Mod_init 104 = .ok (.newarray .int, 2) := by decide +kernel
theorem d_Mod_init_106 : decode b_Mod_init 106 = .ok (.putfield 47, 3) := by decide +kernel
theorem d_Mod_init_109 : decode b_Mod_init 109 = .ok (.aload_n 0, 1) := by decide +kernel
theorem d_Mod_init_110 : decode b_Mod_init 110 = .ok (.sipush 600, 3) := by decide +kernel
theorem d_Mod_init_113 : decode b_Mod_init 113 = .ok (.newarray .long, 2) := by decide +kernel
theorem d_Mod_init_115 : decode b_Mod_init 115 = .ok (.putfield 50, 3) := by decide +kernel
theorem d_Mod_init_118 : decode b_Mod_init 118 = .ok (.aload_n 0, 1) := by decide +kernel
theorem d_Mod_init_119 : decode b_Mod_init 119 = .ok (.sipush 600, 3) := by decide +kernel
theorem d_Mod_init_122 : decode b_Mod_init 122 = .ok (.newarray .int, 2) := by decide +kernel
theorem d_Mod_init_124 : decode b_Mod_init 124 = .ok (.putfield 54, 3) := by decide +kernel
theorem d_Mod_init_127 : decode b_Mod_init 127 = .ok (.aload_n 0, 1) := by decide +kernel
theorem d_Mod_init_128 : decode b_Mod_init 128 = .ok (.bipush 64, 2) := by decide +kernel
theorem d_Mod_init_130 : decode b_Mod_init 130 = .ok (.newarray .int, 2) := by decide +kernel
theorem d_Mod_init_132 : decode b_Mod_init 132 = .ok (.putfield 57, 3) := by decide +kernel
theorem d_Mod_init_135 : decode b_Mod_init 135 = .ok (.aload_n 0, 1) := by decide +kernel
theorem d_Mod_init_136 : decode b_Mod_init 136 = .ok (.iconst (-1), 1) := by decide +kernel
theorem d_Mod_init_137 : decode b_Mod_init 137 = .ok (.putfield 60, 3) := by decide +kernel
theorem d_Mod_init_140 : decode b_Mod_init 140 = .ok (.aload_n 0, 1) := by decide +kernel
theorem d_Mod_init_141 : decode b_Mod_init 141 = .ok (.bipush 44, 2) := by decide +kernel
theorem d_Mod_init_143 : decode b_Mod_init 143 = .ok (.newarray .int, 2) := by decide +kernel
theorem d_Mod_init_145 : decode b_Mod_init 145 = .ok (.putfield 64, 3) := by decide +kernel
theorem d_Mod_init_148 : decode b_Mod_init 148 = .ok (.aload_n 0, 1) := by decide +kernel
theorem d_Mod_init_149 : decode b_Mod_init 149 = .ok (.bipush 44, 2) := by decide +kernel
theorem d_Mod_init_151 : decode b_Mod_init 151 = .ok (.newarray .int, 2) := by decide +kernel
theorem d_Mod_init_153 : decode b_Mod_init 153 = .ok (.putfield 67, 3) := by decide +kernel
theorem d_Mod_init_156 : decode b_Mod_init 156 = .ok (.return_, 1) := by decide +kernel
theorem d_Mod_out_0 : decode b_Mod_out 0 = .ok (.iload_n 0, 1) := by decide +kernel
theorem d_Mod_out_1 : decode b_Mod_out 1 = .ok (.ifCond .lt 8, 3) := by decide +kernel
theorem d_Mod_out_4 : decode b_Mod_out 4 = .ok (.iload_n 0, 1) := by decide +kernel
theorem d_Mod_out_5 : decode b_Mod_out 5 = .ok (.iload_n 1, 1) := by decide +kernel
theorem d_Mod_out_6 : decode b_Mod_out 6 = .ok (.if_icmp .lt 7, 3) := by decide +kernel
theorem d_Mod_out_9 : decode b_Mod_out 9 = .ok (.iconst 1, 1) := by decide +kernel
theorem d_Mod_out_10 : decode b_Mod_out 10 = .ok (.goto 4, 3) := by decide +kernel
theorem d_Mod_out_13 : decode b_Mod_out 13 = .ok (.iconst 0, 1) := by decide +kernel
theorem d_Mod_out_14 : decode b_Mod_out 14 = .ok (.ireturn, 1) := by decide +kernel
theorem d_Mod_type_0 : decode b_Mod_type 0 = .ok (.iload_n 1, 1) := by decide +kernel
theorem d_Mod_type_1 : decode b_Mod_type 1 = .ok (.sipush 256, 3) := by decide +kernel
theorem d_Mod_type_4 : decode b_Mod_type 4 = .ok (.invokestatic 70, 3) := by decide +kernel
theorem d_Mod_type_7 : decode b_Mod_type 7 = .ok (.ifCond .eq 5, 3) := by decide +kernel
theorem d_Mod_type_10 : decode b_Mod_type 10 = .ok (.iconst (-1), 1) := by decide +kernel
theorem d_Mod_type_11 : decode b_Mod_type 11 = .ok (.ireturn, 1) := by decide +kernel
theorem d_Mod_type_12 : decode b_Mod_type 12 = .ok (.aload_n 0, 1) := by decide +kernel
theorem d_Mod_type_13 : decode b_Mod_type 13 = .ok (.getfield 13, 3) := by decide +kernel
theorem d_Mod_type_16 : decode b_Mod_type 16 = .ok (.bipush 30, 2) := by decide +kernel
theorem d_Mod_type_18 : decode b_Mod_type 18 = .ok (.iaload, 1) := by decide +kernel
theorem d_Mod_type_19 : decode b_Mod_type 19 = .ok (.bipush 40, 2) := by decide +kernel
theorem d_Mod_type_21 : decode b_Mod_type 21 = .ok (.if_icmp .ne 6, 3) := by decide +kernel
theorem d_Mod_type_24 : decode b_Mod_type 24 = .ok (.bipush (-2), 2) := by decide +kernel
theorem d_Mod_type_26 : decode b_Mod_type 26 = .ok (.ireturn, 1) := by decide +kernel
theorem d_Mod_type_27 : decode b_Mod_type 27 = .ok (.aload_n 0, 1) := by decide +kernel
theorem d_Mod_type_28 : decode b_Mod_type 28 = .ok (.getfield 7, 3) := by decide +kernel
theorem d_Mod_type_31 : decode b_Mod_type 31 = .ok (.sipush 1200, 3) := by decide +kernel
theorem d_Mod_type_34 : decode b_Mod_type 34 = .ok (.aload_n 0, 1) := by decide +kernel
theorem d_Mod_type_35 : decode b_Mod_type 35 = .ok (.getfield 13, 3) := by decide +kernel
theorem d_Mod_type_38 : decode b_Mod_type 38 = .ok (.bipush 30, 2) := by decide +kernel
theorem d_Mod_type_40 : decode b_Mod_type 40 = .ok (.iaload, 1) := by decide +kernel
theorem d_Mod_type_41 : decode b_Mod_type 41 = .ok (.iadd, 1) := by decide +kernel
theorem d_Mod_type_42 : decode b_Mod_type 42 = .ok (.iload_n 1, 1) := by decide +kernel
theorem d_Mod_type_43 : decode b_Mod_type 43 = .ok (.iastore, 1) := by decide +kernel
theorem d_Mod_type_44 : decode b_Mod_type 44 = .ok (.aload_n 0, 1) := by decide +kernel
theorem d_Mod_type_45 : decode b_Mod_type 45 = .ok (.getfield 13, 3) := by decide +kernel
theorem d_Mod_type_48 : decode b_Mod_type 48 = .ok (.bipush 30, 2) := by decide +kernel
theorem d_Mod_type_50 : decode b_Mod_type 50 = .ok (.dup2, 1) := by decide +kernel
theorem d_Mod_type_51 : decode b_Mod_type 51 = .ok (.iaload, 1) := by decide +kernel
theorem d_Mod_type_52 : decode b_Mod_type 52 = .ok (.iconst 1, 1) := by decide +kernel
theorem d_Mod_type_53 : decode b_Mod_type 53 = .ok (.iadd, 1) := by decide +kernel
theorem d_Mod_type_54 : decode b_Mod_type 54 = .ok (.iastore, 1) := by decide +kernel
theorem d_Mod_type_55 : decode b_Mod_type 55 = .ok (.aload_n 0, 1) := by decide +kernel
theorem d_Mod_type_56 : decode b_Mod_type 56 = .ok (.getfield 13, 3) := by decide +kernel
theorem d_Mod_type_59 : decode b_Mod_type 59 = .ok (.bipush 30, 2) := by decide +kernel
theorem d_Mod_type_61 : decode b_Mod_type 61 = .ok (.iaload, 1) := by decide +kernel
theorem d_Mod_type_62 : decode b_Mod_type 62 = .ok (.ireturn, 1) := by decide +kernel
theorem d_Mod_at_0 : decode b_Mod_at 0 = .ok (.aload_n 0, 1) := by decide +kernel
theorem d_Mod_at_1 : decode b_Mod_at 1 = .ok (.getfield 7, 3) := by decide +kernel
theorem d_Mod_at_4 : decode b_Mod_at 4 = .ok (.bipush 40, 2) := by decide +kernel
theorem d_Mod_at_6 : decode b_Mod_at 6 = .ok (.iload_n 1, 1) := by decide +kernel
theorem d_Mod_at_7 : decode b_Mod_at 7 = .ok (.imul, 1) := by decide +kernel
theorem d_Mod_at_8 : decode b_Mod_at 8 = .ok (.iload_n 2, 1) := by decide +kernel
theorem d_Mod_at_9 : decode b_Mod_at 9 = .ok (.iadd, 1) := by decide +kernel
theorem d_Mod_at_10 : decode b_Mod_at 10 = .ok (.iaload, 1) := by decide +kernel
theorem d_Mod_at_11 : decode b_Mod_at 11 = .ok (.ireturn, 1) := by decide +kernel
theorem d_Mod_enter_0 : decode b_Mod_enter 0 = .ok (.aload_n 0, 1) := by decide +kernel
theorem d_Mod_enter_1 : decode b_Mod_enter 1 = .ok (.getfield 74, 3) := by decide +kernel
theorem d_Mod_enter_4 : decode b_Mod_enter 4 = .ok (.bipush 30, 2) := by decide +kernel
theorem d_Mod_enter_6 : decode b_Mod_enter 6 = .ok (.if_icmp .ne 6, 3) := by decide +kernel
theorem d_Mod_enter_9 : decode b_Mod_enter 9 = .ok (.bipush (-2), 2) := by decide +kernel
theorem d_Mod_enter_11 : decode b_Mod_enter 11 = .ok (.ireturn, 1) := by decide +kernel
theorem d_Mod_enter_12 : decode b_Mod_enter 12 = .ok (.iconst 0, 1) := by decide +kernel
theorem d_Mod_enter_13 : decode b_Mod_enter 13 = .ok (.istore_n 1, 1) := by decide +kernel
theorem d_Mod_enter_14 : decode b_Mod_enter 14 = .ok (.iload_n 1, 1) := by decide +kernel
theorem d_Mod_enter_15 : decode b_Mod_enter 15 = .ok (.aload_n 0, 1) := by decide +kernel
theorem d_Mod_enter_16 : decode b_Mod_enter 16 = .ok (.getfield 13, 3) := by decide +kernel
theorem d_Mod_enter_19 : decode b_Mod_enter 19 = .ok (.bipush 30, 2) := by decide +kernel
theorem d_Mod_enter_21 : decode b_Mod_enter 21 = .ok (.iaload, 1) := by decide +kernel
theorem d_Mod_enter_22 : decode b_Mod_enter 22 = .ok (.if_icmp .ge 30, 3) := by decide +kernel
theorem d_Mod_enter_25 : decode b_Mod_enter 25 = .ok (.aload_n 0, 1) := by decide +kernel
theorem d_Mod_enter_26 : decode b_Mod_enter 26 = .ok (.getfield 7, 3) := by decide +kernel
theorem d_Mod_enter_29 : decode b_Mod_enter 29 = .ok (.bipush 40, 2) := by decide +kernel
theorem d_Mod_enter_31 : decode b_Mod_enter 31 = .ok (.aload_n 0, 1) := by decide +kernel
theorem d_Mod_enter_32 : decode b_Mod_enter 32 = .ok (.getfield 74, 3) := by decide +kernel
theorem d_Mod_enter_35 : decode b_Mod_enter 35 = .ok (.imul, 1) := by decide +kernel
theorem d_Mod_enter_36 : decode b_Mod_enter 36 = .ok (.iload_n 1, 1) := by decide +kernel
theorem d_Mod_enter_37 : decode b_Mod_enter 37 = .ok (.iadd, 1) := by decide +kernel
theorem d_Mod_enter_38 : decode b_Mod_enter 38 = .ok (.aload_n 0, 1) := by decide +kernel
theorem d_Mod_enter_39 : decode b_Mod_enter 39 = .ok (.bipush 30, 2) := by decide +kernel
theorem d_Mod_enter_41 : decode b_Mod_enter 41 = .ok (.iload_n 1, 1) := by decide +kernel
theorem d_Mod_enter_42 : decode b_Mod_enter 42 = .ok (.invokevirtual 77, 3) := by decide +kernel
theorem d_Mod_enter_45 : decode b_Mod_enter 45 = .ok (.iastore, 1) := by decide +kernel
theorem d_Mod_enter_46 : decode b_Mod_enter 46 = .ok (.iinc 1 1, 3) := by decide +kernel
theorem d_Mod_enter_49 : decode b_Mod_enter 49 = .ok (.goto (-35), 3) := by decide +kernel
theorem d_Mod_enter_52 : decode b_Mod_enter 52 = .ok (.aload_n 0, 1) := by decide +kernel
theorem d_Mod_enter_53 : decode b_Mod_enter 53 = .ok (.getfield 13, 3) := by decide +kernel
theorem d_Mod_enter_56 : decode b_Mod_enter 56 = .ok (.aload_n 0, 1) := by decide +kernel
theorem d_Mod_enter_57 : decode b_Mod_enter 57 = .ok (.getfield 74, 3) := by decide +kernel
theorem d_Mod_enter_60 : decode b_Mod_enter 60 = .ok (.aload_n 0, 1) := by decide +kernel
theorem d_Mod_enter_61 : decode b_Mod_enter 61 = .ok (.getfield 13, 3) := by decide +kernel
theorem d_Mod_enter_64 : decode b_Mod_enter 64 = .ok (.bipush 30, 2) := by decide +kernel
theorem d_Mod_enter_66 : decode b_Mod_enter 66 = .ok (.iaload, 1) := by decide +kernel
theorem d_Mod_enter_67 : decode b_Mod_enter 67 = .ok (.iastore, 1) := by decide +kernel
theorem d_Mod_enter_68 : decode b_Mod_enter 68 = .ok (.aload_n 0, 1) := by decide +kernel
theorem d_Mod_enter_69 : decode b_Mod_enter 69 = .ok (.getfield 13, 3) := by decide +kernel
theorem d_Mod_enter_72 : decode b_Mod_enter 72 = .ok (.bipush 30, 2) := by decide +kernel
theorem d_Mod_enter_74 : decode b_Mod_enter 74 = .ok (.iconst 0, 1) := by decide +kernel
theorem d_Mod_enter_75 : decode b_Mod_enter 75 = .ok (.iastore, 1) := by decide +kernel
theorem d_Mod_enter_76 : decode b_Mod_enter 76 = .ok (.aload_n 0, 1) := by decide +kernel
theorem d_Mod_enter_77 : decode b_Mod_enter 77 = .ok (.dup, 1) := by decide +kernel
theorem d_Mod_enter_78 : decode b_Mod_enter 78 = .ok (.getfield 74, 3) := by decide +kernel
theorem d_Mod_enter_81 : decode b_Mod_enter 81 = .ok (.iconst 1, 1) := by decide +kernel
theorem d_Mod_enter_82 : decode b_Mod_enter 82 = .ok (.iadd, 1) := by decide +kernel
theorem d_Mod_enter_83 : decode b_Mod_enter 83 = .ok (.putfield 74, 3) := by decide +kernel
theorem d_Mod_enter_86 : decode b_Mod_enter 86 = .ok (.aload_n 0, 1) := by decide +kernel
theorem d_Mod_enter_87 : decode b_Mod_enter 87 = .ok (.getfield 74, 3) := by decide +kernel
theorem d_Mod_enter_90 : decode b_Mod_enter 90 = .ok (.ireturn, 1) := by decide +kernel
theorem d_Mod_wipe_0 : decode b_Mod_wipe 0 = .ok (.aload_n 0, 1) := by decide +kernel
theorem d_Mod_wipe_1 : decode b_Mod_wipe 1 = .ok (.getfield 74, 3) := by decide +kernel
theorem d_Mod_wipe_4 : decode b_Mod_wipe 4 = .ok (.istore_n 1, 1) := by decide +kernel
theorem d_Mod_wipe_5 : decode b_Mod_wipe 5 = .ok (.aload_n 0, 1) := by decide +kernel
theorem d_Mod_wipe_6 : decode b_Mod_wipe 6 = .ok (.iconst 0, 1) := by decide +kernel
theorem d_Mod_wipe_7 : decode b_Mod_wipe 7 = .ok (.putfield 74, 3) := by decide +kernel
theorem d_Mod_wipe_10 : decode b_Mod_wipe 10 = .ok (.aload_n 0, 1) := by decide +kernel
theorem d_Mod_wipe_11 : decode b_Mod_wipe 11 = .ok (.getfield 13, 3) := by decide +kernel
theorem d_Mod_wipe_14 : decode b_Mod_wipe 14 = .ok (.bipush 30, 2) := by decide +kernel
theorem d_Mod_wipe_16 : decode b_Mod_wipe 16 = .ok (.iconst 0, 1) := by decide +kernel
theorem d_Mod_wipe_17 : decode b_Mod_wipe 17 = .ok (.iastore, 1) := by decide +kernel
theorem d_Mod_wipe_18 : decode b_Mod_wipe 18 = .ok (.iload_n 1, 1) := by decide +kernel
theorem d_Mod_wipe_19 : decode b_Mod_wipe 19 = .ok (.ireturn, 1) := by decide +kernel
theorem d_Mod_letter_0 : decode b_Mod_letter 0 = .ok (.iload_n 1, 1) := by decide +kernel
theorem d_Mod_letter_1 : decode b_Mod_letter 1 = .ok (.bipush 97, 2) := by decide +kernel
theorem d_Mod_letter_3 : decode b_Mod_letter 3 = .ok (.if_icmp .lt 18, 3) := by decide +kernel
theorem d_Mod_letter_6 : decode b_Mod_letter 6 = .ok (.iload_n 1, 1) := by decide +kernel
theorem d_Mod_letter_7 : decode b_Mod_letter 7 = .ok (.bipush 122, 2) := by decide +kernel
theorem d_Mod_letter_9 : decode b_Mod_letter 9 = .ok (.if_icmp .gt 12, 3) := by decide +kernel
theorem d_Mod_letter_12 : decode b_Mod_letter 12 = .ok (.iload_n 1, 1) := by decide +kernel
theorem d_Mod_letter_13 : decode b_Mod_letter 13 = .ok (.bipush 97, 2) := by decide +kernel
theorem d_Mod_letter_15 : decode b_Mod_letter 15 = .ok (.isub, 1) := by decide +kernel
theorem d_Mod_letter_16 : decode b_Mod_letter 16 = .ok (.iconst 1, 1) := by decide +kernel
theorem d_Mod_letter_17 : decode b_Mod_letter 17 = .ok (.iadd, 1) := by decide +kernel
theorem d_Mod_letter_18 : decode b_Mod_letter 18 = .ok (.goto 25, 3) := by decide +kernel
theorem d_Mod_letter_21 : decode b_Mod_letter 21 = .ok (.iload_n 1, 1) := by decide +kernel
theorem d_Mod_letter_22 : decode b_Mod_letter 22 = .ok (.bipush 65, 2) := by decide +kernel
theorem d_Mod_letter_24 : decode b_Mod_letter 24 = .ok (.if_icmp .lt 18, 3) := by decide +kernel
theorem d_Mod_letter_27 : decode b_Mod_letter 27 = .ok (.iload_n 1, 1) := by decide +kernel
theorem d_Mod_letter_28 : decode b_Mod_letter 28 = .ok (.bipush 90, 2) := by decide +kernel
theorem d_Mod_letter_30 : decode b_Mod_letter 30 = .ok (.if_icmp .gt 12, 3) := by decide +kernel
theorem d_Mod_letter_33 : decode b_Mod_letter 33 = .ok (.iload_n 1, 1) := by decide +kernel
theorem d_Mod_letter_34 : decode b_Mod_letter 34 = .ok (.bipush 65, 2) := by decide +kernel
theorem d_Mod_letter_36 : decode b_Mod_letter 36 = .ok (.isub, 1) := by decide +kernel
theorem d_Mod_letter_37 : decode b_Mod_letter 37 = .ok (.iconst 1, 1) := by decide +kernel
theorem d_Mod_letter_38 : decode b_Mod_letter 38 = .ok (.iadd, 1) := by decide +kernel
theorem d_Mod_letter_39 : decode b_Mod_letter 39 = .ok (.goto 4, 3) := by decide +kernel
theorem d_Mod_letter_42 : decode b_Mod_letter 42 = .ok (.iconst 0, 1) := by decide +kernel
theorem d_Mod_letter_43 : decode b_Mod_letter 43 = .ok (.istore_n 3, 1) := by decide +kernel
theorem d_Mod_letter_44 : decode b_Mod_letter 44 = .ok (.iload_n 3, 1) := by decide +kernel
theorem d_Mod_letter_45 : decode b_Mod_letter 45 = .ok (.ifCond .le 38, 3) := by decide +kernel
theorem d_Mod_letter_48 : decode b_Mod_letter 48 = .ok (.aload_n 0, 1) := by decide +kernel
theorem d_Mod_letter_49 : decode b_Mod_letter 49 = .ok (.getfield 114, 3) := by decide +kernel
theorem d_Mod_letter_52 : decode b_Mod_letter 52 = .ok (.bipush 12, 2) := by decide +kernel
theorem d_Mod_letter_54 : decode b_Mod_letter 54 = .ok (.if_icmp .ge 18, 3) := by decide +kernel
theorem d_Mod_letter_57 : decode b_Mod_letter 57 = .ok (.aload_n 0, 1) := by decide +kernel
theorem d_Mod_letter_58 : decode b_Mod_letter 58 = .ok (.ldc2_w 117, 3) := by decide +kernel
theorem d_Mod_letter_61 : decode b_Mod_letter 61 = .ok (.aload_n 0, 1) := by decide +kernel
theorem d_Mod_letter_62 : decode b_Mod_letter 62 = .ok (.getfield 119, 3) := by decide +kernel
theorem d_Mod_letter_65 : decode b_Mod_letter 65 = .ok (.lmul, 1) := by decide +kernel
theorem d_Mod_letter_66 : decode b_Mod_letter 66 = .ok (.iload_n 3, 1) := by decide +kernel
theorem d_Mod_letter_67 : decode b_Mod_letter 67 = .ok (.i2l, 1) := by decide +kernel
theorem d_Mod_letter_68 : decode b_Mod_letter 68 = .ok (.ladd, 1) := by decide +kernel
theorem d_Mod_letter_69 : decode b_Mod_letter 69 = .ok (.putfield 119, 3) := by decide +kernel
theorem d_Mod_letter_72 : decode b_Mod_letter 72 = .ok (.aload_n 0, 1) := by decide +kernel
theorem d_Mod_letter_73 : decode b_Mod_letter 73 = .ok (.dup, 1) := by decide +kernel
theorem d_Mod_letter_74 : decode b_Mod_letter 74 = .ok (.getfield 114, 3) := by decide +kernel
theorem d_Mod_letter_77 : decode b_Mod_letter 77 = .ok (.iconst 1, 1) := by decide +kernel
theorem d_Mod_letter_78 : decode b_Mod_letter 78 = .ok (.iadd, 1) := by decide +kernel
theorem d_Mod_letter_79 : decode b_Mod_letter 79 = .ok (.putfield 114, 3) := by decide +kernel
theorem d_Mod_letter_82 : decode b_Mod_letter 82 = .ok (.return_, 1) := by decide +kernel
theorem d_Mod_letter_83 : decode b_Mod_letter 83 = .ok (.aload_n 0, 1) := by decide +kernel
theorem d_Mod_letter_84 : decode b_Mod_letter 84 = .ok (.getfield 114, 3) := by decide +kernel
theorem d_Mod_letter_87 : decode b_Mod_letter 87 = .ok (.ifCond .le 79, 3) := by decide +kernel
theorem d_Mod_letter_90 : decode b_Mod_letter 90 = .ok (.aload_n 0, 1) := by decide +kernel
theorem d_Mod_letter_91 : decode b_Mod_letter 91 = .ok (.getfield 47, 3) := by decide +kernel
theorem d_Mod_letter_94 : decode b_Mod_letter 94 = .ok (.aload_n 0, 1) := by decide +kernel
theorem d_Mod_letter_95 : decode b_Mod_letter 95 = .ok (.getfield 104, 3) := by decide +kernel
theorem d_Mod_letter_98 : decode b_Mod_letter 98 = .ok (.iaload, 1) := by decide +kernel
theorem d_Mod_letter_99 : decode b_Mod_letter 99 = .ok (.bipush 50, 2) := by decide +kernel
theorem d_Mod_letter_101 : decode b_Mod_letter 101 = .ok (.if_icmp .ge 65, 3) := by decide +kernel
theorem d_Mod_letter_104 : decode b_Mod_letter 104 = .ok (.aload_n 0, 1) := by decide +kernel
theorem d_Mod_letter_105 : decode b_Mod_letter 105 = .ok (.getfield 50, 3) := by decide +kernel
theorem d_Mod_letter_108 : decode b_Mod_letter 108 = .ok (.bipush 50, 2) := by decide +kernel
theorem d_Mod_letter_110 : decode b_Mod_letter 110 = .ok (.aload_n 0, 1) := by decide +kernel
theorem d_Mod_letter_111 : decode b_Mod_letter 111 = .ok (.getfield 104, 3) := by decide +kernel
theorem d_Mod_letter_114 : decode b_Mod_letter 114 = .ok (.imul, 1) := by decide +kernel
theorem d_Mod_letter_115 : decode b_Mod_letter 115 = .ok (.aload_n 0, 1) := by decide +kernel
theorem d_Mod_letter_116 : decode b_Mod_letter 116 = .ok (.getfield 47, 3) := by decide +kernel
theorem d_Mod_letter_119 : decode b_Mod_letter 119 = .ok (.aload_n 0, 1) := by decide +kernel
theorem d_Mod_letter_120 : decode b_Mod_letter 120 = .ok (.getfield 104, 3) := by decide +kernel
theorem d_Mod_letter_123 : decode b_Mod_letter 123 = .ok (.iaload, 1) := by decide +kernel
theorem d_Mod_letter_124 : decode b_Mod_letter 124 = .ok (.iadd, 1) := by decide +kernel
theorem d_Mod_letter_125 : decode b_Mod_letter 125 = .ok (.aload_n 0, 1) := by decide +kernel
theorem d_Mod_letter_126 : decode b_Mod_letter 126 = .ok (.getfield 119, 3) := by decide +kernel
theorem d_Mod_letter_129 : decode b_Mod_letter 129 = .ok (.lastore, 1) := by decide +kernel
theorem d_Mod_letter_130 : decode b_Mod_letter 130 = .ok (.aload_n 0, 1) := by decide +kernel
theorem d_Mod_letter_131 : decode b_Mod_letter 131 = .ok (.getfield 54, 3) := by decide +kernel
theorem d_Mod_letter_134 : decode b_Mod_letter 134 = .ok (.bipush 50, 2) := by decide +kernel
theorem d_Mod_letter_136 : decode b_Mod_letter 136 = .ok (.aload_n 0, 1) := by decide +kernel
theorem d_Mod_letter_137 : decode b_Mod_letter 137 = .ok (.getfield 104, 3) := by decide +kernel
theorem d_Mod_letter_140 : decode b_Mod_letter 140 = .ok (.imul, 1) := by decide +kernel
theorem d_Mod_letter_141 : decode b_Mod_letter 141 = .ok (.aload_n 0, 1) := by decide +kernel
theorem d_Mod_letter_142 : decode b_Mod_letter 142 = .ok (.getfield 47, 3) := by decide +kernel
theorem d_Mod_letter_145 : decode b_Mod_letter 145 = .ok (.aload_n 0, 1) := by decide +kernel
theorem d_Mod_letter_146 : decode b_Mod_letter 146 = .ok (.getfield 104, 3) := by decide +kernel
theorem d_Mod_letter_149 : decode b_Mod_letter 149 = .ok (.iaload, 1) := by decide +kernel
theorem d_Mod_letter_150 : decode b_Mod_letter 150 = .ok (.iadd, 1) := by decide +kernel
theorem d_Mod_letter_151 : decode b_Mod_letter 151 = .ok (.iload_n 2, 1) := by decide +kernel
theorem d_Mod_letter_152 : decode b_Mod_letter 152 = .ok (.iastore, 1) := by decide +kernel
theorem d_Mod_letter_153 : decode b_Mod_letter 153 = .ok (.aload_n 0, 1) := by decide +kernel
theorem d_Mod_letter_154 : decode b_Mod_letter 154 = .ok (.getfield 47, 3) := by decide +kernel
theorem d_Mod_letter_157 : decode b_Mod_letter 157 = .ok (.aload_n 0, 1) := by decide +kernel
theorem d_Mod_letter_158 : decode b_Mod_letter 158 = .ok (.getfield 104, 3) := by decide +kernel
theorem d_Mod_letter_161 : decode b_Mod_letter 161 = .ok (.dup2, 1) := by decide +kernel
theorem d_Mod_letter_162 : decode b_Mod_letter 162 = .ok (.iaload, 1) := by decide +kernel
theorem d_Mod_letter_163 : decode b_Mod_letter 163 = .ok (.iconst 1, 1) := by decide +kernel
theorem d_Mod_letter_164 : decode b_Mod_letter 164 = .ok (.iadd, 1) := by decide +kernel
theorem d_Mod_letter_165 : decode b_Mod_letter 165 = .ok (.iastore, 1) := by decide +kernel
theorem d_Mod_letter_166 : decode b_Mod_letter 166 = .ok (.aload_n 0, 1) := by decide +kernel
theorem d_Mod_letter_167 : decode b_Mod_letter 167 = .ok (.lconst 0, 1) := by decide +kernel
theorem d_Mod_letter_168 : decode b_Mod_letter 168 = .ok (.putfield 119, 3) := by decide +kernel
theorem d_Mod_letter_171 : decode b_Mod_letter 171 = .ok (.aload_n 0, 1) := by decide +kernel
theorem d_Mod_letter_172 : decode b_Mod_letter 172 = .ok (.iconst 0, 1) := by decide +kernel
theorem d_Mod_letter_173 : decode b_Mod_letter 173 = .ok (.putfield 114, 3) := by decide +kernel
theorem d_Mod_letter_176 : decode b_Mod_letter 176 = .ok (.return_, 1) := by decide +kernel
theorem d_Mod_collect_0 : decode b_Mod_collect 0 = .ok (.iload_n 2, 1) := by decide +kernel
theorem d_Mod_collect_1 : decode b_Mod_collect 1 = .ok (.istore 4, 2) := by decide +kernel
theorem d_Mod_collect_3 : decode b_Mod_collect 3 = .ok (.iload 4, 2) := by decide +kernel
theorem d_Mod_collect_5 : decode b_Mod_collect 5 = .ok (.aload_n 0, 1) := by decide +kernel
theorem d_Mod_collect_6 : decode b_Mod_collect 6 = .ok (.getfield 13, 3) := by decide +kernel
theorem d_Mod_collect_9 : decode b_Mod_collect 9 = .ok (.iload_n 1, 1) := by decide +kernel
theorem d_Mod_collect_10 : decode b_Mod_collect 10 = .ok (.iaload, 1) := by decide +kernel
theorem d_Mod_collect_11 : decode b_Mod_collect 11 = .ok (.if_icmp .ge 21, 3) := by decide +kernel
theorem d_Mod_collect_14 : decode b_Mod_collect 14 = .ok (.aload_n 0, 1) := by decide +kernel
theorem d_Mod_collect_15 : decode b_Mod_collect 15 = .ok (.aload_n 0, 1) := by decide +kernel
theorem d_Mod_collect_16 : decode b_Mod_collect 16 = .ok (.iload_n 1, 1) := by decide +kernel
theorem d_Mod_collect_17 : decode b_Mod_collect 17 = .ok (.iload 4, 2) := by decide +kernel
theorem d_Mod_collect_19 : decode b_Mod_collect 19 = .ok (.invokevirtual 77, 3) := by decide +kernel
theorem d_Mod_collect_22 : decode b_Mod_collect 22 = .ok (.iload_n 3, 1) := by decide +kernel
theorem d_Mod_collect_23 : decode b_Mod_collect 23 = .ok (.invokevirtual 123, 3) := by decide +kernel
theorem d_Mod_collect_26 : decode b_Mod_collect 26 = .ok (.iinc 4 1, 3) := by decide +kernel
theorem d_Mod_collect_29 : decode b_Mod_collect 29 = .ok (.goto (-26), 3) := by decide +kernel
theorem d_Mod_collect_32 : decode b_Mod_collect 32 = .ok (.aload_n 0, 1) := by decide +kernel
theorem d_Mod_collect_33 : decode b_Mod_collect 33 = .ok (.iconst 0, 1) := by decide +kernel
theorem d_Mod_collect_34 : decode b_Mod_collect 34 = .ok (.iload_n 3, 1) := by decide +kernel
theorem d_Mod_collect_35 : decode b_Mod_collect 35 = .ok (.invokevirtual 123, 3) := by decide +kernel
theorem d_Mod_collect_38 : decode b_Mod_collect 38 = .ok (.return_, 1) := by decide +kernel
theorem d_Mod_emptyLine_0 : decode b_Mod_emptyLine 0 = .ok (.iload_n 1, 1) := by decide +kernel
theorem d_Mod_emptyLine_1 : decode b_Mod_emptyLine 1 = .ok (.istore_n 3, 1) := by decide +kernel
theorem d_Mod_emptyLine_2 : decode b_Mod_emptyLine 2 = .ok (.iload_n 3, 1) := by decide +kernel
theorem d_Mod_emptyLine_3 : decode b_Mod_emptyLine 3 = .ok (.iload_n 2, 1) := by decide +kernel
theorem d_Mod_emptyLine_4 : decode b_Mod_emptyLine 4 = .ok (.if_icmp .ge 18, 3) := by decide +kernel
theorem d_Mod_emptyLine_7 : decode b_Mod_emptyLine 7 = .ok (.aload_n 0, 1) := by decide +kernel
theorem d_Mod_emptyLine_8 : decode b_Mod_emptyLine 8 = .ok (.getfield 13, 3) := by decide +kernel
theorem d_Mod_emptyLine_11 : decode b_Mod_emptyLine 11 = .ok (.iload_n 3, 1) := by decide +kernel
theorem d_Mod_emptyLine_12 : decode b_Mod_emptyLine 12 = .ok (.iaload, 1) := by decide +kernel
theorem d_Mod_emptyLine_13 : decode b_Mod_emptyLine 13 = .ok (.ifCond .le 9, 3) := by decide +kernel
theorem d_Mod_emptyLine_16 : decode b_Mod_emptyLine 16 = .ok (.iinc 3 1, 3) := by decide +kernel
theorem d_Mod_emptyLine_19 : decode b_Mod_emptyLine 19 = .ok (.goto (-17), 3) := by decide +kernel
theorem d_Mod_emptyLine_22 : decode b_Mod_emptyLine 22 = .ok (.iload_n 3, 1) := by decide +kernel
theorem d_Mod_emptyLine_23 : decode b_Mod_emptyLine 23 = .ok (.ireturn, 1) := by decide +kernel
theorem d_Mod_header_0 : decode b_Mod_header 0 = .ok (.iconst (-1), 1) := by decide +kernel
theorem d_Mod_header_1 : decode b_Mod_header 1 = .ok (.istore 4, 2) := by decide +kernel
theorem d_Mod_header_3 : decode b_Mod_header 3 = .ok (.aload_n 0, 1) := by decide +kernel
theorem d_Mod_header_4 : decode b_Mod_header 4 = .ok (.iload_n 1, 1) := by decide +kernel
theorem d_Mod_header_5 : decode b_Mod_header 5 = .ok (.iload_n 2, 1) := by decide +kernel
theorem d_Mod_header_6 : decode b_Mod_header 6 = .ok (.invokevirtual 81, 3) := by decide +kernel
theorem d_Mod_header_9 : decode b_Mod_header 9 = .ok (.istore 5, 2) := by decide +kernel
theorem d_Mod_header_11 : decode b_Mod_header 11 = .ok (.iload_n 1, 1) := by decide +kernel
theorem d_Mod_header_12 : decode b_Mod_header 12 = .ok (.istore 6, 2) := by decide +kernel
theorem d_Mod_header_14 : decode b_Mod_header 14 = .ok (.iload 6, 2) := by decide +kernel
theorem d_Mod_header_16 : decode b_Mod_header 16 = .ok (.iload 5, 2) := by decide +kernel
theorem d_Mod_header_18 : decode b_Mod_header 18 = .ok (.if_icmp .ge 47, 3) := by decide +kernel
theorem d_Mod_header_21 : decode b_Mod_header 21 = .ok (.aload_n 0, 1) := by decide +kernel
theorem d_Mod_header_22 : decode b_Mod_header 22 = .ok (.getfield 13, 3) := by decide +kernel
theorem d_Mod_header_25 : decode b_Mod_header 25 = .ok (.iload 6, 2) := by decide +kernel
theorem d_Mod_header_27 : decode b_Mod_header 27 = .ok (.iaload, 1) := by decide +kernel
theorem d_Mod_header_28 : decode b_Mod_header 28 = .ok (.iconst 1, 1) := by decide +kernel
theorem d_Mod_header_29 : decode b_Mod_header 29 = .ok (.if_icmp .le 30, 3) := by decide +kernel
theorem d_Mod_header_32 : decode b_Mod_header 32 = .ok (.aload_n 0, 1) := by decide +kernel
theorem d_Mod_header_33 : decode b_Mod_header 33 = .ok (.iload 6, 2) := by decide +kernel
theorem d_Mod_header_35 : decode b_Mod_header 35 = .ok (.iconst 1, 1) := by decide +kernel
theorem d_Mod_header_36 : decode b_Mod_header 36 = .ok (.invokevirtual 77, 3) := by decide +kernel
theorem d_Mod_header_39 : decode b_Mod_header 39 = .ok (.bipush 58, 2) := by decide +kernel
theorem d_Mod_header_41 : decode b_Mod_header 41 = .ok (.if_icmp .ne 18, 3) := by decide +kernel
theorem d_Mod_header_44 : decode b_Mod_header 44 = .ok (.aload_n 0, 1) := by decide +kernel
theorem d_Mod_header_45 : decode b_Mod_header 45 = .ok (.iload 6, 2) := by decide +kernel
theorem d_Mod_header_47 : decode b_Mod_header 47 = .ok (.iconst 0, 1) := by decide +kernel
theorem d_Mod_header_48 : decode b_Mod_header 48 = .ok (.invokevirtual 77, 3) := by decide +kernel
theorem d_Mod_header_51 : decode b_Mod_header 51 = .ok (.iload_n 3, 1) := by decide +kernel
theorem d_Mod_header_52 : decode b_Mod_header 52 = .ok (.if_icmp .ne 7, 3) := by decide +kernel
theorem d_Mod_header_55 : decode b_Mod_header 55 = .ok (.iload 6, 2) := by decide +kernel
theorem d_Mod_header_57 : decode b_Mod_header 57 = .ok (.istore 4, 2) := by decide +kernel
theorem d_Mod_header_59 : decode b_Mod_header 59 = .ok (.iinc 6 1, 3) := by decide +kernel
theorem d_Mod_header_62 : decode b_Mod_header 62 = .ok (.goto (-48), 3) := by decide +kernel
theorem d_Mod_header_65 : decode b_Mod_header 65 = .ok (.iload 4, 2) := by decide +kernel
theorem d_Mod_header_67 : decode b_Mod_header 67 = .ok (.ireturn, 1) := by decide +kernel
theorem d_Mod_push_0 : decode b_Mod_push 0 = .ok (.aload_n 0, 1) := by decide +kernel
theorem d_Mod_push_1 : decode b_Mod_push 1 = .ok (.getfield 16, 3) := by decide +kernel
theorem d_Mod_push_4 : decode b_Mod_push 4 = .ok (.aload_n 0, 1) := by decide +kernel
theorem d_Mod_push_5 : decode b_Mod_push 5 = .ok (.getfield 84, 3) := by decide +kernel
theorem d_Mod_push_8 : decode b_Mod_push 8 = .ok (.iload_n 1, 1) := by decide +kernel
theorem d_Mod_push_9 : decode b_Mod_push 9 = .ok (.iastore, 1) := by decide +kernel
theorem d_Mod_push_10 : decode b_Mod_push 10 = .ok (.aload_n 0, 1) := by decide +kernel
theorem d_Mod_push_11 : decode b_Mod_push 11 = .ok (.getfield 19, 3) := by decide +kernel
theorem d_Mod_push_14 : decode b_Mod_push 14 = .ok (.aload_n 0, 1) := by decide +kernel
theorem d_Mod_push_15 : decode b_Mod_push 15 = .ok (.getfield 84, 3) := by decide +kernel
theorem d_Mod_push_18 : decode b_Mod_push 18 = .ok (.iload_n 2, 1) := by decide +kernel
theorem d_Mod_push_19 : decode b_Mod_push 19 = .ok (.iastore, 1) := by decide +kernel
theorem d_Mod_push_20 : decode b_Mod_push 20 = .ok (.aload_n 0, 1) := by decide +kernel
theorem d_Mod_push_21 : decode b_Mod_push 21 = .ok (.getfield 22, 3) := by decide +kernel
theorem d_Mod_push_24 : decode b_Mod_push 24 = .ok (.aload_n 0, 1) := by decide +kernel
theorem d_Mod_push_25 : decode b_Mod_push 25 = .ok (.getfield 84, 3) := by decide +kernel
theorem d_Mod_push_28 : decode b_Mod_push 28 = .ok (.iload_n 3, 1) := by decide +kernel
theorem d_Mod_push_29 : decode b_Mod_push 29 = .ok (.iastore, 1) := by decide +kernel
theorem d_Mod_push_30 : decode b_Mod_push 30 = .ok (.aload_n 0, 1) := by decide +kernel
theorem d_Mod_push_31 : decode b_Mod_push 31 = .ok (.dup, 1) := by decide +kernel
theorem d_Mod_push_32 : decode b_Mod_push 32 = .ok (.getfield 84, 3) := by decide +kernel
theorem d_Mod_push_35 : decode b_Mod_push 35 = .ok (.iconst 1, 1) := by decide +kernel
theorem d_Mod_push_36 : decode b_Mod_push 36 = .ok (.iadd, 1) := by decide +kernel
theorem d_Mod_push_37 : decode b_Mod_push 37 = .ok (.putfield 84, 3) := by decide +kernel
theorem d_Mod_push_40 : decode b_Mod_push 40 = .ok (.return_, 1) := by decide +kernel
theorem d_Mod_number_0 : decode b_Mod_number 0 = .ok (.iload_n 3, 1) := by decide +kernel
theorem d_Mod_number_1 : decode b_Mod_number 1 = .ok (.iload_n 2, 1) := by decide +kernel
theorem d_Mod_number_2 : decode b_Mod_number 2 = .ok (.isub, 1) := by decide +kernel
theorem d_Mod_number_3 : decode b_Mod_number 3 = .ok (.iconst 1, 1) := by decide +kernel
theorem d_Mod_number_4 : decode b_Mod_number 4 = .ok (.if_icmp .lt 10, 3) := by decide +kernel
theorem d_Mod_number_7 : decode b_Mod_number 7 = .ok (.iload_n 3, 1) := by decide +kernel
theorem d_Mod_number_8 : decode b_Mod_number 8 = .ok (.iload_n 2, 1) := by decide +kernel
theorem d_Mod_number_9 : decode b_Mod_number 9 = .ok (.isub, 1) := by decide +kernel
theorem d_Mod_number_10 : decode b_Mod_number 10 = .ok (.iconst 2, 1) := by decide +kernel
theorem d_Mod_number_11 : decode b_Mod_number 11 = .ok (.if_icmp .le 5, 3) := by decide +kernel
theorem d_Mod_number_14 : decode b_Mod_number 14 = .ok (.iconst (-1), 1) := by decide +kernel
theorem d_Mod_number_15 : decode b_Mod_number 15 = .ok (.ireturn, 1) := by decide +kernel
theorem d_Mod_number_16 : decode b_Mod_number 16 = .ok (.iconst 0, 1) := by decide +kernel
theorem d_Mod_number_17 : decode b_Mod_number 17 = .ok (.istore 4, 2) := by decide +kernel
theorem d_Mod_number_19 : decode b_Mod_number 19 = .ok (.iload_n 2, 1) := by decide +kernel
theorem d_Mod_number_20 : decode b_Mod_number 20 = .ok (.istore 5, 2) := by decide +kernel
theorem d_Mod_number_22 : decode b_Mod_number 22 = .ok (.iload 5, 2) := by decide +kernel
theorem d_Mod_number_24 : decode b_Mod_number 24 = .ok (.iload_n 3, 1) := by decide +kernel
theorem d_Mod_number_25 : decode b_Mod_number 25 = .ok (.if_icmp .ge 53, 3) := by decide +kernel
theorem d_Mod_number_28 : decode b_Mod_number 28 = .ok (.aload_n 0, 1) := by decide +kernel
theorem d_Mod_number_29 : decode b_Mod_number 29 = .ok (.iload_n 1, 1) := by decide +kernel
theorem d_Mod_number_30 : decode b_Mod_number 30 = .ok (.iload 5, 2) := by decide +kernel
theorem d_Mod_number_32 : decode b_Mod_number 32 = .ok (.invokevirtual 77, 3) := by decide +kernel
theorem d_Mod_number_35 : decode b_Mod_number 35 = .ok (.bipush 48, 2) := by decide +kernel
theorem d_Mod_number_37 : decode b_Mod_number 37 = .ok (.if_icmp .lt 15, 3) := by decide +kernel
theorem d_Mod_number_40 : decode b_Mod_number 40 = .ok (.aload_n 0, 1) := by decide +kernel
theorem d_Mod_number_41 : decode b_Mod_number 41 = .ok (.iload_n 1, 1) := by decide +kernel
theorem d_Mod_number_42 : decode b_Mod_number 42 = .ok (.iload 5, 2) := by decide +kernel
theorem d_Mod_number_44 : decode b_Mod_number 44 = .ok (.invokevirtual 77, 3) := by decide +kernel
theorem d_Mod_number_47 : decode b_Mod_number 47 = .ok (.bipush 57, 2) := by decide +kernel
theorem d_Mod_number_49 : decode b_Mod_number 49 = .ok (.if_icmp .le 5, 3) := by decide +kernel
theorem d_Mod_number_52 : decode b_Mod_number 52 = .ok (.iconst (-1), 1) := by decide +kernel
theorem d_Mod_number_53 : decode b_Mod_number 53 = .ok (.ireturn, 1) := by decide +kernel
theorem d_Mod_number_54 : decode b_Mod_number 54 = .ok (.bipush 10, 2) := by decide +kernel
theorem d_Mod_number_56 : decode b_Mod_number 56 = .ok (.iload 4, 2) := by decide +kernel
theorem d_Mod_number_58 : decode b_Mod_number 58 = .ok (.imul, 1) := by decide +kernel
theorem d_Mod_number_59 : decode b_Mod_number 59 = .ok (.aload_n 0, 1) := by decide +kernel
theorem d_Mod_number_60 : decode b_Mod_number 60 = .ok (.iload_n 1, 1) := by decide +kernel
theorem d_Mod_number_61 : decode b_Mod_number 61 = .ok (.iload 5, 2) := by decide +kernel
theorem d_Mod_number_63 : decode b_Mod_number 63 = .ok (.invokevirtual 77, 3) := by decide +kernel
theorem d_Mod_number_66 : decode b_Mod_number 66 = .ok (.iadd, 1) := by decide +kernel
theorem d_Mod_number_67 : decode b_Mod_number 67 = .ok (.bipush 48, 2) := by decide +kernel
theorem d_Mod_number_69 : decode b_Mod_number 69 = .ok (.isub, 1) := by decide +kernel
theorem d_Mod_number_70 : decode b_Mod_number 70 = .ok (.istore 4, 2) := by decide +kernel
theorem d_Mod_number_72 : decode b_Mod_number 72 = .ok (.iinc 5 1, 3) := by decide +kernel
theorem d_Mod_number_75 : decode b_Mod_number 75 = .ok (.goto (-53), 3) := by decide +kernel
theorem d_Mod_number_78 : decode b_Mod_number 78 = .ok (.iload 4, 2) := by decide +kernel
theorem d_Mod_number_80 : decode b_Mod_number 80 = .ok (.bipush 63, 2) := by decide +kernel
theorem d_Mod_number_82 : decode b_Mod_number 82 = .ok (.if_icmp .le 7, 3) := by decide +kernel
theorem d_Mod_number_85 : decode b_Mod_number 85 = .ok (.iconst (-1), 1) := by decide +kernel
theorem d_Mod_number_86 : decode b_Mod_number 86 = .ok (.goto 5, 3) := by decide +kernel
theorem d_Mod_number_89 : decode b_Mod_number 89 = .ok (.iload 4, 2) := by decide +kernel
theorem d_Mod_number_91 : decode b_Mod_number 91 = .ok (.ireturn, 1) := by decide +kernel
theorem d_Mod_readReferences_0 : decode b_Mod_readReferences 0 = .ok (.iconst 0, 1) := by decide +kernel
theorem d_Mod_readReferences_1 : decode b_Mod_readReferences 1 = .ok (.istore_n 3, 1) := by decide +kernel
theorem d_Mod_readReferences_2 : decode b_Mod_readReferences 2 = .ok (.iconst 2, 1) := by decide +kernel
theorem d_Mod_readReferences_3 : decode b_Mod_readReferences 3 = .ok (.istore 4, 2) := by decide +kernel
theorem d_Mod_readReferences_5 : decode b_Mod_readReferences 5 = .ok (.iconst 1, 1) := by decide +kernel
theorem d_Mod_readReferences_6 : decode b_Mod_readReferences 6 = .ok (.istore 5, 2) := by decide +kernel
theorem d_Mod_readReferences_8 : decode b_Mod_readReferences 8 = .ok (.iconst 2, 1) := by decide +kernel
theorem d_Mod_readReferences_9 : decode b_Mod_readReferences 9 = .ok (.istore 6, 2) := by decide +kernel
theorem d_Mod_readReferences_11 : decode b_Mod_readReferences 11 = .ok (.iload 6, 2) := by decide +kernel
theorem d_Mod_readReferences_13 : decode b_Mod_readReferences 13 = .ok (.aload_n 0, 1) := by decide +kernel
theorem d_Mod_readReferences_14 : decode b_Mod_readReferences 14 = .ok (.getfield 13, 3) := by decide +kernel
theorem d_Mod_readReferences_17 : decode b_Mod_readReferences 17 = .ok (.iload_n 2, 1) := by decide +kernel
theorem d_Mod_readReferences_18 : decode b_Mod_readReferences 18 = .ok (.iaload, 1) := by decide +kernel
theorem d_Mod_readReferences_19 : decode b_Mod_readReferences 19 = .ok (.if_icmp .gt 88, 3) := by decide +kernel
theorem d_Mod_readReferences_22 : decode b_Mod_readReferences 22 = .ok (.iload 6, 2) := by decide +kernel
theorem d_Mod_readReferences_24 : decode b_Mod_readReferences 24 = .ok (.aload_n 0, 1) := by decide +kernel
theorem d_Mod_readReferences_25 : decode b_Mod_readReferences 25 = .ok (.getfield 13, 3) := by decide +kernel
theorem d_Mod_readReferences_28 : decode b_Mod_readReferences 28 = .ok (.iload_n 2, 1) := by decide +kernel
theorem d_Mod_readReferences_29 : decode b_Mod_readReferences 29 = .ok (.iaload, 1) := by decide +kernel
theorem d_Mod_readReferences_30 : decode b_Mod_readReferences 30 = .ok (.if_icmp .ge 18, 3) := by decide +kernel
theorem d_Mod_readReferences_33 : decode b_Mod_readReferences 33 = .ok (.aload_n 0, 1) := by decide +kernel
theorem d_Mod_readReferences_34 : decode b_Mod_readReferences 34 = .ok (.iload_n 2, 1) := by decide +kernel
theorem d_Mod_readReferences_35 : decode b_Mod_readReferences 35 = .ok (.iload 6, 2) := by decide +kernel
theorem d_Mod_readReferences_37 : decode b_Mod_readReferences 37 = .ok (.invokevirtual 77, 3) := by decide +kernel
theorem d_Mod_readReferences_40 : decode b_Mod_readReferences 40 = .ok (.bipush 32, 2) := by decide +kernel
theorem d_Mod_readReferences_42 : decode b_Mod_readReferences 42 = .ok (.if_icmp .eq 6, 3) := by decide +kernel
theorem d_Mod_readReferences_45 : decode b_Mod_readReferences 45 = .ok (.goto 56, 3) := by decide +kernel
theorem d_Mod_readReferences_48 : decode b_Mod_readReferences 48 = .ok (.aload_n 0, 1) := by decide +kernel
theorem d_Mod_readReferences_49 : decode b_Mod_readReferences 49 = .ok (.iload_n 2, 1) := by decide +kernel
theorem d_Mod_readReferences_50 : decode b_Mod_readReferences 50 = .ok (.iload 4, 2) := by decide +kernel
theorem d_Mod_readReferences_52 : decode b_Mod_readReferences 52 = .ok (.iload 6, 2) := by decide +kernel
theorem d_Mod_readReferences_54 : decode b_Mod_readReferences 54 = .ok (.invokevirtual 131, 3) := by decide +kernel
theorem d_Mod_readReferences_57 : decode b_Mod_readReferences 57 = .ok (.istore 7, 2) := by decide +kernel
theorem d_Mod_readReferences_59 : decode b_Mod_readReferences 59 = .ok (.iload 7, 2) := by decide +kernel
theorem d_Mod_readReferences_61 : decode b_Mod_readReferences 61 = .ok (.ifCond .lt 8, 3) := by decide +kernel
theorem d_Mod_readReferences_64 : decode b_Mod_readReferences 64 = .ok (.iload_n 3, 1) := by decide +kernel
theorem d_Mod_readReferences_65 : decode b_Mod_readReferences 65 = .ok (.iconst 4, 1) := by decide +kernel
theorem d_Mod_readReferences_66 : decode b_Mod_readReferences 66 = .ok (.if_icmp .ne 9, 3) := by decide +kernel
theorem d_Mod_readReferences_69 : decode b_Mod_readReferences 69 = .ok (.iconst 0, 1) := by decide +kernel
theorem d_Mod_readReferences_70 : decode b_Mod_readReferences 70 = .ok (.istore 5, 2) := by decide +kernel
theorem d_Mod_readReferences_72 : decode b_Mod_readReferences 72 = .ok (.goto 15, 3) := by decide +kernel
theorem d_Mod_readReferences_75 : decode b_Mod_readReferences 75 = .ok (.aload_n 0, 1) := by decide +kernel
theorem d_Mod_readReferences_76 : decode b_Mod_readReferences 76 = .ok (.getfield 35, 3) := by decide +kernel
theorem d_Mod_readReferences_79 : decode b_Mod_readReferences 79 = .ok (.iconst 4, 1) := by decide +kernel
theorem d_Mod_readReferences_80 : decode b_Mod_readReferences 80 = .ok (.iload_n 1, 1) := by decide +kernel
theorem d_Mod_readReferences_81 : decode b_Mod_readReferences 81 = .ok (.imul, 1) := by decide +kernel
theorem d_Mod_readReferences_82 : decode b_Mod_readReferences 82 = .ok (.iload_n 3, 1) := by decide +kernel
theorem d_Mod_readReferences_83 : decode b_Mod_readReferences 83 = .ok (.iadd, 1) := by decide +kernel
theorem d_Mod_readReferences_84 : decode b_Mod_readReferences 84 = .ok (.iload 7, 2) := by decide +kernel
theorem d_Mod_readReferences_86 : decode b_Mod_readReferences 86 = .ok (.iastore, 1) := by decide +kernel
theorem d_Mod_readReferences_87 : decode b_Mod_readReferences 87 = .ok (.iload_n 3, 1) := by decide +kernel
theorem d_Mod_readReferences_88 : decode b_Mod_readReferences 88 = .ok (.iconst 4, 1) := by decide +kernel
theorem d_Mod_readReferences_89 : decode b_Mod_readReferences 89 = .ok (.if_icmp .ge 6, 3) := by decide +kernel
theorem d_Mod_readReferences_92 : decode b_Mod_readReferences 92 = .ok (.iinc 3 1, 3) := by decide +kernel
theorem d_Mod_readReferences_95 : decode b_Mod_readReferences 95 = .ok (.iload 6, 2) := by decide +kernel
theorem d_Mod_readReferences_97 : decode b_Mod_readReferences 97 = .ok (.iconst 1, 1) := by decide +kernel
theorem d_Mod_readReferences_98 : decode b_Mod_readReferences 98 = .ok (.iadd, 1) := by decide +kernel
theorem d_Mod_readReferences_99 : decode b_Mod_readReferences 99 = .ok (.istore 4, 2) := by decide +kernel
theorem d_Mod_readReferences_101 : decode b_Mod_readReferences 101 = .ok (.iinc 6 1, 3) := by decide +kernel
theorem d_Mod_readReferences_104 : decode b_Mod_readReferences 104 = .ok (.goto (-93), 3) := by decide +kernel
theorem d_Mod_readReferences_107 : decode b_Mod_readReferences 107 = .ok (.aload_n 0, 1) := by decide +kernel
theorem d_Mod_readReferences_108 : decode b_Mod_readReferences 108 = .ok (.getfield 38, 3) := by decide +kernel
theorem d_Mod_readReferences_111 : decode b_Mod_readReferences 111 = .ok (.iload_n 1, 1) := by decide +kernel
theorem d_Mod_readReferences_112 : decode b_Mod_readReferences 112 = .ok (.iload 5, 2) := by decide +kernel
theorem d_Mod_readReferences_114 : decode b_Mod_readReferences 114 = .ok (.ifCond .eq 7, 3) := by decide +kernel
theorem d_Mod_readReferences_117 : decode b_Mod_readReferences 117 = .ok (.iload_n 3, 1) := by decide +kernel
theorem d_Mod_readReferences_118 : decode b_Mod_readReferences 118 = .ok (.goto 4, 3) := by decide +kernel
theorem d_Mod_readReferences_121 : decode b_Mod_readReferences 121 = .ok (.iconst 0, 1) := by decide +kernel
theorem d_Mod_readReferences_122 : decode b_Mod_readReferences 122 = .ok (.iastore, 1) := by decide +kernel
theorem d_Mod_readReferences_123 : decode b_Mod_readReferences 123 = .ok (.return_, 1) := by decide +kernel
theorem d_Mod_closes_0 : decode b_Mod_closes 0 = .ok (.aload_n 0, 1) := by decide +kernel
theorem d_Mod_closes_1 : decode b_Mod_closes 1 = .ok (.getfield 13, 3) := by decide +kernel
theorem d_Mod_closes_4 : decode b_Mod_closes 4 = .ok (.iload_n 1, 1) := by decide +kernel
theorem d_Mod_closes_5 : decode b_Mod_closes 5 = .ok (.iaload, 1) := by decide +kernel
theorem d_Mod_closes_6 : decode b_Mod_closes 6 = .ok (.iconst 3, 1) := by decide +kernel
theorem d_Mod_closes_7 : decode b_Mod_closes 7 = .ok (.if_icmp .ne 39, 3) := by decide +kernel
theorem d_Mod_closes_10 : decode b_Mod_closes 10 = .ok (.aload_n 0, 1) := by decide +kernel
theorem d_Mod_closes_11 : decode b_Mod_closes 11 = .ok (.iload_n 1, 1) := by decide +kernel
theorem d_Mod_closes_12 : decode b_Mod_closes 12 = .ok (.iconst 0, 1) := by decide +kernel
theorem d_Mod_closes_13 : decode b_Mod_closes 13 = .ok (.invokevirtual 77, 3) := by decide +kernel
theorem d_Mod_closes_16 : decode b_Mod_closes 16 = .ok (.bipush 45, 2) := by decide +kernel
theorem d_Mod_closes_18 : decode b_Mod_closes 18 = .ok (.if_icmp .ne 28, 3) := by decide +kernel
theorem d_Mod_closes_21 : decode b_Mod_closes 21 = .ok (.aload_n 0, 1) := by decide +kernel
theorem d_Mod_closes_22 : decode b_Mod_closes 22 = .ok (.iload_n 1, 1) := by decide +kernel
theorem d_Mod_closes_23 : decode b_Mod_closes 23 = .ok (.iconst 1, 1) := by decide +kernel
theorem d_Mod_closes_24 : decode b_Mod_closes 24 = .ok (.invokevirtual 77, 3) := by decide +kernel
theorem d_Mod_closes_27 : decode b_Mod_closes 27 = .ok (.iload_n 2, 1) := by decide +kernel
theorem d_Mod_closes_28 : decode b_Mod_closes 28 = .ok (.if_icmp .ne 18, 3) := by decide +kernel
theorem d_Mod_closes_31 : decode b_Mod_closes 31 = .ok (.aload_n 0, 1) := by decide +kernel
theorem d_Mod_closes_32 : decode b_Mod_closes 32 = .ok (.iload_n 1, 1) := by decide +kernel
theorem d_Mod_closes_33 : decode b_Mod_closes 33 = .ok (.iconst 2, 1) := by decide +kernel
theorem d_Mod_closes_34 : decode b_Mod_closes 34 = .ok (.invokevirtual 77, 3) := by decide +kernel
theorem d_Mod_closes_37 : decode b_Mod_closes 37 = .ok (.bipush 46, 2) := by decide +kernel
theorem d_Mod_closes_39 : decode b_Mod_closes 39 = .ok (.if_icmp .ne 7, 3) := by decide +kernel
theorem d_Mod_closes_42 : decode b_Mod_closes 42 = .ok (.iconst 1, 1) := by decide +kernel
theorem d_Mod_closes_43 : decode b_Mod_closes 43 = .ok (.goto 4, 3) := by decide +kernel
theorem d_Mod_closes_46 : decode b_Mod_closes 46 = .ok (.iconst 0, 1) := by decide +kernel
theorem d_Mod_closes_47 : decode b_Mod_closes 47 = .ok (.ireturn, 1) := by decide +kernel
theorem d_Mod_cuts_0 : decode b_Mod_cuts 0 = .ok (.aload_n 0, 1) := by decide +kernel
theorem d_Mod_cuts_1 : decode b_Mod_cuts 1 = .ok (.getfield 13, 3) := by decide +kernel
theorem d_Mod_cuts_4 : decode b_Mod_cuts 4 = .ok (.iload_n 1, 1) := by decide +kernel
theorem d_Mod_cuts_5 : decode b_Mod_cuts 5 = .ok (.iaload, 1) := by decide +kernel
theorem d_Mod_cuts_6 : decode b_Mod_cuts 6 = .ok (.iconst 2, 1) := by decide +kernel
theorem d_Mod_cuts_7 : decode b_Mod_cuts 7 = .ok (.if_icmp .ne 28, 3) := by decide +kernel
theorem d_Mod_cuts_10 : decode b_Mod_cuts 10 = .ok (.aload_n 0, 1) := by decide +kernel
theorem d_Mod_cuts_11 : decode b_Mod_cuts 11 = .ok (.iload_n 1, 1) := by decide +kernel
theorem d_Mod_cuts_12 : decode b_Mod_cuts 12 = .ok (.iconst 0, 1) := by decide +kernel
theorem d_Mod_cuts_13 : decode b_Mod_cuts 13 = .ok (.invokevirtual 77, 3) := by decide +kernel
theorem d_Mod_cuts_16 : decode b_Mod_cuts 16 = .ok (.bipush 45, 2) := by decide +kernel
theorem d_Mod_cuts_18 : decode b_Mod_cuts 18 = .ok (.if_icmp .ne 17, 3) := by decide +kernel
theorem d_Mod_cuts_21 : decode b_Mod_cuts 21 = .ok (.aload_n 0, 1) := by decide +kernel
theorem d_Mod_cuts_22 : decode b_Mod_cuts 22 = .ok (.iload_n 1, 1) := by decide +kernel
theorem d_Mod_cuts_23 : decode b_Mod_cuts 23 = .ok (.iconst 1, 1) := by decide +kernel
theorem d_Mod_cuts_24 : decode b_Mod_cuts 24 = .ok (.invokevirtual 77, 3) := by decide +kernel
theorem d_Mod_cuts_27 : decode b_Mod_cuts 27 = .ok (.iload_n 2, 1) := by decide +kernel
theorem d_Mod_cuts_28 : decode b_Mod_cuts 28 = .ok (.if_icmp .ne 7, 3) := by decide +kernel
theorem d_Mod_cuts_31 : decode b_Mod_cuts 31 = .ok (.iconst 1, 1) := by decide +kernel
theorem d_Mod_cuts_32 : decode b_Mod_cuts 32 = .ok (.goto 4, 3) := by decide +kernel
theorem d_Mod_cuts_35 : decode b_Mod_cuts 35 = .ok (.iconst 0, 1) := by decide +kernel
theorem d_Mod_cuts_36 : decode b_Mod_cuts 36 = .ok (.ireturn, 1) := by decide +kernel
theorem d_Mod_hex_0 : decode b_Mod_hex 0 = .ok (.iload_n 0, 1) := by decide +kernel
theorem d_Mod_hex_1 : decode b_Mod_hex 1 = .ok (.bipush 48, 2) := by decide +kernel
theorem d_Mod_hex_3 : decode b_Mod_hex 3 = .ok (.if_icmp .lt 14, 3) := by decide +kernel
theorem d_Mod_hex_6 : decode b_Mod_hex 6 = .ok (.iload_n 0, 1) := by decide +kernel
theorem d_Mod_hex_7 : decode b_Mod_hex 7 = .ok (.bipush 57, 2) := by decide +kernel
theorem d_Mod_hex_9 : decode b_Mod_hex 9 = .ok (.if_icmp .gt 8, 3) := by decide +kernel
theorem d_Mod_hex_12 : decode b_Mod_hex 12 = .ok (.iload_n 0, 1) := by decide +kernel
theorem d_Mod_hex_13 : decode b_Mod_hex 13 = .ok (.bipush 48, 2) := by decide +kernel
theorem d_Mod_hex_15 : decode b_Mod_hex 15 = .ok (.isub, 1) := by decide +kernel
theorem d_Mod_hex_16 : decode b_Mod_hex 16 = .ok (.ireturn, 1) := by decide +kernel
theorem d_Mod_hex_17 : decode b_Mod_hex 17 = .ok (.iload_n 0, 1) := by decide +kernel
theorem d_Mod_hex_18 : decode b_Mod_hex 18 = .ok (.bipush 97, 2) := by decide +kernel
theorem d_Mod_hex_20 : decode b_Mod_hex 20 = .ok (.if_icmp .lt 17, 3) := by decide +kernel
theorem d_Mod_hex_23 : decode b_Mod_hex 23 = .ok (.iload_n 0, 1) := by decide +kernel
theorem d_Mod_hex_24 : decode b_Mod_hex 24 = .ok (.bipush 102, 2) := by decide +kernel
theorem d_Mod_hex_26 : decode b_Mod_hex 26 = .ok (.if_icmp .gt 11, 3) := by decide +kernel
theorem d_Mod_hex_29 : decode b_Mod_hex 29 = .ok (.iload_n 0, 1) := by decide +kernel
theorem d_Mod_hex_30 : decode b_Mod_hex 30 = .ok (.bipush 97, 2) := by decide +kernel
theorem d_Mod_hex_32 : decode b_Mod_hex 32 = .ok (.isub, 1) := by decide +kernel
theorem d_Mod_hex_33 : decode b_Mod_hex 33 = .ok (.bipush 10, 2) := by decide +kernel
theorem d_Mod_hex_35 : decode b_Mod_hex 35 = .ok (.iadd, 1) := by decide +kernel
theorem d_Mod_hex_36 : decode b_Mod_hex 36 = .ok (.ireturn, 1) := by decide +kernel
theorem d_Mod_hex_37 : decode b_Mod_hex 37 = .ok (.iload_n 0, 1) := by decide +kernel
theorem d_Mod_hex_38 : decode b_Mod_hex 38 = .ok (.bipush 65, 2) := by decide +kernel
theorem d_Mod_hex_40 : decode b_Mod_hex 40 = .ok (.if_icmp .lt 19, 3) := by decide +kernel
theorem d_Mod_hex_43 : decode b_Mod_hex 43 = .ok (.iload_n 0, 1) := by decide +kernel
theorem d_Mod_hex_44 : decode b_Mod_hex 44 = .ok (.bipush 70, 2) := by decide +kernel
theorem d_Mod_hex_46 : decode b_Mod_hex 46 = .ok (.if_icmp .gt 13, 3) := by decide +kernel
theorem d_Mod_hex_49 : decode b_Mod_hex 49 = .ok (.iload_n 0, 1) := by decide +kernel
theorem d_Mod_hex_50 : decode b_Mod_hex 50 = .ok (.bipush 65, 2) := by decide +kernel
theorem d_Mod_hex_52 : decode b_Mod_hex 52 = .ok (.isub, 1) := by decide +kernel
theorem d_Mod_hex_53 : decode b_Mod_hex 53 = .ok (.bipush 10, 2) := by decide +kernel
theorem d_Mod_hex_55 : decode b_Mod_hex 55 = .ok (.iadd, 1) := by decide +kernel
theorem d_Mod_hex_56 : decode b_Mod_hex 56 = .ok (.goto 4, 3) := by decide +kernel
theorem d_Mod_hex_59 : decode b_Mod_hex 59 = .ok (.iconst (-1), 1) := by decide +kernel
theorem d_Mod_hex_60 : decode b_Mod_hex 60 = .ok (.ireturn, 1) := by decide +kernel
theorem d_Mod_collectCoded_0 : decode b_Mod_collectCoded 0 = .ok (.iconst (-1), 1) := by decide +kernel
theorem d_Mod_collectCoded_1 : decode b_Mod_collectCoded 1 = .ok (.istore_n 2, 1) := by decide +kernel
theorem d_Mod_collectCoded_2 : decode b_Mod_collectCoded 2 = .ok (.iconst 0, 1) := by decide +kernel
theorem d_Mod_collectCoded_3 : decode b_Mod_collectCoded 3 = .ok (.istore_n 3, 1) := by decide +kernel
theorem d_Mod_collectCoded_4 : decode b_Mod_collectCoded 4 = .ok (.iload_n 3, 1) := by decide +kernel
theorem d_Mod_collectCoded_5 : decode b_Mod_collectCoded 5 = .ok (.aload_n 0, 1) := by decide +kernel
theorem d_Mod_collectCoded_6 : decode b_Mod_collectCoded 6 = .ok (.getfield 13, 3) := by decide +kernel
theorem d_Mod_collectCoded_9 : decode b_Mod_collectCoded 9 = .ok (.iload_n 1, 1) := by decide +kernel
theorem d_Mod_collectCoded_10 : decode b_Mod_collectCoded 10 = .ok (.iaload, 1) := by decide +kernel
theorem d_Mod_collectCoded_11 : decode b_Mod_collectCoded 11 = .ok (.if_icmp .ge 55, 3) := by decide +kernel
theorem d_Mod_collectCoded_14 : decode b_Mod_collectCoded 14 = .ok (.aload_n 0, 1) := by decide +kernel
theorem d_Mod_collectCoded_15 : decode b_Mod_collectCoded 15 = .ok (.iload_n 1, 1) := by decide +kernel
theorem d_Mod_collectCoded_16 : decode b_Mod_collectCoded 16 = .ok (.iload_n 3, 1) := by decide +kernel
theorem d_Mod_collectCoded_17 : decode b_Mod_collectCoded 17 = .ok (.invokevirtual 77, 3) := by decide +kernel
theorem d_Mod_collectCoded_20 : decode b_Mod_collectCoded 20 = .ok (.invokestatic 127, 3) := by decide +kernel
theorem d_Mod_collectCoded_23 : decode b_Mod_collectCoded 23 = .ok (.istore 4, 2) := by decide +kernel
theorem d_Mod_collectCoded_25 : decode b_Mod_collectCoded 25 = .ok (.iload 4, 2) := by decide +kernel
theorem d_Mod_collectCoded_27 : decode b_Mod_collectCoded 27 = .ok (.ifCond .ge 6, 3) := by decide +kernel
theorem d_Mod_collectCoded_30 : decode b_Mod_collectCoded 30 = .ok (.goto 30, 3) := by decide +kernel
theorem d_Mod_collectCoded_33 : decode b_Mod_collectCoded 33 = .ok (.iload_n 2, 1) := by decide +kernel
theorem d_Mod_collectCoded_34 : decode b_Mod_collectCoded 34 = .ok (.ifCond .lt 15, 3) := by decide +kernel
theorem d_Mod_collectCoded_37 : decode b_Mod_collectCoded 37 = .ok (.aload_n 0, 1) := by decide +kernel
theorem d_Mod_collectCoded_38 : decode b_Mod_collectCoded 38 = .ok (.bipush 16, 2) := by decide +kernel
theorem d_Mod_collectCoded_40 : decode b_Mod_collectCoded 40 = .ok (.iload_n 2, 1) := by decide +kernel
theorem d_Mod_collectCoded_41 : decode b_Mod_collectCoded 41 = .ok (.imul, 1) := by decide +kernel
theorem d_Mod_collectCoded_42 : decode b_Mod_collectCoded 42 = .ok (.iload 4, 2) := by decide +kernel
theorem d_Mod_collectCoded_44 : decode b_Mod_collectCoded 44 = .ok (.iadd, 1) := by decide +kernel
theorem d_Mod_collectCoded_45 : decode b_Mod_collectCoded 45 = .ok (.iconst 2, 1) := by decide +kernel
theorem d_Mod_collectCoded_46 : decode b_Mod_collectCoded 46 = .ok (.invokevirtual 123, 3) := by decide +kernel
theorem d_Mod_collectCoded_49 : decode b_Mod_collectCoded 49 = .ok (.iload_n 2, 1) := by decide +kernel
theorem d_Mod_collectCoded_50 : decode b_Mod_collectCoded 50 = .ok (.ifCond .ge 8, 3) := by decide +kernel
theorem d_Mod_collectCoded_53 : decode b_Mod_collectCoded 53 = .ok (.iload 4, 2) := by decide +kernel
theorem d_Mod_collectCoded_55 : decode b_Mod_collectCoded 55 = .ok (.goto 4, 3) := by decide +kernel
theorem d_Mod_collectCoded_58 : decode b_Mod_collectCoded 58 = .ok (.iconst (-1), 1) := by decide +kernel
theorem d_Mod_collectCoded_59 : decode b_Mod_collectCoded 59 = .ok (.istore_n 2, 1) := by decide +kernel
theorem d_Mod_collectCoded_60 : decode b_Mod_collectCoded 60 = .ok (.iinc 3 1, 3) := by decide +kernel
theorem d_Mod_collectCoded_63 : decode b_Mod_collectCoded 63 = .ok (.goto (-59), 3) := by decide +kernel
theorem d_Mod_collectCoded_66 : decode b_Mod_collectCoded 66 = .ok (.aload_n 0, 1) := by decide +kernel
theorem d_Mod_collectCoded_67 : decode b_Mod_collectCoded 67 = .ok (.iconst 0, 1) := by decide +kernel
theorem d_Mod_collectCoded_68 : decode b_Mod_collectCoded 68 = .ok (.iconst 2, 1) := by decide +kernel
theorem d_Mod_collectCoded_69 : decode b_Mod_collectCoded 69 = .ok (.invokevirtual 123, 3) := by decide +kernel
theorem d_Mod_collectCoded_72 : decode b_Mod_collectCoded 72 = .ok (.return_, 1) := by decide +kernel
theorem d_Mod_leaf_0 : decode b_Mod_leaf 0 = .ok (.aload_n 0, 1) := by decide +kernel
theorem d_Mod_leaf_1 : decode b_Mod_leaf 1 = .ok (.getfield 44, 3) := by decide +kernel
theorem d_Mod_leaf_4 : decode b_Mod_leaf 4 = .ok (.aload_n 0, 1) := by decide +kernel
theorem d_Mod_leaf_5 : decode b_Mod_leaf 5 = .ok (.getfield 104, 3) := by decide +kernel
theorem d_Mod_leaf_8 : decode b_Mod_leaf 8 = .ok (.dup2, 1) := by decide +kernel
theorem d_Mod_leaf_9 : decode b_Mod_leaf 9 = .ok (.iaload, 1) := by decide +kernel
theorem d_Mod_leaf_10 : decode b_Mod_leaf 10 = .ok (.iconst 1, 1) := by decide +kernel
theorem d_Mod_leaf_11 : decode b_Mod_leaf 11 = .ok (.iadd, 1) := by decide +kernel
theorem d_Mod_leaf_12 : decode b_Mod_leaf 12 = .ok (.iastore, 1) := by decide +kernel
theorem d_Mod_leaf_13 : decode b_Mod_leaf 13 = .ok (.aload_n 0, 1) := by decide +kernel
theorem d_Mod_leaf_14 : decode b_Mod_leaf 14 = .ok (.iload_n 1, 1) := by decide +kernel
theorem d_Mod_leaf_15 : decode b_Mod_leaf 15 = .ok (.iload_n 3, 1) := by decide +kernel
theorem d_Mod_leaf_16 : decode b_Mod_leaf 16 = .ok (.bipush 101, 2) := by decide +kernel
theorem d_Mod_leaf_18 : decode b_Mod_leaf 18 = .ok (.invokevirtual 87, 3) := by decide +kernel
theorem d_Mod_leaf_21 : decode b_Mod_leaf 21 = .ok (.istore 4, 2) := by decide +kernel
theorem d_Mod_leaf_23 : decode b_Mod_leaf 23 = .ok (.iload 4, 2) := by decide +kernel
theorem d_Mod_leaf_25 : decode b_Mod_leaf 25 = .ok (.ifCond .lt 30, 3) := by decide +kernel
theorem d_Mod_leaf_28 : decode b_Mod_leaf 28 = .ok (.aload_n 0, 1) := by decide +kernel
theorem d_Mod_leaf_29 : decode b_Mod_leaf 29 = .ok (.getfield 13, 3) := by decide +kernel
theorem d_Mod_leaf_32 : decode b_Mod_leaf 32 = .ok (.iload 4, 2) := by decide +kernel
theorem d_Mod_leaf_34 : decode b_Mod_leaf 34 = .ok (.iaload, 1) := by decide +kernel
theorem d_Mod_leaf_35 : decode b_Mod_leaf 35 = .ok (.iconst 3, 1) := by decide +kernel
theorem d_Mod_leaf_36 : decode b_Mod_leaf 36 = .ok (.if_icmp .ne 19, 3) := by decide +kernel
theorem d_Mod_leaf_39 : decode b_Mod_leaf 39 = .ok (.aload_n 0, 1) := by decide +kernel
theorem d_Mod_leaf_40 : decode b_Mod_leaf 40 = .ok (.iload 4, 2) := by decide +kernel
theorem d_Mod_leaf_42 : decode b_Mod_leaf 42 = .ok (.iconst 2, 1) := by decide +kernel
theorem d_Mod_leaf_43 : decode b_Mod_leaf 43 = .ok (.invokevirtual 77, 3) := by decide +kernel
theorem d_Mod_leaf_46 : decode b_Mod_leaf 46 = .ok (.bipush 104, 2) := by decide +kernel
theorem d_Mod_leaf_48 : decode b_Mod_leaf 48 = .ok (.if_icmp .ne 7, 3) := by decide +kernel
theorem d_Mod_leaf_51 : decode b_Mod_leaf 51 = .ok (.iconst 1, 1) := by decide +kernel
theorem d_Mod_leaf_52 : decode b_Mod_leaf 52 = .ok (.goto 4, 3) := by decide +kernel
theorem d_Mod_leaf_55 : decode b_Mod_leaf 55 = .ok (.iconst 0, 1) := by decide +kernel
theorem d_Mod_leaf_56 : decode b_Mod_leaf 56 = .ok (.istore 5, 2) := by decide +kernel
theorem d_Mod_leaf_58 : decode b_Mod_leaf 58 = .ok (.iload_n 2, 1) := by decide +kernel
theorem d_Mod_leaf_59 : decode b_Mod_leaf 59 = .ok (.istore 6, 2) := by decide +kernel
theorem d_Mod_leaf_61 : decode b_Mod_leaf 61 = .ok (.iload 6, 2) := by decide +kernel
theorem d_Mod_leaf_63 : decode b_Mod_leaf 63 = .ok (.iload_n 3, 1) := by decide +kernel
theorem d_Mod_leaf_64 : decode b_Mod_leaf 64 = .ok (.if_icmp .ge 31, 3) := by decide +kernel
theorem d_Mod_leaf_67 : decode b_Mod_leaf 67 = .ok (.iload 5, 2) := by decide +kernel
theorem d_Mod_leaf_69 : decode b_Mod_leaf 69 = .ok (.ifCond .eq 12, 3) := by decide +kernel
theorem d_Mod_leaf_72 : decode b_Mod_leaf 72 = .ok (.aload_n 0, 1) := by decide +kernel
theorem d_Mod_leaf_73 : decode b_Mod_leaf 73 = .ok (.iload 6, 2) := by decide +kernel
theorem d_Mod_leaf_75 : decode b_Mod_leaf 75 = .ok (.invokevirtual 107, 3) := by decide +kernel
theorem d_Mod_leaf_78 : decode b_Mod_leaf 78 = .ok (.goto 11, 3) := by decide +kernel
theorem d_Mod_leaf_81 : decode b_Mod_leaf 81 = .ok (.aload_n 0, 1) := by decide +kernel
theorem d_Mod_leaf_82 : decode b_Mod_leaf 82 = .ok (.iload 6, 2) := by decide +kernel
theorem d_Mod_leaf_84 : decode b_Mod_leaf 84 = .ok (.iconst 0, 1) := by decide +kernel
theorem d_Mod_leaf_85 : decode b_Mod_leaf 85 = .ok (.iconst 2, 1) := by decide +kernel
theorem d_Mod_leaf_86 : decode b_Mod_leaf 86 = .ok (.invokevirtual 111, 3) := by decide +kernel
theorem d_Mod_leaf_89 : decode b_Mod_leaf 89 = .ok (.iinc 6 1, 3) := by decide +kernel
theorem d_Mod_leaf_92 : decode b_Mod_leaf 92 = .ok (.goto (-31), 3) := by decide +kernel
theorem d_Mod_leaf_95 : decode b_Mod_leaf 95 = .ok (.return_, 1) := by decide +kernel
theorem d_Mod_takePart_0 : decode b_Mod_takePart 0 = .ok (.aload_n 0, 1) := by decide +kernel
theorem d_Mod_takePart_1 : decode b_Mod_takePart 1 = .ok (.dup, 1) := by decide +kernel
theorem d_Mod_takePart_2 : decode b_Mod_takePart 2 = .ok (.getfield 84, 3) := by decide +kernel
theorem d_Mod_takePart_5 : decode b_Mod_takePart 5 = .ok (.iconst 1, 1) := by decide +kernel
theorem d_Mod_takePart_6 : decode b_Mod_takePart 6 = .ok (.isub, 1) := by decide +kernel
theorem d_Mod_takePart_7 : decode b_Mod_takePart 7 = .ok (.putfield 84, 3) := by decide +kernel
theorem d_Mod_takePart_10 : decode b_Mod_takePart 10 = .ok (.aload_n 0, 1) := by decide +kernel
theorem d_Mod_takePart_11 : decode b_Mod_takePart 11 = .ok (.getfield 16, 3) := by decide +kernel
theorem d_Mod_takePart_14 : decode b_Mod_takePart 14 = .ok (.aload_n 0, 1) := by decide +kernel
theorem d_Mod_takePart_15 : decode b_Mod_takePart 15 = .ok (.getfield 84, 3) := by decide +kernel
theorem d_Mod_takePart_18 : decode b_Mod_takePart 18 = .ok (.iaload, 1) := by decide +kernel
theorem d_Mod_takePart_19 : decode b_Mod_takePart 19 = .ok (.istore_n 1, 1) := by decide +kernel
theorem d_Mod_takePart_20 : decode b_Mod_takePart 20 = .ok (.aload_n 0, 1) := by decide +kernel
theorem d_Mod_takePart_21 : decode b_Mod_takePart 21 = .ok (.getfield 19, 3) := by decide +kernel
theorem d_Mod_takePart_24 : decode b_Mod_takePart 24 = .ok (.aload_n 0, 1) := by decide +kernel
theorem d_Mod_takePart_25 : decode b_Mod_takePart 25 = .ok (.getfield 84, 3) := by decide +kernel
theorem d_Mod_takePart_28 : decode b_Mod_takePart 28 = .ok (.iaload, 1) := by decide +kernel
theorem d_Mod_takePart_29 : decode b_Mod_takePart 29 = .ok (.istore_n 2, 1) := by decide +kernel
theorem d_Mod_takePart_30 : decode b_Mod_takePart 30 = .ok (.aload_n 0, 1) := by decide +kernel
theorem d_Mod_takePart_31 : decode b_Mod_takePart 31 = .ok (.getfield 22, 3) := by decide +kernel
theorem d_Mod_takePart_34 : decode b_Mod_takePart 34 = .ok (.aload_n 0, 1) := by decide +kernel
theorem d_Mod_takePart_35 : decode b_Mod_takePart 35 = .ok (.getfield 84, 3) := by decide +kernel
theorem d_Mod_takePart_38 : decode b_Mod_takePart 38 = .ok (.iaload, 1) := by decide +kernel
theorem d_Mod_takePart_39 : decode b_Mod_takePart 39 = .ok (.istore_n 3, 1) := by decide +kernel
theorem d_Mod_takePart_40 : decode b_Mod_takePart 40 = .ok (.aload_n 0, 1) := by decide +kernel
theorem d_Mod_takePart_41 : decode b_Mod_takePart 41 = .ok (.iload_n 1, 1) := by decide +kernel
theorem d_Mod_takePart_42 : decode b_Mod_takePart 42 = .ok (.iload_n 2, 1) := by decide +kernel
theorem d_Mod_takePart_43 : decode b_Mod_takePart 43 = .ok (.bipush 109, 2) := by decide +kernel
theorem d_Mod_takePart_45 : decode b_Mod_takePart 45 = .ok (.invokevirtual 87, 3) := by decide +kernel
theorem d_Mod_takePart_48 : decode b_Mod_takePart 48 = .ok (.istore 4, 2) := by decide +kernel
theorem d_Mod_takePart_50 : decode b_Mod_takePart 50 = .ok (.aload_n 0, 1) := by decide +kernel
theorem d_Mod_takePart_51 : decode b_Mod_takePart 51 = .ok (.iload_n 1, 1) := by decide +kernel
theorem d_Mod_takePart_52 : decode b_Mod_takePart 52 = .ok (.iload_n 2, 1) := by decide +kernel
theorem d_Mod_takePart_53 : decode b_Mod_takePart 53 = .ok (.invokevirtual 81, 3) := by decide +kernel
theorem d_Mod_takePart_56 : decode b_Mod_takePart 56 = .ok (.istore 5, 2) := by decide +kernel
theorem d_Mod_takePart_58 : decode b_Mod_takePart 58 = .ok (.iload 5, 2) := by decide +kernel
theorem d_Mod_takePart_60 : decode b_Mod_takePart 60 = .ok (.iload_n 2, 1) := by decide +kernel
theorem d_Mod_takePart_61 : decode b_Mod_takePart 61 = .ok (.if_icmp .ge 10, 3) := by decide +kernel
theorem d_Mod_takePart_64 : decode b_Mod_takePart 64 = .ok (.iload 5, 2) := by decide +kernel
theorem d_Mod_takePart_66 : decode b_Mod_takePart 66 = .ok (.iconst 1, 1) := by decide +kernel
theorem d_Mod_takePart_67 : decode b_Mod_takePart 67 = .ok (.iadd, 1) := by decide +kernel
theorem d_Mod_takePart_68 : decode b_Mod_takePart 68 = .ok (.goto 4, 3) := by decide +kernel
theorem d_Mod_takePart_71 : decode b_Mod_takePart 71 = .ok (.iload_n 2, 1) := by decide +kernel
theorem d_Mod_takePart_72 : decode b_Mod_takePart 72 = .ok (.istore 6, 2) := by decide +kernel
theorem d_Mod_takePart_74 : decode b_Mod_takePart 74 = .ok (.iload_n 3, 1) := by decide +kernel
theorem d_Mod_takePart_75 : decode b_Mod_takePart 75 = .ok (.iconst 3, 1) := by decide +kernel
theorem d_Mod_takePart_76 : decode b_Mod_takePart 76 = .ok (.if_icmp .gt 19, 3) := by decide +kernel
theorem d_Mod_takePart_79 : decode b_Mod_takePart 79 = .ok (.iload 4, 2) := by decide +kernel
theorem d_Mod_takePart_81 : decode b_Mod_takePart 81 = .ok (.ifCond .lt 14, 3) := by decide +kernel
theorem d_Mod_takePart_84 : decode b_Mod_takePart 84 = .ok (.aload_n 0, 1) := by decide +kernel
theorem d_Mod_takePart_85 : decode b_Mod_takePart 85 = .ok (.getfield 13, 3) := by decide +kernel
theorem d_Mod_takePart_88 : decode b_Mod_takePart 88 = .ok (.iload 4, 2) := by decide +kernel
theorem d_Mod_takePart_90 : decode b_Mod_takePart 90 = .ok (.iaload, 1) := by decide +kernel
theorem d_Mod_takePart_91 : decode b_Mod_takePart 91 = .ok (.iconst 3, 1) := by decide +kernel
theorem d_Mod_takePart_92 : decode b_Mod_takePart 92 = .ok (.if_icmp .eq 12, 3) := by decide +kernel
theorem d_Mod_takePart_95 : decode b_Mod_takePart 95 = .ok (.aload_n 0, 1) := by decide +kernel
theorem d_Mod_takePart_96 : decode b_Mod_takePart 96 = .ok (.iload_n 1, 1) := by decide +kernel
theorem d_Mod_takePart_97 : decode b_Mod_takePart 97 = .ok (.iload 6, 2) := by decide +kernel
theorem d_Mod_takePart_99 : decode b_Mod_takePart 99 = .ok (.iload_n 2, 1) := by decide +kernel
theorem d_Mod_takePart_100 : decode b_Mod_takePart 100 = .ok (.invokevirtual 91, 3) := by decide +kernel
theorem d_Mod_takePart_103 : decode b_Mod_takePart 103 = .ok (.return_, 1) := by decide +kernel
theorem d_Mod_takePart_104 : decode b_Mod_takePart 104 = .ok (.aload_n 0, 1) := by decide +kernel
theorem d_Mod_takePart_105 : decode b_Mod_takePart 105 = .ok (.iload 4, 2) := by decide +kernel
theorem d_Mod_takePart_107 : decode b_Mod_takePart 107 = .ok (.iconst 2, 1) := by decide +kernel
theorem d_Mod_takePart_108 : decode b_Mod_takePart 108 = .ok (.invokevirtual 77, 3) := by decide +kernel
theorem d_Mod_takePart_111 : decode b_Mod_takePart 111 = .ok (.istore 7, 2) := by decide +kernel
theorem d_Mod_takePart_113 : decode b_Mod_takePart 113 = .ok (.iload 6, 2) := by decide +kernel
theorem d_Mod_takePart_115 : decode b_Mod_takePart 115 = .ok (.istore 8, 2) := by decide +kernel
theorem d_Mod_takePart_117 : decode b_Mod_takePart 117 = .ok (.iload 8, 2) := by decide +kernel
theorem d_Mod_takePart_119 : decode b_Mod_takePart 119 = .ok (.iload_n 2, 1) := by decide +kernel
theorem d_Mod_takePart_120 : decode b_Mod_takePart 120 = .ok (.if_icmp .ge 20, 3) := by decide +kernel
theorem d_Mod_takePart_123 : decode b_Mod_takePart 123 = .ok (.aload_n 0, 1) := by decide +kernel
theorem d_Mod_takePart_124 : decode b_Mod_takePart 124 = .ok (.iload 8, 2) := by decide +kernel
theorem d_Mod_takePart_126 : decode b_Mod_takePart 126 = .ok (.iload 7, 2) := by decide +kernel
theorem d_Mod_takePart_128 : decode b_Mod_takePart 128 = .ok (.invokevirtual 95, 3) := by decide +kernel
theorem d_Mod_takePart_131 : decode b_Mod_takePart 131 = .ok (.ifCond .ne 9, 3) := by decide +kernel
theorem d_Mod_takePart_134 : decode b_Mod_takePart 134 = .ok (.iinc 8 1, 3) := by decide +kernel
theorem d_Mod_takePart_137 : decode b_Mod_takePart 137 = .ok (.goto (-20), 3) := by decide +kernel
theorem d_Mod_takePart_140 : decode b_Mod_takePart 140 = .ok (.iload 8, 2) := by decide +kernel
theorem d_Mod_takePart_142 : decode b_Mod_takePart 142 = .ok (.iconst 1, 1) := by decide +kernel
theorem d_Mod_takePart_143 : decode b_Mod_takePart 143 = .ok (.isub, 1) := by decide +kernel
theorem d_Mod_takePart_144 : decode b_Mod_takePart 144 = .ok (.istore 9, 2) := by decide +kernel
theorem d_Mod_takePart_146 : decode b_Mod_takePart 146 = .ok (.iload 9, 2) := by decide +kernel
theorem d_Mod_takePart_148 : decode b_Mod_takePart 148 = .ok (.iload 6, 2) := by decide +kernel
theorem d_Mod_takePart_150 : decode b_Mod_takePart 150 = .ok (.if_icmp .lt 40, 3) := by decide +kernel
theorem d_Mod_takePart_153 : decode b_Mod_takePart 153 = .ok (.aload_n 0, 1) := by decide +kernel
theorem d_Mod_takePart_154 : decode b_Mod_takePart 154 = .ok (.iload 9, 2) := by decide +kernel
theorem d_Mod_takePart_156 : decode b_Mod_takePart 156 = .ok (.iload 7, 2) := by decide +kernel
theorem d_Mod_takePart_158 : decode b_Mod_takePart 158 = .ok (.invokevirtual 98, 3) := by decide +kernel
theorem d_Mod_takePart_161 : decode b_Mod_takePart 161 = .ok (.ifCond .ne 6, 3) := by decide +kernel
theorem d_Mod_takePart_164 : decode b_Mod_takePart 164 = .ok (.goto 20, 3) := by decide +kernel
theorem d_Mod_takePart_167 : decode b_Mod_takePart 167 = .ok (.aload_n 0, 1) := by decide +kernel
theorem d_Mod_takePart_168 : decode b_Mod_takePart 168 = .ok (.iload 9, 2) := by decide +kernel
theorem d_Mod_takePart_170 : decode b_Mod_takePart 170 = .ok (.iconst 1, 1) := by decide +kernel
theorem d_Mod_takePart_171 : decode b_Mod_takePart 171 = .ok (.iadd, 1) := by decide +kernel
theorem d_Mod_takePart_172 : decode b_Mod_takePart 172 = .ok (.iload 8, 2) := by decide +kernel
theorem d_Mod_takePart_174 : decode b_Mod_takePart 174 = .ok (.iload_n 3, 1) := by decide +kernel
theorem d_Mod_takePart_175 : decode b_Mod_takePart 175 = .ok (.iconst 1, 1) := by decide +kernel
theorem d_Mod_takePart_176 : decode b_Mod_takePart 176 = .ok (.iadd, 1) := by decide +kernel
theorem d_Mod_takePart_177 : decode b_Mod_takePart 177 = .ok (.invokevirtual 101, 3) := by decide +kernel
theorem d_Mod_takePart_180 : decode b_Mod_takePart 180 = .ok (.iload 9, 2) := by decide +kernel
theorem d_Mod_takePart_182 : decode b_Mod_takePart 182 = .ok (.istore 8, 2) := by decide +kernel
theorem d_Mod_takePart_184 : decode b_Mod_takePart 184 = .ok (.iinc 9 (-1), 3) := by decide +kernel
theorem d_Mod_takePart_187 : decode b_Mod_takePart 187 = .ok (.goto (-41), 3) := by decide +kernel
theorem d_Mod_takePart_190 : decode b_Mod_takePart 190 = .ok (.return_, 1) := by decide +kernel
theorem d_Mod_fill_0 : decode b_Mod_fill 0 = .ok (.aload_n 0, 1) := by decide +kernel
theorem d_Mod_fill_1 : decode b_Mod_fill 1 = .ok (.iload_n 1, 1) := by decide +kernel
theorem d_Mod_fill_2 : decode b_Mod_fill 2 = .ok (.putfield 104, 3) := by decide +kernel
theorem d_Mod_fill_5 : decode b_Mod_fill 5 = .ok (.aload_n 0, 1) := by decide +kernel
theorem d_Mod_fill_6 : decode b_Mod_fill 6 = .ok (.getfield 25, 3) := by decide +kernel
theorem d_Mod_fill_9 : decode b_Mod_fill 9 = .ok (.iload_n 1, 1) := by decide +kernel
theorem d_Mod_fill_10 : decode b_Mod_fill 10 = .ok (.iconst 1, 1) := by decide +kernel
theorem d_Mod_fill_11 : decode b_Mod_fill 11 = .ok (.bastore, 1) := by decide +kernel
theorem d_Mod_fill_12 : decode b_Mod_fill 12 = .ok (.aload_n 0, 1) := by decide +kernel
theorem d_Mod_fill_13 : decode b_Mod_fill 13 = .ok (.getfield 29, 3) := by decide +kernel
theorem d_Mod_fill_16 : decode b_Mod_fill 16 = .ok (.iload_n 1, 1) := by decide +kernel
theorem d_Mod_fill_17 : decode b_Mod_fill 17 = .ok (.iload_n 2, 1) := by decide +kernel
theorem d_Mod_fill_18 : decode b_Mod_fill 18 = .ok (.iastore, 1) := by decide +kernel
theorem d_Mod_fill_19 : decode b_Mod_fill 19 = .ok (.aload_n 0, 1) := by decide +kernel
theorem d_Mod_fill_20 : decode b_Mod_fill 20 = .ok (.dup, 1) := by decide +kernel
theorem d_Mod_fill_21 : decode b_Mod_fill 21 = .ok (.getfield 134, 3) := by decide +kernel
theorem d_Mod_fill_24 : decode b_Mod_fill 24 = .ok (.iconst 1, 1) := by decide +kernel
theorem d_Mod_fill_25 : decode b_Mod_fill 25 = .ok (.iadd, 1) := by decide +kernel
theorem d_Mod_fill_26 : decode b_Mod_fill 26 = .ok (.putfield 134, 3) := by decide +kernel
theorem d_Mod_fill_29 : decode b_Mod_fill 29 = .ok (.aload_n 0, 1) := by decide +kernel
theorem d_Mod_fill_30 : decode b_Mod_fill 30 = .ok (.getfield 32, 3) := by decide +kernel
theorem d_Mod_fill_33 : decode b_Mod_fill 33 = .ok (.iload_n 1, 1) := by decide +kernel
theorem d_Mod_fill_34 : decode b_Mod_fill 34 = .ok (.aload_n 0, 1) := by decide +kernel
theorem d_Mod_fill_35 : decode b_Mod_fill 35 = .ok (.getfield 134, 3) := by decide +kernel
theorem d_Mod_fill_38 : decode b_Mod_fill 38 = .ok (.iastore, 1) := by decide +kernel
theorem d_Mod_fill_39 : decode b_Mod_fill 39 = .ok (.aload_n 0, 1) := by decide +kernel
theorem d_Mod_fill_40 : decode b_Mod_fill 40 = .ok (.getfield 41, 3) := by decide +kernel
theorem d_Mod_fill_43 : decode b_Mod_fill 43 = .ok (.iload_n 1, 1) := by decide +kernel
theorem d_Mod_fill_44 : decode b_Mod_fill 44 = .ok (.iconst 0, 1) := by decide +kernel
theorem d_Mod_fill_45 : decode b_Mod_fill 45 = .ok (.iastore, 1) := by decide +kernel
theorem d_Mod_fill_46 : decode b_Mod_fill 46 = .ok (.aload_n 0, 1) := by decide +kernel
theorem d_Mod_fill_47 : decode b_Mod_fill 47 = .ok (.getfield 44, 3) := by decide +kernel
theorem d_Mod_fill_50 : decode b_Mod_fill 50 = .ok (.iload_n 1, 1) := by decide +kernel
theorem d_Mod_fill_51 : decode b_Mod_fill 51 = .ok (.iconst 0, 1) := by decide +kernel
theorem d_Mod_fill_52 : decode b_Mod_fill 52 = .ok (.iastore, 1) := by decide +kernel
theorem d_Mod_fill_53 : decode b_Mod_fill 53 = .ok (.aload_n 0, 1) := by decide +kernel
theorem d_Mod_fill_54 : decode b_Mod_fill 54 = .ok (.getfield 47, 3) := by decide +kernel
theorem d_Mod_fill_57 : decode b_Mod_fill 57 = .ok (.iload_n 1, 1) := by decide +kernel
theorem d_Mod_fill_58 : decode b_Mod_fill 58 = .ok (.iconst 0, 1) := by decide +kernel
theorem d_Mod_fill_59 : decode b_Mod_fill 59 = .ok (.iastore, 1) := by decide +kernel
theorem d_Mod_fill_60 : decode b_Mod_fill 60 = .ok (.aload_n 0, 1) := by decide +kernel
theorem d_Mod_fill_61 : decode b_Mod_fill 61 = .ok (.getfield 38, 3) := by decide +kernel
theorem d_Mod_fill_64 : decode b_Mod_fill 64 = .ok (.iload_n 1, 1) := by decide +kernel
theorem d_Mod_fill_65 : decode b_Mod_fill 65 = .ok (.iconst 0, 1) := by decide +kernel
theorem d_Mod_fill_66 : decode b_Mod_fill 66 = .ok (.iastore, 1) := by decide +kernel
theorem d_Mod_fill_67 : decode b_Mod_fill 67 = .ok (.aload_n 0, 1) := by decide +kernel
theorem d_Mod_fill_68 : decode b_Mod_fill 68 = .ok (.iconst 0, 1) := by decide +kernel
theorem d_Mod_fill_69 : decode b_Mod_fill 69 = .ok (.iload_n 3, 1) := by decide +kernel
theorem d_Mod_fill_70 : decode b_Mod_fill 70 = .ok (.bipush 114, 2) := by decide +kernel
theorem d_Mod_fill_72 : decode b_Mod_fill 72 = .ok (.invokevirtual 87, 3) := by decide +kernel
theorem d_Mod_fill_75 : decode b_Mod_fill 75 = .ok (.istore 4, 2) := by decide +kernel
theorem d_Mod_fill_77 : decode b_Mod_fill 77 = .ok (.aload_n 0, 1) := by decide +kernel
theorem d_Mod_fill_78 : decode b_Mod_fill 78 = .ok (.iconst 0, 1) := by decide +kernel
theorem d_Mod_fill_79 : decode b_Mod_fill 79 = .ok (.iload_n 3, 1) := by decide +kernel
theorem d_Mod_fill_80 : decode b_Mod_fill 80 = .ok (.bipush 115, 2) := by decide +kernel
theorem d_Mod_fill_82 : decode b_Mod_fill 82 = .ok (.invokevirtual 87, 3) := by decide +kernel
theorem d_Mod_fill_85 : decode b_Mod_fill 85 = .ok (.istore 5, 2) := by decide +kernel
theorem d_Mod_fill_87 : decode b_Mod_fill 87 = .ok (.aload_n 0, 1) := by decide +kernel
theorem d_Mod_fill_88 : decode b_Mod_fill 88 = .ok (.iconst 0, 1) := by decide +kernel
theorem d_Mod_fill_89 : decode b_Mod_fill 89 = .ok (.iload_n 3, 1) := by decide +kernel
theorem d_Mod_fill_90 : decode b_Mod_fill 90 = .ok (.bipush 102, 2) := by decide +kernel
theorem d_Mod_fill_92 : decode b_Mod_fill 92 = .ok (.invokevirtual 87, 3) := by decide +kernel
theorem d_Mod_fill_95 : decode b_Mod_fill 95 = .ok (.istore 6, 2) := by decide +kernel
theorem d_Mod_fill_97 : decode b_Mod_fill 97 = .ok (.iload 4, 2) := by decide +kernel
theorem d_Mod_fill_99 : decode b_Mod_fill 99 = .ok (.ifCond .lt 10, 3) := by decide +kernel
theorem d_Mod_fill_102 : decode b_Mod_fill 102 = .ok (.aload_n 0, 1) := by decide +kernel
theorem d_Mod_fill_103 : decode b_Mod_fill 103 = .ok (.iload_n 1, 1) := by decide +kernel
theorem d_Mod_fill_104 : decode b_Mod_fill 104 = .ok (.iload 4, 2) := by decide +kernel
theorem d_Mod_fill_106 : decode b_Mod_fill 106 = .ok (.invokevirtual 137, 3) := by decide +kernel
theorem d_Mod_fill_109 : decode b_Mod_fill 109 = .ok (.iload 5, 2) := by decide +kernel
theorem d_Mod_fill_111 : decode b_Mod_fill 111 = .ok (.ifCond .lt 11, 3) := by decide +kernel
theorem d_Mod_fill_114 : decode b_Mod_fill 114 = .ok (.aload_n 0, 1) := by decide +kernel
theorem d_Mod_fill_115 : decode b_Mod_fill 115 = .ok (.iload 5, 2) := by decide +kernel
theorem d_Mod_fill_117 : decode b_Mod_fill 117 = .ok (.iconst 2, 1) := by decide +kernel
theorem d_Mod_fill_118 : decode b_Mod_fill 118 = .ok (.iconst 0, 1) := by decide +kernel
theorem d_Mod_fill_119 : decode b_Mod_fill 119 = .ok (.invokevirtual 111, 3) := by decide +kernel
theorem d_Mod_fill_122 : decode b_Mod_fill 122 = .ok (.iload 6, 2) := by decide +kernel
theorem d_Mod_fill_124 : decode b_Mod_fill 124 = .ok (.ifCond .lt 11, 3) := by decide +kernel
theorem d_Mod_fill_127 : decode b_Mod_fill 127 = .ok (.aload_n 0, 1) := by decide +kernel
theorem d_Mod_fill_128 : decode b_Mod_fill 128 = .ok (.iload 6, 2) := by decide +kernel
theorem d_Mod_fill_130 : decode b_Mod_fill 130 = .ok (.iconst 2, 1) := by decide +kernel
theorem d_Mod_fill_131 : decode b_Mod_fill 131 = .ok (.iconst 1, 1) := by decide +kernel
theorem d_Mod_fill_132 : decode b_Mod_fill 132 = .ok (.invokevirtual 111, 3) := by decide +kernel
theorem d_Mod_fill_135 : decode b_Mod_fill 135 = .ok (.aload_n 0, 1) := by decide +kernel
theorem d_Mod_fill_136 : decode b_Mod_fill 136 = .ok (.iconst 0, 1) := by decide +kernel
theorem d_Mod_fill_137 : decode b_Mod_fill 137 = .ok (.putfield 84, 3) := by decide +kernel
theorem d_Mod_fill_140 : decode b_Mod_fill 140 = .ok (.aload_n 0, 1) := by decide +kernel
theorem d_Mod_fill_141 : decode b_Mod_fill 141 = .ok (.iconst 0, 1) := by decide +kernel
theorem d_Mod_fill_142 : decode b_Mod_fill 142 = .ok (.iload_n 3, 1) := by decide +kernel
theorem d_Mod_fill_143 : decode b_Mod_fill 143 = .ok (.iconst 1, 1) := by decide +kernel
theorem d_Mod_fill_144 : decode b_Mod_fill 144 = .ok (.invokevirtual 101, 3) := by decide +kernel
theorem d_Mod_fill_147 : decode b_Mod_fill 147 = .ok (.aload_n 0, 1) := by decide +kernel
theorem d_Mod_fill_148 : decode b_Mod_fill 148 = .ok (.getfield 84, 3) := by decide +kernel
theorem d_Mod_fill_151 : decode b_Mod_fill 151 = .ok (.ifCond .le 10, 3) := by decide +kernel
theorem d_Mod_fill_154 : decode b_Mod_fill 154 = .ok (.aload_n 0, 1) := by decide +kernel
theorem d_Mod_fill_155 : decode b_Mod_fill 155 = .ok (.invokevirtual 140, 3) := by decide +kernel
theorem d_Mod_fill_158 : decode b_Mod_fill 158 = .ok (.goto (-11), 3) := by decide +kernel
theorem d_Mod_fill_161 : decode b_Mod_fill 161 = .ok (.return_, 1) := by decide +kernel
theorem d_Mod_add_0 : decode b_Mod_add 0 = .ok (.aload_n 0, 1) := by decide +kernel
theorem d_Mod_add_1 : decode b_Mod_add 1 = .ok (.getfield 74, 3) := by decide +kernel
theorem d_Mod_add_4 : decode b_Mod_add 4 = .ok (.istore_n 1, 1) := by decide +kernel
theorem d_Mod_add_5 : decode b_Mod_add 5 = .ok (.aload_n 0, 1) := by decide +kernel
theorem d_Mod_add_6 : decode b_Mod_add 6 = .ok (.iconst 0, 1) := by decide +kernel
theorem d_Mod_add_7 : decode b_Mod_add 7 = .ok (.putfield 74, 3) := by decide +kernel
theorem d_Mod_add_10 : decode b_Mod_add 10 = .ok (.aload_n 0, 1) := by decide +kernel
theorem d_Mod_add_11 : decode b_Mod_add 11 = .ok (.iconst 0, 1) := by decide +kernel
theorem d_Mod_add_12 : decode b_Mod_add 12 = .ok (.iload_n 1, 1) := by decide +kernel
theorem d_Mod_add_13 : decode b_Mod_add 13 = .ok (.bipush 105, 2) := by decide +kernel
theorem d_Mod_add_15 : decode b_Mod_add 15 = .ok (.invokevirtual 87, 3) := by decide +kernel
theorem d_Mod_add_18 : decode b_Mod_add 18 = .ok (.istore_n 2, 1) := by decide +kernel
theorem d_Mod_add_19 : decode b_Mod_add 19 = .ok (.iload_n 2, 1) := by decide +kernel
theorem d_Mod_add_20 : decode b_Mod_add 20 = .ok (.ifCond .ge 7, 3) := by decide +kernel
theorem d_Mod_add_23 : decode b_Mod_add 23 = .ok (.iconst (-1), 1) := by decide +kernel
theorem d_Mod_add_24 : decode b_Mod_add 24 = .ok (.goto 15, 3) := by decide +kernel
theorem d_Mod_add_27 : decode b_Mod_add 27 = .ok (.aload_n 0, 1) := by decide +kernel
theorem d_Mod_add_28 : decode b_Mod_add 28 = .ok (.iload_n 2, 1) := by decide +kernel
theorem d_Mod_add_29 : decode b_Mod_add 29 = .ok (.iconst 2, 1) := by decide +kernel
theorem d_Mod_add_30 : decode b_Mod_add 30 = .ok (.aload_n 0, 1) := by decide +kernel
theorem d_Mod_add_31 : decode b_Mod_add 31 = .ok (.getfield 13, 3) := by decide +kernel
theorem d_Mod_add_34 : decode b_Mod_add 34 = .ok (.iload_n 2, 1) := by decide +kernel
theorem d_Mod_add_35 : decode b_Mod_add 35 = .ok (.iaload, 1) := by decide +kernel
theorem d_Mod_add_36 : decode b_Mod_add 36 = .ok (.invokevirtual 131, 3) := by decide +kernel
theorem d_Mod_add_39 : decode b_Mod_add 39 = .ok (.istore_n 3, 1) := by decide +kernel
theorem d_Mod_add_40 : decode b_Mod_add 40 = .ok (.iload_n 3, 1) := by decide +kernel
theorem d_Mod_add_41 : decode b_Mod_add 41 = .ok (.ifCond .ge 6, 3) := by decide +kernel
theorem d_Mod_add_44 : decode b_Mod_add 44 = .ok (.bipush (-3), 2) := by decide +kernel
theorem d_Mod_add_46 : decode b_Mod_add 46 = .ok (.ireturn, 1) := by decide +kernel
theorem d_Mod_add_47 : decode b_Mod_add 47 = .ok (.bipush 12, 2) := by decide +kernel
theorem d_Mod_add_49 : decode b_Mod_add 49 = .ok (.istore 4, 2) := by decide +kernel
theorem d_Mod_add_51 : decode b_Mod_add 51 = .ok (.bipush 11, 2) := by decide +kernel
theorem d_Mod_add_53 : decode b_Mod_add 53 = .ok (.istore 5, 2) := by decide +kernel
theorem d_Mod_add_55 : decode b_Mod_add 55 = .ok (.iload 5, 2) := by decide +kernel
theorem d_Mod_add_57 : decode b_Mod_add 57 = .ok (.ifCond .lt 46, 3) := by decide +kernel
theorem d_Mod_add_60 : decode b_Mod_add 60 = .ok (.aload_n 0, 1) := by decide +kernel
theorem d_Mod_add_61 : decode b_Mod_add 61 = .ok (.getfield 25, 3) := by decide +kernel
theorem d_Mod_add_64 : decode b_Mod_add 64 = .ok (.iload 5, 2) := by decide +kernel
theorem d_Mod_add_66 : decode b_Mod_add 66 = .ok (.baload, 1) := by decide +kernel
theorem d_Mod_add_67 : decode b_Mod_add 67 = .ok (.ifCond .eq 16, 3) := by decide +kernel
theorem d_Mod_add_70 : decode b_Mod_add 70 = .ok (.aload_n 0, 1) := by decide +kernel
theorem d_Mod_add_71 : decode b_Mod_add 71 = .ok (.getfield 29, 3) := by decide +kernel
theorem d_Mod_add_74 : decode b_Mod_add 74 = .ok (.iload 5, 2) := by decide +kernel
theorem d_Mod_add_76 : decode b_Mod_add 76 = .ok (.iaload, 1) := by decide +kernel
theorem d_Mod_add_77 : decode b_Mod_add 77 = .ok (.iload_n 3, 1) := by decide +kernel
theorem d_Mod_add_78 : decode b_Mod_add 78 = .ok (.if_icmp .ne 5, 3) := by decide +kernel
theorem d_Mod_add_81 : decode b_Mod_add 81 = .ok (.iconst (-1), 1) := by decide +kernel
theorem d_Mod_add_82 : decode b_Mod_add 82 = .ok (.ireturn, 1) := by decide +kernel
theorem d_Mod_add_83 : decode b_Mod_add 83 = .ok (.aload_n 0, 1) := by decide +kernel
theorem d_Mod_add_84 : decode b_Mod_add 84 = .ok (.getfield 25, 3) := by decide +kernel
theorem d_Mod_add_87 : decode b_Mod_add 87 = .ok (.iload 5, 2) := by decide +kernel
theorem d_Mod_add_89 : decode b_Mod_add 89 = .ok (.baload, 1) := by decide +kernel
theorem d_Mod_add_90 : decode b_Mod_add 90 = .ok (.ifCond .ne 7, 3) := by decide +kernel
theorem d_Mod_add_93 : decode b_Mod_add 93 = .ok (.iload 5, 2) := by decide +kernel
theorem d_Mod_add_95 : decode b_Mod_add 95 = .ok (.istore 4, 2) := by decide +kernel
theorem d_Mod_add_97 : decode b_Mod_add 97 = .ok (.iinc 5 (-1), 3) := by decide +kernel
theorem d_Mod_add_100 : decode b_Mod_add 100 = .ok (.goto (-45), 3) := by decide +kernel
theorem d_Mod_add_103 : decode b_Mod_add 103 = .ok (.iload 4, 2) := by decide +kernel
theorem d_Mod_add_105 : decode b_Mod_add 105 = .ok (.bipush 12, 2) := by decide +kernel
theorem d_Mod_add_107 : decode b_Mod_add 107 = .ok (.if_icmp .ne 6, 3) := by decide +kernel
theorem d_Mod_add_110 : decode b_Mod_add 110 = .ok (.bipush (-2), 2) := by decide +kernel
theorem d_Mod_add_112 : decode b_Mod_add 112 = .ok (.ireturn, 1) := by decide +kernel
theorem d_Mod_add_113 : decode b_Mod_add 113 = .ok (.aload_n 0, 1) := by decide +kernel
theorem d_Mod_add_114 : decode b_Mod_add 114 = .ok (.iload 4, 2) := by decide +kernel
theorem d_Mod_add_116 : decode b_Mod_add 116 = .ok (.iload_n 3, 1) := by decide +kernel
theorem d_Mod_add_117 : decode b_Mod_add 117 = .ok (.iload_n 1, 1) := by decide +kernel
theorem d_Mod_add_118 : decode b_Mod_add 118 = .ok (.invokevirtual 143, 3) := by decide +kernel
theorem d_Mod_add_121 : decode b_Mod_add 121 = .ok (.iload 4, 2) := by decide +kernel
theorem d_Mod_add_123 : decode b_Mod_add 123 = .ok (.ireturn, 1) := by decide +kernel
theorem d_Mod_noMessage_0 : decode b_Mod_noMessage 0 = .ok (.iload_n 1, 1) := by decide +kernel
theorem d_Mod_noMessage_1 : decode b_Mod_noMessage 1 = .ok (.bipush 12, 2) := by decide +kernel
theorem d_Mod_noMessage_3 : decode b_Mod_noMessage 3 = .ok (.invokestatic 70, 3) := by decide +kernel
theorem d_Mod_noMessage_6 : decode b_Mod_noMessage 6 = .ok (.ifCond .ne 12, 3) := by decide +kernel
theorem d_Mod_noMessage_9 : decode b_Mod_noMessage 9 = .ok (.aload_n 0, 1) := by decide +kernel
theorem d_Mod_noMessage_10 : decode b_Mod_noMessage 10 = .ok (.getfield 25, 3) := by decide +kernel
theorem d_Mod_noMessage_13 : decode b_Mod_noMessage 13 = .ok (.iload_n 1, 1) := by decide +kernel
theorem d_Mod_noMessage_14 : decode b_Mod_noMessage 14 = .ok (.baload, 1) := by decide +kernel
theorem d_Mod_noMessage_15 : decode b_Mod_noMessage 15 = .ok (.ifCond .ne 7, 3) := by decide +kernel
theorem d_Mod_noMessage_18 : decode b_Mod_noMessage 18 = .ok (.iconst 1, 1) := by decide +kernel
theorem d_Mod_noMessage_19 : decode b_Mod_noMessage 19 = .ok (.goto 4, 3) := by decide +kernel
theorem d_Mod_noMessage_22 : decode b_Mod_noMessage 22 = .ok (.iconst 0, 1) := by decide +kernel
theorem d_Mod_noMessage_23 : decode b_Mod_noMessage 23 = .ok (.ireturn, 1) := by decide +kernel
theorem d_Mod_drop_0 : decode b_Mod_drop 0 = .ok (.aload_n 0, 1) := by decide +kernel
theorem d_Mod_drop_1 : decode b_Mod_drop 1 = .ok (.iload_n 1, 1) := by decide +kernel
theorem d_Mod_drop_2 : decode b_Mod_drop 2 = .ok (.invokevirtual 146, 3) := by decide +kernel
theorem d_Mod_drop_5 : decode b_Mod_drop 5 = .ok (.ifCond .eq 5, 3) := by decide +kernel
theorem d_Mod_drop_8 : decode b_Mod_drop 8 = .ok (.iconst (-1), 1) := by decide +kernel
theorem d_Mod_drop_9 : decode b_Mod_drop 9 = .ok (.ireturn, 1) := by decide +kernel
theorem d_Mod_drop_10 : decode b_Mod_drop 10 = .ok (.aload_n 0, 1) := by decide +kernel
theorem d_Mod_drop_11 : decode b_Mod_drop 11 = .ok (.getfield 25, 3) := by decide +kernel
theorem d_Mod_drop_14 : decode b_Mod_drop 14 = .ok (.iload_n 1, 1) := by decide +kernel
theorem d_Mod_drop_15 : decode b_Mod_drop 15 = .ok (.iconst 0, 1) := by decide +kernel
theorem d_Mod_drop_16 : decode b_Mod_drop 16 = .ok (.bastore, 1) := by decide +kernel
theorem d_Mod_drop_17 : decode b_Mod_drop 17 = .ok (.iconst 0, 1) := by decide +kernel
theorem d_Mod_drop_18 : decode b_Mod_drop 18 = .ok (.ireturn, 1) := by decide +kernel
theorem d_Mod_tag_0 : decode b_Mod_tag 0 = .ok (.aload_n 0, 1) := by decide +kernel
theorem d_Mod_tag_1 : decode b_Mod_tag 1 = .ok (.iload_n 1, 1) := by decide +kernel
theorem d_Mod_tag_2 : decode b_Mod_tag 2 = .ok (.invokevirtual 146, 3) := by decide +kernel
theorem d_Mod_tag_5 : decode b_Mod_tag 5 = .ok (.ifCond .ne 12, 3) := by decide +kernel
theorem d_Mod_tag_8 : decode b_Mod_tag 8 = .ok (.iload_n 2, 1) := by decide +kernel
theorem d_Mod_tag_9 : decode b_Mod_tag 9 = .ok (.bipush 8, 2) := by decide +kernel
theorem d_Mod_tag_11 : decode b_Mod_tag 11 = .ok (.invokestatic 70, 3) := by decide +kernel
theorem d_Mod_tag_14 : decode b_Mod_tag 14 = .ok (.ifCond .eq 5, 3) := by decide +kernel
theorem d_Mod_tag_17 : decode b_Mod_tag 17 = .ok (.iconst (-1), 1) := by decide +kernel
theorem d_Mod_tag_18 : decode b_Mod_tag 18 = .ok (.ireturn, 1) := by decide +kernel
theorem d_Mod_tag_19 : decode b_Mod_tag 19 = .ok (.aload_n 0, 1) := by decide +kernel
theorem d_Mod_tag_20 : decode b_Mod_tag 20 = .ok (.getfield 41, 3) := by decide +kernel
theorem d_Mod_tag_23 : decode b_Mod_tag 23 = .ok (.iload_n 1, 1) := by decide +kernel
theorem d_Mod_tag_24 : decode b_Mod_tag 24 = .ok (.iload_n 3, 1) := by decide +kernel
theorem d_Mod_tag_25 : decode b_Mod_tag 25 = .ok (.ifCond .eq 16, 3) := by decide +kernel
theorem d_Mod_tag_28 : decode b_Mod_tag 28 = .ok (.aload_n 0, 1) := by decide +kernel
theorem d_Mod_tag_29 : decode b_Mod_tag 29 = .ok (.getfield 41, 3) := by decide +kernel
theorem d_Mod_tag_32 : decode b_Mod_tag 32 = .ok (.iload_n 1, 1) := by decide +kernel
theorem d_Mod_tag_33 : decode b_Mod_tag 33 = .ok (.iaload, 1) := by decide +kernel
theorem d_Mod_tag_34 : decode b_Mod_tag 34 = .ok (.iconst 1, 1) := by decide +kernel
theorem d_Mod_tag_35 : decode b_Mod_tag 35 = .ok (.iload_n 2, 1) := by decide +kernel
theorem d_Mod_tag_36 : decode b_Mod_tag 36 = .ok (.ishl, 1) := by decide +kernel
theorem d_Mod_tag_37 : decode b_Mod_tag 37 = .ok (.ior, 1) := by decide +kernel
theorem d_Mod_tag_38 : decode b_Mod_tag 38 = .ok (.goto 15, 3) := by decide +kernel
theorem d_Mod_tag_41 : decode b_Mod_tag 41 = .ok (.aload_n 0, 1) := by decide +kernel
theorem d_Mod_tag_42 : decode b_Mod_tag 42 = .ok (.getfield 41, 3) := by decide +kernel
theorem d_Mod_tag_45 : decode b_Mod_tag 45 = .ok (.iload_n 1, 1) := by decide +kernel
theorem d_Mod_tag_46 : decode b_Mod_tag 46 = .ok (.iaload, 1) := by decide +kernel
theorem d_Mod_tag_47 : decode b_Mod_tag 47 = .ok (.iconst 1, 1) := by decide +kernel
theorem d_Mod_tag_48 : decode b_Mod_tag 48 = .ok (.iload_n 2, 1) := by decide +kernel
theorem d_Mod_tag_49 : decode b_Mod_tag 49 = .ok (.ishl, 1) := by decide +kernel
theorem d_Mod_tag_50 : decode b_Mod_tag 50 = .ok (.iconst (-1), 1) := by decide +kernel
theorem d_Mod_tag_51 : decode b_Mod_tag 51 = .ok (.ixor, 1) := by decide +kernel
theorem d_Mod_tag_52 : decode b_Mod_tag 52 = .ok (.iand, 1) := by decide +kernel
theorem d_Mod_tag_53 : decode b_Mod_tag 53 = .ok (.iastore, 1) := by decide +kernel
theorem d_Mod_tag_54 : decode b_Mod_tag 54 = .ok (.iconst 0, 1) := by decide +kernel
theorem d_Mod_tag_55 : decode b_Mod_tag 55 = .ok (.ireturn, 1) := by decide +kernel
theorem d_Mod_isLetter_0 : decode b_Mod_isLetter 0 = .ok (.iload_n 0, 1) := by decide +kernel
theorem d_Mod_isLetter_1 : decode b_Mod_isLetter 1 = .ok (.bipush 97, 2) := by decide +kernel
theorem d_Mod_isLetter_3 : decode b_Mod_isLetter 3 = .ok (.if_icmp .lt 13, 3) := by decide +kernel
theorem d_Mod_isLetter_6 : decode b_Mod_isLetter 6 = .ok (.iload_n 0, 1) := by decide +kernel
theorem d_Mod_isLetter_7 : decode b_Mod_isLetter 7 = .ok (.bipush 122, 2) := by decide +kernel
theorem d_Mod_isLetter_9 : decode b_Mod_isLetter 9 = .ok (.if_icmp .gt 7, 3) := by decide +kernel
theorem d_Mod_isLetter_12 : decode b_Mod_isLetter 12 = .ok (.iconst 1, 1) := by decide +kernel
theorem d_Mod_isLetter_13 : decode b_Mod_isLetter 13 = .ok (.goto 4, 3) := by decide +kernel
theorem d_Mod_isLetter_16 : decode b_Mod_isLetter 16 = .ok (.iconst 0, 1) := by decide +kernel
theorem d_Mod_isLetter_17 : decode b_Mod_isLetter 17 = .ok (.ireturn, 1) := by decide +kernel
theorem d_Mod_nextState_0 : decode b_Mod_nextState 0 = .ok (.iload_n 1, 1) := by decide +kernel
theorem d_Mod_nextState_1 : decode b_Mod_nextState 1 = .ok (.ifCond .ne 11, 3) := by decide +kernel
theorem d_Mod_nextState_4 : decode b_Mod_nextState 4 = .ok (.iload_n 2, 1) := by decide +kernel
theorem d_Mod_nextState_5 : decode b_Mod_nextState 5 = .ok (.bipush 33, 2) := by decide +kernel
theorem d_Mod_nextState_7 : decode b_Mod_nextState 7 = .ok (.if_icmp .ne 5, 3) := by decide +kernel
theorem d_Mod_nextState_10 : decode b_Mod_nextState 10 = .ok (.iconst 0, 1) := by decide +kernel
theorem d_Mod_nextState_11 : decode b_Mod_nextState 11 = .ok (.ireturn, 1) := by decide +kernel
theorem d_Mod_nextState_12 : decode b_Mod_nextState 12 = .ok (.iload_n 1, 1) := by decide +kernel
theorem d_Mod_nextState_13 : decode b_Mod_nextState 13 = .ok (.ifCond .ne 22, 3) := by decide +kernel
theorem d_Mod_nextState_16 : decode b_Mod_nextState 16 = .ok (.iload_n 2, 1) := by decide +kernel
theorem d_Mod_nextState_17 : decode b_Mod_nextState 17 = .ok (.bipush 40, 2) := by decide +kernel
theorem d_Mod_nextState_19 : decode b_Mod_nextState 19 = .ok (.if_icmp .ne 16, 3) := by decide +kernel
theorem d_Mod_nextState_22 : decode b_Mod_nextState 22 = .ok (.iload 4, 2) := by decide +kernel
theorem d_Mod_nextState_24 : decode b_Mod_nextState 24 = .ok (.bipush 6, 2) := by decide +kernel
theorem d_Mod_nextState_26 : decode b_Mod_nextState 26 = .ok (.if_icmp .ne 7, 3) := by decide +kernel
theorem d_Mod_nextState_29 : decode b_Mod_nextState 29 = .ok (.iconst (-1), 1) := by decide +kernel
theorem d_Mod_nextState_30 : decode b_Mod_nextState 30 = .ok (.goto 4, 3) := by decide +kernel
theorem d_Mod_nextState_33 : decode b_Mod_nextState 33 = .ok (.iconst 0, 1) := by decide +kernel
theorem d_Mod_nextState_34 : decode b_Mod_nextState 34 = .ok (.ireturn, 1) := by decide +kernel
theorem d_Mod_nextState_35 : decode b_Mod_nextState 35 = .ok (.iload_n 1, 1) := by decide +kernel
theorem d_Mod_nextState_36 : decode b_Mod_nextState 36 = .ok (.ifCond .ne 16, 3) := by decide +kernel
theorem d_Mod_nextState_39 : decode b_Mod_nextState 39 = .ok (.iload_n 2, 1) := by decide +kernel
theorem d_Mod_nextState_40 : decode b_Mod_nextState 40 = .ok (.invokestatic 156, 3) := by decide +kernel
theorem d_Mod_nextState_43 : decode b_Mod_nextState 43 = .ok (.ifCond .eq 7, 3) := by decide +kernel
theorem d_Mod_nextState_46 : decode b_Mod_nextState 46 = .ok (.iconst 1, 1) := by decide +kernel
theorem d_Mod_nextState_47 : decode b_Mod_nextState 47 = .ok (.goto 4, 3) := by decide +kernel
theorem d_Mod_nextState_50 : decode b_Mod_nextState 50 = .ok (.iconst (-1), 1) := by decide +kernel
theorem d_Mod_nextState_51 : decode b_Mod_nextState 51 = .ok (.ireturn, 1) := by decide +kernel
theorem d_Mod_nextState_52 : decode b_Mod_nextState 52 = .ok (.iload_n 1, 1) := by decide +kernel
theorem d_Mod_nextState_53 : decode b_Mod_nextState 53 = .ok (.iconst 3, 1) := by decide +kernel
theorem d_Mod_nextState_54 : decode b_Mod_nextState 54 = .ok (.if_icmp .ne 16, 3) := by decide +kernel
theorem d_Mod_nextState_57 : decode b_Mod_nextState 57 = .ok (.iload_n 2, 1) := by decide +kernel
theorem d_Mod_nextState_58 : decode b_Mod_nextState 58 = .ok (.invokestatic 156, 3) := by decide +kernel
theorem d_Mod_nextState_61 : decode b_Mod_nextState 61 = .ok (.ifCond .eq 7, 3) := by decide +kernel
theorem d_Mod_nextState_64 : decode b_Mod_nextState 64 = .ok (.iconst 2, 1) := by decide +kernel
theorem d_Mod_nextState_65 : decode b_Mod_nextState 65 = .ok (.goto 4, 3) := by decide +kernel
theorem d_Mod_nextState_68 : decode b_Mod_nextState 68 = .ok (.iconst (-1), 1) := by decide +kernel
theorem d_Mod_nextState_69 : decode b_Mod_nextState 69 = .ok (.ireturn, 1) := by decide +kernel
theorem d_Mod_nextState_70 : decode b_Mod_nextState 70 = .ok (.iload_n 1, 1) := by decide +kernel
theorem d_Mod_nextState_71 : decode b_Mod_nextState 71 = .ok (.iconst 4, 1) := by decide +kernel
theorem d_Mod_nextState_72 : decode b_Mod_nextState 72 = .ok (.if_icmp .ne 21, 3) := by decide +kernel
theorem d_Mod_nextState_75 : decode b_Mod_nextState 75 = .ok (.iload_n 2, 1) := by decide +kernel
theorem d_Mod_nextState_76 : decode b_Mod_nextState 76 = .ok (.bipush 48, 2) := by decide +kernel
theorem d_Mod_nextState_78 : decode b_Mod_nextState 78 = .ok (.if_icmp .lt 13, 3) := by decide +kernel
theorem d_Mod_nextState_81 : decode b_Mod_nextState 81 = .ok (.iload_n 2, 1) := by decide +kernel
theorem d_Mod_nextState_82 : decode b_Mod_nextState 82 = .ok (.bipush 55, 2) := by decide +kernel
theorem d_Mod_nextState_84 : decode b_Mod_nextState 84 = .ok (.if_icmp .gt 7, 3) := by decide +kernel
theorem d_Mod_nextState_87 : decode b_Mod_nextState 87 = .ok (.iconst 5, 1) := by decide +kernel
theorem d_Mod_nextState_88 : decode b_Mod_nextState 88 = .ok (.goto 4, 3) := by decide +kernel
theorem d_Mod_nextState_91 : decode b_Mod_nextState 91 = .ok (.iconst (-1), 1) := by decide +kernel
theorem d_Mod_nextState_92 : decode b_Mod_nextState 92 = .ok (.ireturn, 1) := by decide +kernel
theorem d_Mod_nextState_93 : decode b_Mod_nextState 93 = .ok (.iload_n 1, 1) := by decide +kernel
theorem d_Mod_nextState_94 : decode b_Mod_nextState 94 = .ok (.iconst 5, 1) := by decide +kernel
theorem d_Mod_nextState_95 : decode b_Mod_nextState 95 = .ok (.if_icmp .eq 12, 3) := by decide +kernel
theorem d_Mod_nextState_98 : decode b_Mod_nextState 98 = .ok (.iload_n 2, 1) := by decide +kernel
theorem d_Mod_nextState_99 : decode b_Mod_nextState 99 = .ok (.invokestatic 156, 3) := by decide +kernel
theorem d_Mod_nextState_102 : decode b_Mod_nextState 102 = .ok (.ifCond .eq 5, 3) := by decide +kernel
theorem d_Mod_nextState_105 : decode b_Mod_nextState 105 = .ok (.iconst 2, 1) := by decide +kernel
theorem d_Mod_nextState_106 : decode b_Mod_nextState 106 = .ok (.ireturn, 1) := by decide +kernel
theorem d_Mod_nextState_107 : decode b_Mod_nextState 107 = .ok (.iload_n 1, 1) := by decide +kernel
theorem d_Mod_nextState_108 : decode b_Mod_nextState 108 = .ok (.iconst 5, 1) := by decide +kernel
theorem d_Mod_nextState_109 : decode b_Mod_nextState 109 = .ok (.if_icmp .eq 11, 3) := by decide +kernel
theorem d_Mod_nextState_112 : decode b_Mod_nextState 112 = .ok (.iload_n 2, 1) := by decide +kernel
theorem d_Mod_nextState_113 : decode b_Mod_nextState 113 = .ok (.bipush 42, 2) := by decide +kernel
theorem d_Mod_nextState_115 : decode b_Mod_nextState 115 = .ok (.if_icmp .ne 5, 3) := by decide +kernel
theorem d_Mod_nextState_118 : decode b_Mod_nextState 118 = .ok (.iconst 5, 1) := by decide +kernel
theorem d_Mod_nextState_119 : decode b_Mod_nextState 119 = .ok (.ireturn, 1) := by decide +kernel
theorem d_Mod_nextState_120 : decode b_Mod_nextState 120 = .ok (.iload_n 1, 1) := by decide +kernel
theorem d_Mod_nextState_121 : decode b_Mod_nextState 121 = .ok (.iconst 1, 1) := by decide +kernel
theorem d_Mod_nextState_122 : decode b_Mod_nextState 122 = .ok (.if_icmp .ne 43, 3) := by decide +kernel
theorem d_Mod_nextState_125 : decode b_Mod_nextState 125 = .ok (.iload_n 2, 1) := by decide +kernel
theorem d_Mod_nextState_126 : decode b_Mod_nextState 126 = .ok (.bipush 58, 2) := by decide +kernel
theorem d_Mod_nextState_128 : decode b_Mod_nextState 128 = .ok (.if_icmp .ne 37, 3) := by decide +kernel
theorem d_Mod_nextState_131 : decode b_Mod_nextState 131 = .ok (.iload_n 3, 1) := by decide +kernel
theorem d_Mod_nextState_132 : decode b_Mod_nextState 132 = .ok (.bipush 115, 2) := by decide +kernel
theorem d_Mod_nextState_134 : decode b_Mod_nextState 134 = .ok (.if_icmp .eq 15, 3) := by decide +kernel
theorem d_Mod_nextState_137 : decode b_Mod_nextState 137 = .ok (.iload_n 3, 1) := by decide +kernel
theorem d_Mod_nextState_138 : decode b_Mod_nextState 138 = .ok (.bipush 102, 2) := by decide +kernel
theorem d_Mod_nextState_140 : decode b_Mod_nextState 140 = .ok (.if_icmp .eq 9, 3) := by decide +kernel
theorem d_Mod_nextState_143 : decode b_Mod_nextState 143 = .ok (.iload_n 3, 1) := by decide +kernel
theorem d_Mod_nextState_144 : decode b_Mod_nextState 144 = .ok (.bipush 98, 2) := by decide +kernel
theorem d_Mod_nextState_146 : decode b_Mod_nextState 146 = .ok (.if_icmp .ne 7, 3) := by decide +kernel
theorem d_Mod_nextState_149 : decode b_Mod_nextState 149 = .ok (.iconst 3, 1) := by decide +kernel
theorem d_Mod_nextState_150 : decode b_Mod_nextState 150 = .ok (.goto 14, 3) := by decide +kernel
theorem d_Mod_nextState_153 : decode b_Mod_nextState 153 = .ok (.iload_n 3, 1) := by decide +kernel
theorem d_Mod_nextState_154 : decode b_Mod_nextState 154 = .ok (.bipush 116, 2) := by decide +kernel
theorem d_Mod_nextState_156 : decode b_Mod_nextState 156 = .ok (.if_icmp .ne 7, 3) := by decide +kernel
theorem d_Mod_nextState_159 : decode b_Mod_nextState 159 = .ok (.iconst 4, 1) := by decide +kernel
theorem d_Mod_nextState_160 : decode b_Mod_nextState 160 = .ok (.goto 4, 3) := by decide +kernel
theorem d_Mod_nextState_163 : decode b_Mod_nextState 163 = .ok (.iconst (-1), 1) := by decide +kernel
theorem d_Mod_nextState_164 : decode b_Mod_nextState 164 = .ok (.ireturn, 1) := by decide +kernel
theorem d_Mod_nextState_165 : decode b_Mod_nextState 165 = .ok (.iload_n 2, 1) := by decide +kernel
theorem d_Mod_nextState_166 : decode b_Mod_nextState 166 = .ok (.bipush 124, 2) := by decide +kernel
theorem d_Mod_nextState_168 : decode b_Mod_nextState 168 = .ok (.if_icmp .eq 9, 3) := by decide +kernel
theorem d_Mod_nextState_171 : decode b_Mod_nextState 171 = .ok (.iload_n 2, 1) := by decide +kernel
theorem d_Mod_nextState_172 : decode b_Mod_nextState 172 = .ok (.bipush 38, 2) := by decide +kernel
theorem d_Mod_nextState_174 : decode b_Mod_nextState 174 = .ok (.if_icmp .ne 5, 3) := by decide +kernel
theorem d_Mod_nextState_177 : decode b_Mod_nextState 177 = .ok (.iconst 0, 1) := by decide +kernel
theorem d_Mod_nextState_178 : decode b_Mod_nextState 178 = .ok (.ireturn, 1) := by decide +kernel
theorem d_Mod_nextState_179 : decode b_Mod_nextState 179 = .ok (.iload_n 2, 1) := by decide +kernel
theorem d_Mod_nextState_180 : decode b_Mod_nextState 180 = .ok (.bipush 41, 2) := by decide +kernel
theorem d_Mod_nextState_182 : decode b_Mod_nextState 182 = .ok (.if_icmp .ne 12, 3) := by decide +kernel
theorem d_Mod_nextState_185 : decode b_Mod_nextState 185 = .ok (.iload 4, 2) := by decide +kernel
theorem d_Mod_nextState_187 : decode b_Mod_nextState 187 = .ok (.ifCond .le 7, 3) := by decide +kernel
theorem d_Mod_nextState_190 : decode b_Mod_nextState 190 = .ok (.iconst 5, 1) := by decide +kernel
theorem d_Mod_nextState_191 : decode b_Mod_nextState 191 = .ok (.goto 4, 3) := by decide +kernel
theorem d_Mod_nextState_194 : decode b_Mod_nextState 194 = .ok (.iconst (-1), 1) := by decide +kernel
theorem d_Mod_nextState_195 : decode b_Mod_nextState 195 = .ok (.ireturn, 1) := by decide +kernel
theorem d_Mod_fault_0 : decode b_Mod_fault 0 = .ok (.iconst 0, 1) := by decide +kernel
theorem d_Mod_fault_1 : decode b_Mod_fault 1 = .ok (.istore_n 2, 1) := by decide +kernel
theorem d_Mod_fault_2 : decode b_Mod_fault 2 = .ok (.iconst 0, 1) := by decide +kernel
theorem d_Mod_fault_3 : decode b_Mod_fault 3 = .ok (.istore_n 3, 1) := by decide +kernel
theorem d_Mod_fault_4 : decode b_Mod_fault 4 = .ok (.iconst 0, 1) := by decide +kernel
theorem d_Mod_fault_5 : decode b_Mod_fault 5 = .ok (.istore 4, 2) := by decide +kernel
theorem d_Mod_fault_7 : decode b_Mod_fault 7 = .ok (.iload 4, 2) := by decide +kernel
theorem d_Mod_fault_9 : decode b_Mod_fault 9 = .ok (.iload_n 1, 1) := by decide +kernel
theorem d_Mod_fault_10 : decode b_Mod_fault 10 = .ok (.if_icmp .ge 74, 3) := by decide +kernel
theorem d_Mod_fault_13 : decode b_Mod_fault 13 = .ok (.aload_n 0, 1) := by decide +kernel
theorem d_Mod_fault_14 : decode b_Mod_fault 14 = .ok (.bipush 30, 2) := by decide +kernel
theorem d_Mod_fault_16 : decode b_Mod_fault 16 = .ok (.iload 4, 2) := by decide +kernel
theorem d_Mod_fault_18 : decode b_Mod_fault 18 = .ok (.invokevirtual 77, 3) := by decide +kernel
theorem d_Mod_fault_21 : decode b_Mod_fault 21 = .ok (.istore 5, 2) := by decide +kernel
theorem d_Mod_fault_23 : decode b_Mod_fault 23 = .ok (.aload_n 0, 1) := by decide +kernel
theorem d_Mod_fault_24 : decode b_Mod_fault 24 = .ok (.iload_n 2, 1) := by decide +kernel
theorem d_Mod_fault_25 : decode b_Mod_fault 25 = .ok (.iload 5, 2) := by decide +kernel
theorem d_Mod_fault_27 : decode b_Mod_fault 27 = .ok (.iload 4, 2) := by decide +kernel
theorem d_Mod_fault_29 : decode b_Mod_fault 29 = .ok (.ifCond .le 16, 3) := by decide +kernel
theorem d_Mod_fault_32 : decode b_Mod_fault 32 = .ok (.aload_n 0, 1) := by decide +kernel
theorem d_Mod_fault_33 : decode b_Mod_fault 33 = .ok (.bipush 30, 2) := by decide +kernel
theorem d_Mod_fault_35 : decode b_Mod_fault 35 = .ok (.iload 4, 2) := by decide +kernel
theorem d_Mod_fault_37 : decode b_Mod_fault 37 = .ok (.iconst 1, 1) := by decide +kernel
theorem d_Mod_fault_38 : decode b_Mod_fault 38 = .ok (.isub, 1) := by decide +kernel
theorem d_Mod_fault_39 : decode b_Mod_fault 39 = .ok (.invokevirtual 77, 3) := by decide +kernel
theorem d_Mod_fault_42 : decode b_Mod_fault 42 = .ok (.goto 4, 3) := by decide +kernel
theorem d_Mod_fault_45 : decode b_Mod_fault 45 = .ok (.iconst 0, 1) := by decide +kernel
theorem d_Mod_fault_46 : decode b_Mod_fault 46 = .ok (.iload_n 3, 1) := by decide +kernel
theorem d_Mod_fault_47 : decode b_Mod_fault 47 = .ok (.invokevirtual 159, 3) := by decide +kernel
theorem d_Mod_fault_50 : decode b_Mod_fault 50 = .ok (.istore_n 2, 1) := by decide +kernel
theorem d_Mod_fault_51 : decode b_Mod_fault 51 = .ok (.iload_n 2, 1) := by decide +kernel
theorem d_Mod_fault_52 : decode b_Mod_fault 52 = .ok (.ifCond .ge 6, 3) := by decide +kernel
theorem d_Mod_fault_55 : decode b_Mod_fault 55 = .ok (.iload 4, 2) := by decide +kernel
theorem d_Mod_fault_57 : decode b_Mod_fault 57 = .ok (.ireturn, 1) := by decide +kernel
theorem d_Mod_fault_58 : decode b_Mod_fault 58 = .ok (.iload 5, 2) := by decide +kernel
theorem d_Mod_fault_60 : decode b_Mod_fault 60 = .ok (.bipush 40, 2) := by decide +kernel
theorem d_Mod_fault_62 : decode b_Mod_fault 62 = .ok (.if_icmp .ne 6, 3) := by decide +kernel
theorem d_Mod_fault_65 : decode b_Mod_fault 65 = .ok (.iinc 3 1, 3) := by decide +kernel
theorem d_Mod_fault_68 : decode b_Mod_fault 68 = .ok (.iload 5, 2) := by decide +kernel
theorem d_Mod_fault_70 : decode b_Mod_fault 70 = .ok (.bipush 41, 2) := by decide +kernel
theorem d_Mod_fault_72 : decode b_Mod_fault 72 = .ok (.if_icmp .ne 6, 3) := by decide +kernel
theorem d_Mod_fault_75 : decode b_Mod_fault 75 = .ok (.iinc 3 (-1), 3) := by decide +kernel
theorem d_Mod_fault_78 : decode b_Mod_fault 78 = .ok (.iinc 4 1, 3) := by decide +kernel
theorem d_Mod_fault_81 : decode b_Mod_fault 81 = .ok (.goto (-74), 3) := by decide +kernel
theorem d_Mod_fault_84 : decode b_Mod_fault 84 = .ok (.iload_n 3, 1) := by decide +kernel
theorem d_Mod_fault_85 : decode b_Mod_fault 85 = .ok (.ifCond .ne 22, 3) := by decide +kernel
theorem d_Mod_fault_88 : decode b_Mod_fault 88 = .ok (.iload_n 2, 1) := by decide +kernel
theorem d_Mod_fault_89 : decode b_Mod_fault 89 = .ok (.iconst 1, 1) := by decide +kernel
theorem d_Mod_fault_90 : decode b_Mod_fault 90 = .ok (.if_icmp .eq 13, 3) := by decide +kernel
theorem d_Mod_fault_93 : decode b_Mod_fault 93 = .ok (.iload_n 2, 1) := by decide +kernel
theorem d_Mod_fault_94 : decode b_Mod_fault 94 = .ok (.iconst 2, 1) := by decide +kernel
theorem d_Mod_fault_95 : decode b_Mod_fault 95 = .ok (.if_icmp .eq 8, 3) := by decide +kernel
theorem d_Mod_fault_98 : decode b_Mod_fault 98 = .ok (.iload_n 2, 1) := by decide +kernel
theorem d_Mod_fault_99 : decode b_Mod_fault 99 = .ok (.iconst 5, 1) := by decide +kernel
theorem d_Mod_fault_100 : decode b_Mod_fault 100 = .ok (.if_icmp .ne 7, 3) := by decide +kernel
theorem d_Mod_fault_103 : decode b_Mod_fault 103 = .ok (.iconst (-1), 1) := by decide +kernel
theorem d_Mod_fault_104 : decode b_Mod_fault 104 = .ok (.goto 4, 3) := by decide +kernel
theorem d_Mod_fault_107 : decode b_Mod_fault 107 = .ok (.iload_n 1, 1) := by decide +kernel
theorem d_Mod_fault_108 : decode b_Mod_fault 108 = .ok (.ireturn, 1) := by decide +kernel
theorem d_Mod_reduce_0 : decode b_Mod_reduce 0 = .ok (.aload_n 0, 1) := by decide +kernel
theorem d_Mod_reduce_1 : decode b_Mod_reduce 1 = .ok (.getfield 171, 3) := by decide +kernel
theorem d_Mod_reduce_4 : decode b_Mod_reduce 4 = .ok (.ifCond .le 125, 3) := by decide +kernel
theorem d_Mod_reduce_7 : decode b_Mod_reduce 7 = .ok (.aload_n 0, 1) := by decide +kernel
theorem d_Mod_reduce_8 : decode b_Mod_reduce 8 = .ok (.getfield 67, 3) := by decide +kernel
theorem d_Mod_reduce_11 : decode b_Mod_reduce 11 = .ok (.aload_n 0, 1) := by decide +kernel
theorem d_Mod_reduce_12 : decode b_Mod_reduce 12 = .ok (.getfield 171, 3) := by decide +kernel
theorem d_Mod_reduce_15 : decode b_Mod_reduce 15 = .ok (.iconst 1, 1) := by decide +kernel
theorem d_Mod_reduce_16 : decode b_Mod_reduce 16 = .ok (.isub, 1) := by decide +kernel
theorem d_Mod_reduce_17 : decode b_Mod_reduce 17 = .ok (.iaload, 1) := by decide +kernel
theorem d_Mod_reduce_18 : decode b_Mod_reduce 18 = .ok (.bipush 38, 2) := by decide +kernel
theorem d_Mod_reduce_20 : decode b_Mod_reduce 20 = .ok (.if_icmp .eq 23, 3) := by decide +kernel
theorem d_Mod_reduce_23 : decode b_Mod_reduce 23 = .ok (.iload_n 1, 1) := by decide +kernel
theorem d_Mod_reduce_24 : decode b_Mod_reduce 24 = .ok (.ifCond .eq 105, 3) := by decide +kernel
theorem d_Mod_reduce_27 : decode b_Mod_reduce 27 = .ok (.aload_n 0, 1) := by decide +kernel
theorem d_Mod_reduce_28 : decode b_Mod_reduce 28 = .ok (.getfield 67, 3) := by decide +kernel
theorem d_Mod_reduce_31 : decode b_Mod_reduce 31 = .ok (.aload_n 0, 1) := by decide +kernel
theorem d_Mod_reduce_32 : decode b_Mod_reduce 32 = .ok (.getfield 171, 3) := by decide +kernel
theorem d_Mod_reduce_35 : decode b_Mod_reduce 35 = .ok (.iconst 1, 1) := by decide +kernel
theorem d_Mod_reduce_36 : decode b_Mod_reduce 36 = .ok (.isub, 1) := by decide +kernel
theorem d_Mod_reduce_37 : decode b_Mod_reduce 37 = .ok (.iaload, 1) := by decide +kernel
theorem d_Mod_reduce_38 : decode b_Mod_reduce 38 = .ok (.bipush 124, 2) := by decide +kernel
theorem d_Mod_reduce_40 : decode b_Mod_reduce 40 = .ok (.if_icmp .ne 89, 3) := by decide +kernel
theorem d_Mod_reduce_43 : decode b_Mod_reduce 43 = .ok (.aload_n 0, 1) := by decide +kernel
theorem d_Mod_reduce_44 : decode b_Mod_reduce 44 = .ok (.dup, 1) := by decide +kernel
theorem d_Mod_reduce_45 : decode b_Mod_reduce 45 = .ok (.getfield 171, 3) := by decide +kernel
theorem d_Mod_reduce_48 : decode b_Mod_reduce 48 = .ok (.iconst 1, 1) := by decide +kernel
theorem d_Mod_reduce_49 : decode b_Mod_reduce 49 = .ok (.isub, 1) := by decide +kernel
theorem d_Mod_reduce_50 : decode b_Mod_reduce 50 = .ok (.putfield 171, 3) := by decide +kernel
theorem d_Mod_reduce_53 : decode b_Mod_reduce 53 = .ok (.aload_n 0, 1) := by decide +kernel
theorem d_Mod_reduce_54 : decode b_Mod_reduce 54 = .ok (.dup, 1) := by decide +kernel
theorem d_Mod_reduce_55 : decode b_Mod_reduce 55 = .ok (.getfield 178, 3) := by decide +kernel
theorem d_Mod_reduce_58 : decode b_Mod_reduce 58 = .ok (.iconst 1, 1) := by decide +kernel
theorem d_Mod_reduce_59 : decode b_Mod_reduce 59 = .ok (.isub, 1) := by decide +kernel
theorem d_Mod_reduce_60 : decode b_Mod_reduce 60 = .ok (.putfield 178, 3) := by decide +kernel
theorem d_Mod_reduce_63 : decode b_Mod_reduce 63 = .ok (.aload_n 0, 1) := by decide +kernel
theorem d_Mod_reduce_64 : decode b_Mod_reduce 64 = .ok (.getfield 67, 3) := by decide +kernel
theorem d_Mod_reduce_67 : decode b_Mod_reduce 67 = .ok (.aload_n 0, 1) := by decide +kernel
theorem d_Mod_reduce_68 : decode b_Mod_reduce 68 = .ok (.getfield 171, 3) := by decide +kernel
theorem d_Mod_reduce_71 : decode b_Mod_reduce 71 = .ok (.iaload, 1) := by decide +kernel
theorem d_Mod_reduce_72 : decode b_Mod_reduce 72 = .ok (.bipush 38, 2) := by decide +kernel
theorem d_Mod_reduce_74 : decode b_Mod_reduce 74 = .ok (.if_icmp .ne 29, 3) := by decide +kernel
theorem d_Mod_reduce_77 : decode b_Mod_reduce 77 = .ok (.aload_n 0, 1) := by decide +kernel
theorem d_Mod_reduce_78 : decode b_Mod_reduce 78 = .ok (.getfield 64, 3) := by decide +kernel
theorem d_Mod_reduce_81 : decode b_Mod_reduce 81 = .ok (.aload_n 0, 1) := by decide +kernel
theorem d_Mod_reduce_82 : decode b_Mod_reduce 82 = .ok (.getfield 178, 3) := by decide +kernel
theorem d_Mod_reduce_85 : decode b_Mod_reduce 85 = .ok (.iconst 1, 1) := by decide +kernel
theorem d_Mod_reduce_86 : decode b_Mod_reduce 86 = .ok (.isub, 1) := by decide +kernel
theorem d_Mod_reduce_87 : decode b_Mod_reduce 87 = .ok (.dup2, 1) := by decide +kernel
theorem d_Mod_reduce_88 : decode b_Mod_reduce 88 = .ok (.iaload, 1) := by decide +kernel
theorem d_Mod_reduce_89 : decode b_Mod_reduce 89 = .ok (.aload_n 0, 1) := by decide +kernel
theorem d_Mod_reduce_90 : decode b_Mod_reduce 90 = .ok (.getfield 64, 3) := by decide +kernel
theorem d_Mod_reduce_93 : decode b_Mod_reduce 93 = .ok (.aload_n 0, 1) := by decide +kernel
theorem d_Mod_reduce_94 : decode b_Mod_reduce 94 = .ok (.getfield 178, 3) := by decide +kernel
theorem d_Mod_reduce_97 : decode b_Mod_reduce 97 = .ok (.iaload, 1) := by decide +kernel
theorem d_Mod_reduce_98 : decode b_Mod_reduce 98 = .ok (.iand, 1) := by decide +kernel
theorem d_Mod_reduce_99 : decode b_Mod_reduce 99 = .ok (.iastore, 1) := by decide +kernel
theorem d_Mod_reduce_100 : decode b_Mod_reduce 100 = .ok (.goto (-100), 3) := by decide +kernel
theorem d_Mod_reduce_103 : decode b_Mod_reduce 103 = .ok (.aload_n 0, 1) := by decide +kernel
theorem d_Mod_reduce_104 : decode b_Mod_reduce 104 = .ok (.getfield 64, 3) := by decide +kernel
theorem d_Mod_reduce_107 : decode b_Mod_reduce 107 = .ok (.aload_n 0, 1) := by decide +kernel
theorem d_Mod_reduce_108 : decode b_Mod_reduce 108 = .ok (.getfield 178, 3) := by decide +kernel
theorem d_Mod_reduce_111 : decode b_Mod_reduce 111 = .ok (.iconst 1, 1) := by decide +kernel
theorem d_Mod_reduce_112 : decode b_Mod_reduce 112 = .ok (.isub, 1) := by decide +kernel
theorem d_Mod_reduce_113 : decode b_Mod_reduce 113 = .ok (.dup2, 1) := by decide +kernel
theorem d_Mod_reduce_114 : decode b_Mod_reduce 114 = .ok (.iaload, 1) := by decide +kernel
theorem d_Mod_reduce_115 : decode b_Mod_reduce 115 = .ok (.aload_n 0, 1) := by decide +kernel
theorem d_Mod_reduce_116 : decode b_Mod_reduce 116 = .ok (.getfield 64, 3) := by decide +kernel
theorem d_Mod_reduce_119 : decode b_Mod_reduce 119 = .ok (.aload_n 0, 1) := by decide +kernel
theorem d_Mod_reduce_120 : decode b_Mod_reduce 120 = .ok (.getfield 178, 3) := by decide +kernel
theorem d_Mod_reduce_123 : decode b_Mod_reduce 123 = .ok (.iaload, 1) := by decide +kernel
theorem d_Mod_reduce_124 : decode b_Mod_reduce 124 = .ok (.ior, 1) := by decide +kernel
theorem d_Mod_reduce_125 : decode b_Mod_reduce 125 = .ok (.iastore, 1) := by decide +kernel
theorem d_Mod_reduce_126 : decode b_Mod_reduce 126 = .ok (.goto (-126), 3) := by decide +kernel
theorem d_Mod_reduce_129 : decode b_Mod_reduce 129 = .ok (.return_, 1) := by decide +kernel
