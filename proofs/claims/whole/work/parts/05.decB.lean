theorem d_Arc_init_0 : decode b_Arc_init 0 = .ok (.aload_n 0, 1) := by decide +kernel
theorem d_Arc_init_1 : decode b_Arc_init 1 = .ok (.invokespecial 1, 3) := by decide +kernel
theorem d_Arc_init_4 : decode b_Arc_init 4 = .ok (.aload_n 0, 1) := by decide +kernel
theorem d_Arc_init_5 : decode b_Arc_init 5 = .ok (.new 7, 3) := by decide +kernel
theorem d_Arc_init_8 : decode b_Arc_init 8 = .ok (.dup, 1) := by decide +kernel
theorem d_Arc_init_9 : decode b_Arc_init 9 = .ok (.invokespecial 9, 3) := by decide +kernel
theorem d_Arc_init_12 : decode b_Arc_init 12 = .ok (.putfield 10, 3) := by decide +kernel
theorem d_Arc_init_15 : decode b_Arc_init 15 = .ok (.aload_n 0, 1) := by decide +kernel
theorem d_Arc_init_16 : decode b_Arc_init 16 = .ok (.new 16, 3) := by decide +kernel
theorem d_Arc_init_19 : decode b_Arc_init 19 = .ok (.dup, 1) := by decide +kernel
theorem d_Arc_init_20 : decode b_Arc_init 20 = .ok (.invokespecial 18, 3) := by decide +kernel
theorem d_Arc_init_23 : decode b_Arc_init 23 = .ok (.putfield 19, 3) := by decide +kernel
theorem d_Arc_init_26 : decode b_Arc_init 26 = .ok (.aload_n 0, 1) := by decide +kernel
theorem d_Arc_init_27 : decode b_Arc_init 27 = .ok (.new 23, 3) := by decide +kernel
theorem d_Arc_init_30 : decode b_Arc_init 30 = .ok (.dup, 1) := by decide +kernel
theorem d_Arc_init_31 : decode b_Arc_init 31 = .ok (.invokespecial 25, 3) := by decide +kernel
theorem d_Arc_init_34 : decode b_Arc_init 34 = .ok (.putfield 26, 3) := by decide +kernel
theorem d_Arc_init_37 : decode b_Arc_init 37 = .ok (.aload_n 0, 1) := by decide +kernel
theorem d_Arc_init_38 : decode b_Arc_init 38 = .ok (.new 30, 3) := by decide +kernel
theorem d_Arc_init_41 : decode b_Arc_init 41 = .ok (.dup, 1) := by decide +kernel
theorem d_Arc_init_42 : decode b_Arc_init 42 = .ok (.invokespecial 32, 3) := by decide +kernel
theorem d_Arc_init_45 : decode b_Arc_init 45 = .ok (.putfield 33, 3) := by decide +kernel
theorem d_Arc_init_48 : decode b_Arc_init 48 = .ok (.aload_n 0, 1) := by decide +kernel
theorem d_Arc_init_49 : decode b_Arc_init 49 = .ok (.new 37, 3) := by decide +kernel
theorem d_Arc_init_52 : decode b_Arc_init 52 = .ok (.dup, 1) := by decide +kernel
theorem d_Arc_init_53 : decode b_Arc_init 53 = .ok (.invokespecial 39, 3) := by decide +kernel
theorem d_Arc_init_56 : decode b_Arc_init 56 = .ok (.putfield 40, 3) := by decide +kernel
theorem d_Arc_init_59 : decode b_Arc_init 59 = .ok (.aload_n 0, 1) := by decide +kernel
theorem d_Arc_init_60 : decode b_Arc_init 60 = .ok (.bipush 12, 2) := by decide +kernel
theorem d_Arc_init_62 : decode b_Arc_init 62 = .ok (.anewarray 44, 3) := by decide +kernel
theorem d_Arc_init_65 : decode b_Arc_init 65 = .ok (.putfield 46, 3) := by decide +kernel
theorem d_Arc_init_68 : decode b_Arc_init 68 = .ok (.iconst 0, 1) := by decide +kernel
theorem d_Arc_init_69 : decode b_Arc_init 69 = .ok (.istore_n 1, 1) := by decide +kernel
theorem d_Arc_init_70 : decode b_Arc_init 70 = .ok (.iload_n 1, 1) := by decide +kernel
theorem d_Arc_init_71 : decode b_Arc_init 71 = .ok (.bipush 12, 2) := by decide +kernel
theorem d_Arc_init_73 : decode b_Arc_init 73 = .ok (.if_icmp .ge 22, 3) := by decide +kernel
theorem d_Arc_init_76 : decode b_Arc_init 76 = .ok (.aload_n 0, 1) := by decide +kernel
theorem d_Arc_init_77 : decode b_Arc_init 77 = .ok (.getfield 46, 3) := by decide +kernel
theorem d_Arc_init_80 : decode b_Arc_init 80 = .ok (.iload_n 1, 1) := by decide +kernel
theorem d_Arc_init_81 : decode b_Arc_init 81 = .ok (.new 44, 3) := by decide +kernel
theorem d_Arc_init_84 : decode b_Arc_init 84 = .ok (.dup, 1) := by decide +kernel
theorem d_Arc_init_85 : decode b_Arc_init 85 = .ok (.invokespecial 50, 3) := by decide +kernel
theorem d_Arc_init_88 : decode b_Arc_init 88 = .ok (.aastore, 1) := by decide +kernel
theorem d_Arc_init_89 : decode b_Arc_init 89 = .ok (.iinc 1 1, 3) := by decide +kernel
theorem d_Arc_init_92 : decode b_Arc_init 92 = .ok (.goto (-22), 3) := by decide +kernel
theorem d_Arc_init_95 : decode b_Arc_init 95 = .ok (.aload_n 0, 1) := by decide +kernel
theorem d_Arc_init_96 : decode b_Arc_init 96 = .ok (.bipush 12, 2) := by decide +kernel
theorem d_Arc_init_98 : decode b_Arc_init 98 = .ok (.newarray .int, 2) := by decide +kernel
theorem d_Arc_init_100 : decode b_Arc_init 100 = .ok (.putfield 51, 3) := by decide +kernel
theorem d_Arc_init_103 : decode b_Arc_init 103 = .ok (.aload_n 0, 1) := by decide +kernel
theorem d_Arc_init_104 : decode b_Arc_init 104 = .ok (.iconst 0, 1) := by decide +kernel
theorem d_Arc_init_105 : decode b_Arc_init 105 = .ok (.putfield 55, 3) := by decide +kernel
theorem d_Arc_init_108 : decode b_Arc_init 108 = .ok (.aload_n 0, 1) := by decide +kernel
theorem d_Arc_init_109 : decode b_Arc_init 109 = .ok (.iconst 0, 1) := by decide +kernel
theorem d_Arc_init_110 : decode b_Arc_init 110 = .ok (.putfield 59, 3) := by decide +kernel
theorem d_Arc_init_113 : decode b_Arc_init 113 = .ok (.aload_n 0, 1) := by decide +kernel
theorem d_Arc_init_114 : decode b_Arc_init 114 = .ok (.iconst (-1), 1) := by decide +kernel
theorem d_Arc_init_115 : decode b_Arc_init 115 = .ok (.putfield 62, 3) := by decide +kernel
theorem d_Arc_init_118 : decode b_Arc_init 118 = .ok (.return_, 1) := by decide +kernel
theorem d_Arc_type_0 : decode b_Arc_type 0 = .ok (.iload_n 1, 1) := by decide +kernel
theorem d_Arc_type_1 : decode b_Arc_type 1 = .ok (.ifCond .lt 10, 3) := by decide +kernel
theorem d_Arc_type_4 : decode b_Arc_type 4 = .ok (.iload_n 1, 1) := by decide +kernel
theorem d_Arc_type_5 : decode b_Arc_type 5 = .ok (.sipush 256, 3) := by decide +kernel
theorem d_Arc_type_8 : decode b_Arc_type 8 = .ok (.if_icmp .lt 5, 3) := by decide +kernel
theorem d_Arc_type_11 : decode b_Arc_type 11 = .ok (.iconst (-1), 1) := by decide +kernel
theorem d_Arc_type_12 : decode b_Arc_type 12 = .ok (.ireturn, 1) := by decide +kernel
theorem d_Arc_type_13 : decode b_Arc_type 13 = .ok (.aload_n 0, 1) := by decide +kernel
theorem d_Arc_type_14 : decode b_Arc_type 14 = .ok (.getfield 10, 3) := by decide +kernel
theorem d_Arc_type_17 : decode b_Arc_type 17 = .ok (.iload_n 1, 1) := by decide +kernel
theorem d_Arc_type_18 : decode b_Arc_type 18 = .ok (.i2c, 1) := by decide +kernel
theorem d_Arc_type_19 : decode b_Arc_type 19 = .ok (.invokevirtual 65, 3) := by decide +kernel
theorem d_Arc_type_22 : decode b_Arc_type 22 = .ok (.ifCond .eq 13, 3) := by decide +kernel
theorem d_Arc_type_25 : decode b_Arc_type 25 = .ok (.aload_n 0, 1) := by decide +kernel
theorem d_Arc_type_26 : decode b_Arc_type 26 = .ok (.getfield 10, 3) := by decide +kernel
theorem d_Arc_type_29 : decode b_Arc_type 29 = .ok (.getfield 69, 3) := by decide +kernel
theorem d_Arc_type_32 : decode b_Arc_type 32 = .ok (.goto 5, 3) := by decide +kernel
theorem d_Arc_type_35 : decode b_Arc_type 35 = .ok (.bipush (-2), 2) := by decide +kernel
theorem d_Arc_type_37 : decode b_Arc_type 37 = .ok (.ireturn, 1) := by decide +kernel
theorem d_Arc_enter_0 : decode b_Arc_enter 0 = .ok (.aload_n 0, 1) := by decide +kernel
theorem d_Arc_enter_1 : decode b_Arc_enter 1 = .ok (.getfield 19, 3) := by decide +kernel
theorem d_Arc_enter_4 : decode b_Arc_enter 4 = .ok (.aload_n 0, 1) := by decide +kernel
theorem d_Arc_enter_5 : decode b_Arc_enter 5 = .ok (.getfield 10, 3) := by decide +kernel
theorem d_Arc_enter_8 : decode b_Arc_enter 8 = .ok (.invokevirtual 72, 3) := by decide +kernel
theorem d_Arc_enter_11 : decode b_Arc_enter 11 = .ok (.ifCond .ne 6, 3) := by decide +kernel
theorem d_Arc_enter_14 : decode b_Arc_enter 14 = .ok (.bipush (-2), 2) := by decide +kernel
theorem d_Arc_enter_16 : decode b_Arc_enter 16 = .ok (.ireturn, 1) := by decide +kernel
theorem d_Arc_enter_17 : decode b_Arc_enter 17 = .ok (.aload_n 0, 1) := by decide +kernel
theorem d_Arc_enter_18 : decode b_Arc_enter 18 = .ok (.getfield 10, 3) := by decide +kernel
theorem d_Arc_enter_21 : decode b_Arc_enter 21 = .ok (.invokevirtual 76, 3) := by decide +kernel
theorem d_Arc_enter_24 : decode b_Arc_enter 24 = .ok (.aload_n 0, 1) := by decide +kernel
theorem d_Arc_enter_25 : decode b_Arc_enter 25 = .ok (.getfield 19, 3) := by decide +kernel
theorem d_Arc_enter_28 : decode b_Arc_enter 28 = .ok (.getfield 79, 3) := by decide +kernel
theorem d_Arc_enter_31 : decode b_Arc_enter 31 = .ok (.ireturn, 1) := by decide +kernel
theorem d_Arc_wipe_0 : decode b_Arc_wipe 0 = .ok (.aload_n 0, 1) := by decide +kernel
theorem d_Arc_wipe_1 : decode b_Arc_wipe 1 = .ok (.getfield 19, 3) := by decide +kernel
theorem d_Arc_wipe_4 : decode b_Arc_wipe 4 = .ok (.getfield 79, 3) := by decide +kernel
theorem d_Arc_wipe_7 : decode b_Arc_wipe 7 = .ok (.istore_n 1, 1) := by decide +kernel
theorem d_Arc_wipe_8 : decode b_Arc_wipe 8 = .ok (.aload_n 0, 1) := by decide +kernel
theorem d_Arc_wipe_9 : decode b_Arc_wipe 9 = .ok (.getfield 10, 3) := by decide +kernel
theorem d_Arc_wipe_12 : decode b_Arc_wipe 12 = .ok (.invokevirtual 76, 3) := by decide +kernel
theorem d_Arc_wipe_15 : decode b_Arc_wipe 15 = .ok (.aload_n 0, 1) := by decide +kernel
theorem d_Arc_wipe_16 : decode b_Arc_wipe 16 = .ok (.getfield 19, 3) := by decide +kernel
theorem d_Arc_wipe_19 : decode b_Arc_wipe 19 = .ok (.invokevirtual 82, 3) := by decide +kernel
theorem d_Arc_wipe_22 : decode b_Arc_wipe 22 = .ok (.iload_n 1, 1) := by decide +kernel
theorem d_Arc_wipe_23 : decode b_Arc_wipe 23 = .ok (.ireturn, 1) := by decide +kernel
theorem d_Arc_numberWithId_0 : decode b_Arc_numberWithId 0 = .ok (.iconst 0, 1) := by decide +kernel
theorem d_Arc_numberWithId_1 : decode b_Arc_numberWithId 1 = .ok (.istore_n 2, 1) := by decide +kernel
theorem d_Arc_numberWithId_2 : decode b_Arc_numberWithId 2 = .ok (.iload_n 2, 1) := by decide +kernel
theorem d_Arc_numberWithId_3 : decode b_Arc_numberWithId 3 = .ok (.bipush 12, 2) := by decide +kernel
theorem d_Arc_numberWithId_5 : decode b_Arc_numberWithId 5 = .ok (.if_icmp .ge 36, 3) := by decide +kernel
theorem d_Arc_numberWithId_8 : decode b_Arc_numberWithId 8 = .ok (.aload_n 0, 1) := by decide +kernel
theorem d_Arc_numberWithId_9 : decode b_Arc_numberWithId 9 = .ok (.getfield 46, 3) := by decide +kernel
theorem d_Arc_numberWithId_12 : decode b_Arc_numberWithId 12 = .ok (.iload_n 2, 1) := by decide +kernel
theorem d_Arc_numberWithId_13 : decode b_Arc_numberWithId 13 = .ok (.aaload, 1) := by decide +kernel
theorem d_Arc_numberWithId_14 : decode b_Arc_numberWithId 14 = .ok (.getfield 98, 3) := by decide +kernel
theorem d_Arc_numberWithId_17 : decode b_Arc_numberWithId 17 = .ok (.ifCond .eq 18, 3) := by decide +kernel
theorem d_Arc_numberWithId_20 : decode b_Arc_numberWithId 20 = .ok (.aload_n 0, 1) := by decide +kernel
theorem d_Arc_numberWithId_21 : decode b_Arc_numberWithId 21 = .ok (.getfield 46, 3) := by decide +kernel
theorem d_Arc_numberWithId_24 : decode b_Arc_numberWithId 24 = .ok (.iload_n 2, 1) := by decide +kernel
theorem d_Arc_numberWithId_25 : decode b_Arc_numberWithId 25 = .ok (.aaload, 1) := by decide +kernel
theorem d_Arc_numberWithId_26 : decode b_Arc_numberWithId 26 = .ok (.getfield 138, 3) := by decide +kernel
theorem d_Arc_numberWithId_29 : decode b_Arc_numberWithId 29 = .ok (.iload_n 1, 1) := by decide +kernel
theorem d_Arc_numberWithId_30 : decode b_Arc_numberWithId 30 = .ok (.if_icmp .ne 5, 3) := by decide +kernel
theorem d_Arc_numberWithId_33 : decode b_Arc_numberWithId 33 = .ok (.iload_n 2, 1) := by decide +kernel
theorem d_Arc_numberWithId_34 : decode b_Arc_numberWithId 34 = .ok (.ireturn, 1) := by decide +kernel
theorem d_Arc_numberWithId_35 : decode b_Arc_numberWithId 35 = .ok (.iinc 2 1, 3) := by decide +kernel
theorem d_Arc_numberWithId_38 : decode b_Arc_numberWithId 38 = .ok (.goto (-36), 3) := by decide +kernel
theorem d_Arc_numberWithId_41 : decode b_Arc_numberWithId 41 = .ok (.iconst (-1), 1) := by decide +kernel
theorem d_Arc_numberWithId_42 : decode b_Arc_numberWithId 42 = .ok (.ireturn, 1) := by decide +kernel
theorem d_Arc_digit_0 : decode b_Arc_digit 0 = .ok (.iload_n 0, 1) := by decide +kernel
theorem d_Arc_digit_1 : decode b_Arc_digit 1 = .ok (.bipush 48, 2) := by decide +kernel
theorem d_Arc_digit_3 : decode b_Arc_digit 3 = .ok (.if_icmp .lt 16, 3) := by decide +kernel
theorem d_Arc_digit_6 : decode b_Arc_digit 6 = .ok (.iload_n 0, 1) := by decide +kernel
theorem d_Arc_digit_7 : decode b_Arc_digit 7 = .ok (.bipush 57, 2) := by decide +kernel
theorem d_Arc_digit_9 : decode b_Arc_digit 9 = .ok (.if_icmp .gt 10, 3) := by decide +kernel
theorem d_Arc_digit_12 : decode b_Arc_digit 12 = .ok (.iload_n 0, 1) := by decide +kernel
theorem d_Arc_digit_13 : decode b_Arc_digit 13 = .ok (.bipush 48, 2) := by decide +kernel
theorem d_Arc_digit_15 : decode b_Arc_digit 15 = .ok (.isub, 1) := by decide +kernel
theorem d_Arc_digit_16 : decode b_Arc_digit 16 = .ok (.goto 4, 3) := by decide +kernel
theorem d_Arc_digit_19 : decode b_Arc_digit 19 = .ok (.iconst (-1), 1) := by decide +kernel
theorem d_Arc_digit_20 : decode b_Arc_digit 20 = .ok (.ireturn, 1) := by decide +kernel
theorem d_Arc_numberForDraft_0 : decode b_Arc_numberForDraft 0 = .ok (.aload_n 0, 1) := by decide +kernel
theorem d_Arc_numberForDraft_1 : decode b_Arc_numberForDraft 1 = .ok (.getfield 19, 3) := by decide +kernel
theorem d_Arc_numberForDraft_4 : decode b_Arc_numberForDraft 4 = .ok (.invokevirtual 174, 3) := by decide +kernel
theorem d_Arc_numberForDraft_7 : decode b_Arc_numberForDraft 7 = .ok (.istore_n 1, 1) := by decide +kernel
theorem d_Arc_numberForDraft_8 : decode b_Arc_numberForDraft 8 = .ok (.iload_n 1, 1) := by decide +kernel
theorem d_Arc_numberForDraft_9 : decode b_Arc_numberForDraft 9 = .ok (.ifCond .ge 6, 3) := by decide +kernel
theorem d_Arc_numberForDraft_12 : decode b_Arc_numberForDraft 12 = .ok (.bipush (-3), 2) := by decide +kernel
theorem d_Arc_numberForDraft_14 : decode b_Arc_numberForDraft 14 = .ok (.ireturn, 1) := by decide +kernel
theorem d_Arc_numberForDraft_15 : decode b_Arc_numberForDraft 15 = .ok (.aload_n 0, 1) := by decide +kernel
theorem d_Arc_numberForDraft_16 : decode b_Arc_numberForDraft 16 = .ok (.iload_n 1, 1) := by decide +kernel
theorem d_Arc_numberForDraft_17 : decode b_Arc_numberForDraft 17 = .ok (.invokevirtual 144, 3) := by decide +kernel
theorem d_Arc_numberForDraft_20 : decode b_Arc_numberForDraft 20 = .ok (.ifCond .lt 5, 3) := by decide +kernel
theorem d_Arc_numberForDraft_23 : decode b_Arc_numberForDraft 23 = .ok (.iconst (-1), 1) := by decide +kernel
theorem d_Arc_numberForDraft_24 : decode b_Arc_numberForDraft 24 = .ok (.ireturn, 1) := by decide +kernel
theorem d_Arc_numberForDraft_25 : decode b_Arc_numberForDraft 25 = .ok (.iconst 0, 1) := by decide +kernel
theorem d_Arc_numberForDraft_26 : decode b_Arc_numberForDraft 26 = .ok (.istore_n 2, 1) := by decide +kernel
theorem d_Arc_numberForDraft_27 : decode b_Arc_numberForDraft 27 = .ok (.iload_n 2, 1) := by decide +kernel
theorem d_Arc_numberForDraft_28 : decode b_Arc_numberForDraft 28 = .ok (.bipush 12, 2) := by decide +kernel
theorem d_Arc_numberForDraft_30 : decode b_Arc_numberForDraft 30 = .ok (.if_icmp .ge 23, 3) := by decide +kernel
theorem d_Arc_numberForDraft_33 : decode b_Arc_numberForDraft 33 = .ok (.aload_n 0, 1) := by decide +kernel
theorem d_Arc_numberForDraft_34 : decode b_Arc_numberForDraft 34 = .ok (.getfield 46, 3) := by decide +kernel
theorem d_Arc_numberForDraft_37 : decode b_Arc_numberForDraft 37 = .ok (.iload_n 2, 1) := by decide +kernel
theorem d_Arc_numberForDraft_38 : decode b_Arc_numberForDraft 38 = .ok (.aaload, 1) := by decide +kernel
theorem d_Arc_numberForDraft_39 : decode b_Arc_numberForDraft 39 = .ok (.getfield 98, 3) := by decide +kernel
theorem d_Arc_numberForDraft_42 : decode b_Arc_numberForDraft 42 = .ok (.ifCond .ne 5, 3) := by decide +kernel
theorem d_Arc_numberForDraft_45 : decode b_Arc_numberForDraft 45 = .ok (.iload_n 2, 1) := by decide +kernel
theorem d_Arc_numberForDraft_46 : decode b_Arc_numberForDraft 46 = .ok (.ireturn, 1) := by decide +kernel
theorem d_Arc_numberForDraft_47 : decode b_Arc_numberForDraft 47 = .ok (.iinc 2 1, 3) := by decide +kernel
theorem d_Arc_numberForDraft_50 : decode b_Arc_numberForDraft 50 = .ok (.goto (-23), 3) := by decide +kernel
theorem d_Arc_numberForDraft_53 : decode b_Arc_numberForDraft 53 = .ok (.bipush (-2), 2) := by decide +kernel
theorem d_Arc_numberForDraft_55 : decode b_Arc_numberForDraft 55 = .ok (.ireturn, 1) := by decide +kernel
theorem d_Arc_rejoinThreads_0 : decode b_Arc_rejoinThreads 0 = .ok (.aload_n 0, 1) := by decide +kernel
theorem d_Arc_rejoinThreads_1 : decode b_Arc_rejoinThreads 1 = .ok (.getfield 33, 3) := by decide +kernel
theorem d_Arc_rejoinThreads_4 : decode b_Arc_rejoinThreads 4 = .ok (.invokevirtual 176, 3) := by decide +kernel
theorem d_Arc_rejoinThreads_7 : decode b_Arc_rejoinThreads 7 = .ok (.iconst 0, 1) := by decide +kernel
theorem d_Arc_rejoinThreads_8 : decode b_Arc_rejoinThreads 8 = .ok (.istore_n 1, 1) := by decide +kernel
theorem d_Arc_rejoinThreads_9 : decode b_Arc_rejoinThreads 9 = .ok (.iload_n 1, 1) := by decide +kernel
theorem d_Arc_rejoinThreads_10 : decode b_Arc_rejoinThreads 10 = .ok (.aload_n 0, 1) := by decide +kernel
theorem d_Arc_rejoinThreads_11 : decode b_Arc_rejoinThreads 11 = .ok (.getfield 55, 3) := by decide +kernel
theorem d_Arc_rejoinThreads_14 : decode b_Arc_rejoinThreads 14 = .ok (.if_icmp .ge 27, 3) := by decide +kernel
theorem d_Arc_rejoinThreads_17 : decode b_Arc_rejoinThreads 17 = .ok (.aload_n 0, 1) := by decide +kernel
theorem d_Arc_rejoinThreads_18 : decode b_Arc_rejoinThreads 18 = .ok (.getfield 33, 3) := by decide +kernel
theorem d_Arc_rejoinThreads_21 : decode b_Arc_rejoinThreads 21 = .ok (.aload_n 0, 1) := by decide +kernel
theorem d_Arc_rejoinThreads_22 : decode b_Arc_rejoinThreads 22 = .ok (.getfield 46, 3) := by decide +kernel
theorem d_Arc_rejoinThreads_25 : decode b_Arc_rejoinThreads 25 = .ok (.aload_n 0, 1) := by decide +kernel
theorem d_Arc_rejoinThreads_26 : decode b_Arc_rejoinThreads 26 = .ok (.getfield 51, 3) := by decide +kernel
theorem d_Arc_rejoinThreads_29 : decode b_Arc_rejoinThreads 29 = .ok (.iload_n 1, 1) := by decide +kernel
theorem d_Arc_rejoinThreads_30 : decode b_Arc_rejoinThreads 30 = .ok (.iaload, 1) := by decide +kernel
theorem d_Arc_rejoinThreads_31 : decode b_Arc_rejoinThreads 31 = .ok (.aaload, 1) := by decide +kernel
theorem d_Arc_rejoinThreads_32 : decode b_Arc_rejoinThreads 32 = .ok (.invokevirtual 177, 3) := by decide +kernel
theorem d_Arc_rejoinThreads_35 : decode b_Arc_rejoinThreads 35 = .ok (.iinc 1 1, 3) := by decide +kernel
theorem d_Arc_rejoinThreads_38 : decode b_Arc_rejoinThreads 38 = .ok (.goto (-29), 3) := by decide +kernel
theorem d_Arc_rejoinThreads_41 : decode b_Arc_rejoinThreads 41 = .ok (.return_, 1) := by decide +kernel
theorem d_Arc_smallLetter_0 : decode b_Arc_smallLetter 0 = .ok (.iload_n 0, 1) := by decide +kernel
theorem d_Arc_smallLetter_1 : decode b_Arc_smallLetter 1 = .ok (.bipush 97, 2) := by decide +kernel
theorem d_Arc_smallLetter_3 : decode b_Arc_smallLetter 3 = .ok (.if_icmp .lt 18, 3) := by decide +kernel
theorem d_Arc_smallLetter_6 : decode b_Arc_smallLetter 6 = .ok (.iload_n 0, 1) := by decide +kernel
theorem d_Arc_smallLetter_7 : decode b_Arc_smallLetter 7 = .ok (.bipush 122, 2) := by decide +kernel
theorem d_Arc_smallLetter_9 : decode b_Arc_smallLetter 9 = .ok (.if_icmp .gt 12, 3) := by decide +kernel
theorem d_Arc_smallLetter_12 : decode b_Arc_smallLetter 12 = .ok (.iload_n 0, 1) := by decide +kernel
theorem d_Arc_smallLetter_13 : decode b_Arc_smallLetter 13 = .ok (.bipush 97, 2) := by decide +kernel
theorem d_Arc_smallLetter_15 : decode b_Arc_smallLetter 15 = .ok (.isub, 1) := by decide +kernel
theorem d_Arc_smallLetter_16 : decode b_Arc_smallLetter 16 = .ok (.iconst 1, 1) := by decide +kernel
theorem d_Arc_smallLetter_17 : decode b_Arc_smallLetter 17 = .ok (.iadd, 1) := by decide +kernel
theorem d_Arc_smallLetter_18 : decode b_Arc_smallLetter 18 = .ok (.goto 4, 3) := by decide +kernel
theorem d_Arc_smallLetter_21 : decode b_Arc_smallLetter 21 = .ok (.iconst 0, 1) := by decide +kernel
theorem d_Arc_smallLetter_22 : decode b_Arc_smallLetter 22 = .ok (.ireturn, 1) := by decide +kernel
theorem d_Arc_letter_0 : decode b_Arc_letter 0 = .ok (.iload_n 0, 1) := by decide +kernel
theorem d_Arc_letter_1 : decode b_Arc_letter 1 = .ok (.bipush 65, 2) := by decide +kernel
theorem d_Arc_letter_3 : decode b_Arc_letter 3 = .ok (.if_icmp .lt 18, 3) := by decide +kernel
theorem d_Arc_letter_6 : decode b_Arc_letter 6 = .ok (.iload_n 0, 1) := by decide +kernel
theorem d_Arc_letter_7 : decode b_Arc_letter 7 = .ok (.bipush 90, 2) := by decide +kernel
theorem d_Arc_letter_9 : decode b_Arc_letter 9 = .ok (.if_icmp .gt 12, 3) := by decide +kernel
theorem d_Arc_letter_12 : decode b_Arc_letter 12 = .ok (.iload_n 0, 1) := by decide +kernel
theorem d_Arc_letter_13 : decode b_Arc_letter 13 = .ok (.bipush 65, 2) := by decide +kernel
theorem d_Arc_letter_15 : decode b_Arc_letter 15 = .ok (.isub, 1) := by decide +kernel
theorem d_Arc_letter_16 : decode b_Arc_letter 16 = .ok (.iconst 1, 1) := by decide +kernel
theorem d_Arc_letter_17 : decode b_Arc_letter 17 = .ok (.iadd, 1) := by decide +kernel
theorem d_Arc_letter_18 : decode b_Arc_letter 18 = .ok (.goto 7, 3) := by decide +kernel
theorem d_Arc_letter_21 : decode b_Arc_letter 21 = .ok (.iload_n 0, 1) := by decide +kernel
theorem d_Arc_letter_22 : decode b_Arc_letter 22 = .ok (.invokestatic 194, 3) := by decide +kernel
theorem d_Arc_letter_25 : decode b_Arc_letter 25 = .ok (.ireturn, 1) := by decide +kernel
theorem d_Arc_hexDigit_0 : decode b_Arc_hexDigit 0 = .ok (.iload_n 0, 1) := by decide +kernel
theorem d_Arc_hexDigit_1 : decode b_Arc_hexDigit 1 = .ok (.bipush 97, 2) := by decide +kernel
theorem d_Arc_hexDigit_3 : decode b_Arc_hexDigit 3 = .ok (.if_icmp .lt 17, 3) := by decide +kernel
theorem d_Arc_hexDigit_6 : decode b_Arc_hexDigit 6 = .ok (.iload_n 0, 1) := by decide +kernel
theorem d_Arc_hexDigit_7 : decode b_Arc_hexDigit 7 = .ok (.bipush 102, 2) := by decide +kernel
theorem d_Arc_hexDigit_9 : decode b_Arc_hexDigit 9 = .ok (.if_icmp .gt 11, 3) := by decide +kernel
theorem d_Arc_hexDigit_12 : decode b_Arc_hexDigit 12 = .ok (.iload_n 0, 1) := by decide +kernel
theorem d_Arc_hexDigit_13 : decode b_Arc_hexDigit 13 = .ok (.bipush 97, 2) := by decide +kernel
theorem d_Arc_hexDigit_15 : decode b_Arc_hexDigit 15 = .ok (.isub, 1) := by decide +kernel
theorem d_Arc_hexDigit_16 : decode b_Arc_hexDigit 16 = .ok (.bipush 10, 2) := by decide +kernel
theorem d_Arc_hexDigit_18 : decode b_Arc_hexDigit 18 = .ok (.iadd, 1) := by decide +kernel
theorem d_Arc_hexDigit_19 : decode b_Arc_hexDigit 19 = .ok (.ireturn, 1) := by decide +kernel
theorem d_Arc_hexDigit_20 : decode b_Arc_hexDigit 20 = .ok (.iload_n 0, 1) := by decide +kernel
theorem d_Arc_hexDigit_21 : decode b_Arc_hexDigit 21 = .ok (.bipush 65, 2) := by decide +kernel
theorem d_Arc_hexDigit_23 : decode b_Arc_hexDigit 23 = .ok (.if_icmp .lt 17, 3) := by decide +kernel
theorem d_Arc_hexDigit_26 : decode b_Arc_hexDigit 26 = .ok (.iload_n 0, 1) := by decide +kernel
theorem d_Arc_hexDigit_27 : decode b_Arc_hexDigit 27 = .ok (.bipush 70, 2) := by decide +kernel
theorem d_Arc_hexDigit_29 : decode b_Arc_hexDigit 29 = .ok (.if_icmp .gt 11, 3) := by decide +kernel
theorem d_Arc_hexDigit_32 : decode b_Arc_hexDigit 32 = .ok (.iload_n 0, 1) := by decide +kernel
theorem d_Arc_hexDigit_33 : decode b_Arc_hexDigit 33 = .ok (.bipush 65, 2) := by decide +kernel
theorem d_Arc_hexDigit_35 : decode b_Arc_hexDigit 35 = .ok (.isub, 1) := by decide +kernel
theorem d_Arc_hexDigit_36 : decode b_Arc_hexDigit 36 = .ok (.bipush 10, 2) := by decide +kernel
theorem d_Arc_hexDigit_38 : decode b_Arc_hexDigit 38 = .ok (.iadd, 1) := by decide +kernel
theorem d_Arc_hexDigit_39 : decode b_Arc_hexDigit 39 = .ok (.ireturn, 1) := by decide +kernel
theorem d_Arc_hexDigit_40 : decode b_Arc_hexDigit 40 = .ok (.iload_n 0, 1) := by decide +kernel
theorem d_Arc_hexDigit_41 : decode b_Arc_hexDigit 41 = .ok (.invokestatic 197, 3) := by decide +kernel
theorem d_Arc_hexDigit_44 : decode b_Arc_hexDigit 44 = .ok (.ireturn, 1) := by decide +kernel
theorem d_Arc_add_0 : decode b_Arc_add 0 = .ok (.aload_n 0, 1) := by decide +kernel
theorem d_Arc_add_1 : decode b_Arc_add 1 = .ok (.invokevirtual 83, 3) := by decide +kernel
theorem d_Arc_add_4 : decode b_Arc_add 4 = .ok (.istore_n 1, 1) := by decide +kernel
theorem d_Arc_add_5 : decode b_Arc_add 5 = .ok (.iload_n 1, 1) := by decide +kernel
theorem d_Arc_add_6 : decode b_Arc_add 6 = .ok (.ifCond .lt 44, 3) := by decide +kernel
theorem d_Arc_add_9 : decode b_Arc_add 9 = .ok (.aload_n 0, 1) := by decide +kernel
theorem d_Arc_add_10 : decode b_Arc_add 10 = .ok (.getfield 26, 3) := by decide +kernel
theorem d_Arc_add_13 : decode b_Arc_add 13 = .ok (.aload_n 0, 1) := by decide +kernel
theorem d_Arc_add_14 : decode b_Arc_add 14 = .ok (.getfield 19, 3) := by decide +kernel
theorem d_Arc_add_17 : decode b_Arc_add 17 = .ok (.aload_n 0, 1) := by decide +kernel
theorem d_Arc_add_18 : decode b_Arc_add 18 = .ok (.getfield 46, 3) := by decide +kernel
theorem d_Arc_add_21 : decode b_Arc_add 21 = .ok (.iload_n 1, 1) := by decide +kernel
theorem d_Arc_add_22 : decode b_Arc_add 22 = .ok (.aaload, 1) := by decide +kernel
theorem d_Arc_add_23 : decode b_Arc_add 23 = .ok (.invokevirtual 87, 3) := by decide +kernel
theorem d_Arc_add_26 : decode b_Arc_add 26 = .ok (.aload_n 0, 1) := by decide +kernel
theorem d_Arc_add_27 : decode b_Arc_add 27 = .ok (.getfield 51, 3) := by decide +kernel
theorem d_Arc_add_30 : decode b_Arc_add 30 = .ok (.aload_n 0, 1) := by decide +kernel
theorem d_Arc_add_31 : decode b_Arc_add 31 = .ok (.getfield 55, 3) := by decide +kernel
theorem d_Arc_add_34 : decode b_Arc_add 34 = .ok (.iload_n 1, 1) := by decide +kernel
theorem d_Arc_add_35 : decode b_Arc_add 35 = .ok (.iastore, 1) := by decide +kernel
theorem d_Arc_add_36 : decode b_Arc_add 36 = .ok (.aload_n 0, 1) := by decide +kernel
theorem d_Arc_add_37 : decode b_Arc_add 37 = .ok (.dup, 1) := by decide +kernel
theorem d_Arc_add_38 : decode b_Arc_add 38 = .ok (.getfield 55, 3) := by decide +kernel
theorem d_Arc_add_41 : decode b_Arc_add 41 = .ok (.iconst 1, 1) := by decide +kernel
theorem d_Arc_add_42 : decode b_Arc_add 42 = .ok (.iadd, 1) := by decide +kernel
theorem d_Arc_add_43 : decode b_Arc_add 43 = .ok (.putfield 55, 3) := by decide +kernel
theorem d_Arc_add_46 : decode b_Arc_add 46 = .ok (.aload_n 0, 1) := by decide +kernel
theorem d_Arc_add_47 : decode b_Arc_add 47 = .ok (.invokevirtual 91, 3) := by decide +kernel
theorem d_Arc_add_50 : decode b_Arc_add 50 = .ok (.aload_n 0, 1) := by decide +kernel
theorem d_Arc_add_51 : decode b_Arc_add 51 = .ok (.getfield 19, 3) := by decide +kernel
theorem d_Arc_add_54 : decode b_Arc_add 54 = .ok (.invokevirtual 82, 3) := by decide +kernel
theorem d_Arc_add_57 : decode b_Arc_add 57 = .ok (.iload_n 1, 1) := by decide +kernel
theorem d_Arc_add_58 : decode b_Arc_add 58 = .ok (.ireturn, 1) := by decide +kernel
theorem d_Arc_messageAt_0 : decode b_Arc_messageAt 0 = .ok (.iload_n 1, 1) := by decide +kernel
theorem d_Arc_messageAt_1 : decode b_Arc_messageAt 1 = .ok (.ifCond .lt 21, 3) := by decide +kernel
theorem d_Arc_messageAt_4 : decode b_Arc_messageAt 4 = .ok (.iload_n 1, 1) := by decide +kernel
theorem d_Arc_messageAt_5 : decode b_Arc_messageAt 5 = .ok (.bipush 12, 2) := by decide +kernel
theorem d_Arc_messageAt_7 : decode b_Arc_messageAt 7 = .ok (.if_icmp .ge 15, 3) := by decide +kernel
theorem d_Arc_messageAt_10 : decode b_Arc_messageAt 10 = .ok (.aload_n 0, 1) := by decide +kernel
theorem d_Arc_messageAt_11 : decode b_Arc_messageAt 11 = .ok (.getfield 46, 3) := by decide +kernel
theorem d_Arc_messageAt_14 : decode b_Arc_messageAt 14 = .ok (.iload_n 1, 1) := by decide +kernel
theorem d_Arc_messageAt_15 : decode b_Arc_messageAt 15 = .ok (.aaload, 1) := by decide +kernel
theorem d_Arc_messageAt_16 : decode b_Arc_messageAt 16 = .ok (.getfield 98, 3) := by decide +kernel
theorem d_Arc_messageAt_19 : decode b_Arc_messageAt 19 = .ok (.ifCond .ne 5, 3) := by decide +kernel
theorem d_Arc_messageAt_22 : decode b_Arc_messageAt 22 = .ok (.aconst_null, 1) := by decide +kernel
theorem d_Arc_messageAt_23 : decode b_Arc_messageAt 23 = .ok (.areturn, 1) := by decide +kernel
theorem d_Arc_messageAt_24 : decode b_Arc_messageAt 24 = .ok (.aload_n 0, 1) := by decide +kernel
theorem d_Arc_messageAt_25 : decode b_Arc_messageAt 25 = .ok (.getfield 46, 3) := by decide +kernel
theorem d_Arc_messageAt_28 : decode b_Arc_messageAt 28 = .ok (.iload_n 1, 1) := by decide +kernel
theorem d_Arc_messageAt_29 : decode b_Arc_messageAt 29 = .ok (.aaload, 1) := by decide +kernel
theorem d_Arc_messageAt_30 : decode b_Arc_messageAt 30 = .ok (.areturn, 1) := by decide +kernel
theorem d_Arc_removeFromOrder_0 : decode b_Arc_removeFromOrder 0 = .ok (.iconst 0, 1) := by decide +kernel
theorem d_Arc_removeFromOrder_1 : decode b_Arc_removeFromOrder 1 = .ok (.istore_n 2, 1) := by decide +kernel
theorem d_Arc_removeFromOrder_2 : decode b_Arc_removeFromOrder 2 = .ok (.iconst 0, 1) := by decide +kernel
theorem d_Arc_removeFromOrder_3 : decode b_Arc_removeFromOrder 3 = .ok (.istore_n 3, 1) := by decide +kernel
theorem d_Arc_removeFromOrder_4 : decode b_Arc_removeFromOrder 4 = .ok (.iload_n 3, 1) := by decide +kernel
theorem d_Arc_removeFromOrder_5 : decode b_Arc_removeFromOrder 5 = .ok (.aload_n 0, 1) := by decide +kernel
theorem d_Arc_removeFromOrder_6 : decode b_Arc_removeFromOrder 6 = .ok (.getfield 55, 3) := by decide +kernel
theorem d_Arc_removeFromOrder_9 : decode b_Arc_removeFromOrder 9 = .ok (.if_icmp .ge 34, 3) := by decide +kernel
theorem d_Arc_removeFromOrder_12 : decode b_Arc_removeFromOrder 12 = .ok (.aload_n 0, 1) := by decide +kernel
theorem d_Arc_removeFromOrder_13 : decode b_Arc_removeFromOrder 13 = .ok (.getfield 51, 3) := by decide +kernel
theorem d_Arc_removeFromOrder_16 : decode b_Arc_removeFromOrder 16 = .ok (.iload_n 3, 1) := by decide +kernel
theorem d_Arc_removeFromOrder_17 : decode b_Arc_removeFromOrder 17 = .ok (.iaload, 1) := by decide +kernel
theorem d_Arc_removeFromOrder_18 : decode b_Arc_removeFromOrder 18 = .ok (.iload_n 1, 1) := by decide +kernel
theorem d_Arc_removeFromOrder_19 : decode b_Arc_removeFromOrder 19 = .ok (.if_icmp .eq 18, 3) := by decide +kernel
theorem d_Arc_removeFromOrder_22 : decode b_Arc_removeFromOrder 22 = .ok (.aload_n 0, 1) := by decide +kernel
theorem d_Arc_removeFromOrder_23 : decode b_Arc_removeFromOrder 23 = .ok (.getfield 51, 3) := by decide +kernel
theorem d_Arc_removeFromOrder_26 : decode b_Arc_removeFromOrder 26 = .ok (.iload_n 2, 1) := by decide +kernel
theorem d_Arc_removeFromOrder_27 : decode b_Arc_removeFromOrder 27 = .ok (.aload_n 0, 1) := by decide +kernel
theorem d_Arc_removeFromOrder_28 : decode b_Arc_removeFromOrder 28 = .ok (.getfield 51, 3) := by decide +kernel
theorem d_Arc_removeFromOrder_31 : decode b_Arc_removeFromOrder 31 = .ok (.iload_n 3, 1) := by decide +kernel
theorem d_Arc_removeFromOrder_32 : decode b_Arc_removeFromOrder 32 = .ok (.iaload, 1) := by decide +kernel
theorem d_Arc_removeFromOrder_33 : decode b_Arc_removeFromOrder 33 = .ok (.iastore, 1) := by decide +kernel
theorem d_Arc_removeFromOrder_34 : decode b_Arc_removeFromOrder 34 = .ok (.iinc 2 1, 3) := by decide +kernel
theorem d_Arc_removeFromOrder_37 : decode b_Arc_removeFromOrder 37 = .ok (.iinc 3 1, 3) := by decide +kernel
theorem d_Arc_removeFromOrder_40 : decode b_Arc_removeFromOrder 40 = .ok (.goto (-36), 3) := by decide +kernel
theorem d_Arc_removeFromOrder_43 : decode b_Arc_removeFromOrder 43 = .ok (.aload_n 0, 1) := by decide +kernel
theorem d_Arc_removeFromOrder_44 : decode b_Arc_removeFromOrder 44 = .ok (.iload_n 2, 1) := by decide +kernel
theorem d_Arc_removeFromOrder_45 : decode b_Arc_removeFromOrder 45 = .ok (.putfield 55, 3) := by decide +kernel
theorem d_Arc_removeFromOrder_48 : decode b_Arc_removeFromOrder 48 = .ok (.return_, 1) := by decide +kernel
theorem d_Arc_drop_0 : decode b_Arc_drop 0 = .ok (.aload_n 0, 1) := by decide +kernel
theorem d_Arc_drop_1 : decode b_Arc_drop 1 = .ok (.iload_n 1, 1) := by decide +kernel
theorem d_Arc_drop_2 : decode b_Arc_drop 2 = .ok (.invokevirtual 94, 3) := by decide +kernel
theorem d_Arc_drop_5 : decode b_Arc_drop 5 = .ok (.astore_n 2, 1) := by decide +kernel
theorem d_Arc_drop_6 : decode b_Arc_drop 6 = .ok (.aload_n 2, 1) := by decide +kernel
theorem d_Arc_drop_7 : decode b_Arc_drop 7 = .ok (.ifnonnull 5, 3) := by decide +kernel
theorem d_Arc_drop_10 : decode b_Arc_drop 10 = .ok (.iconst (-1), 1) := by decide +kernel
theorem d_Arc_drop_11 : decode b_Arc_drop 11 = .ok (.ireturn, 1) := by decide +kernel
theorem d_Arc_drop_12 : decode b_Arc_drop 12 = .ok (.aload_n 2, 1) := by decide +kernel
theorem d_Arc_drop_13 : decode b_Arc_drop 13 = .ok (.iconst 0, 1) := by decide +kernel
theorem d_Arc_drop_14 : decode b_Arc_drop 14 = .ok (.putfield 98, 3) := by decide +kernel
theorem d_Arc_drop_17 : decode b_Arc_drop 17 = .ok (.aload_n 0, 1) := by decide +kernel
theorem d_Arc_drop_18 : decode b_Arc_drop 18 = .ok (.iload_n 1, 1) := by decide +kernel
theorem d_Arc_drop_19 : decode b_Arc_drop 19 = .ok (.invokevirtual 102, 3) := by decide +kernel
theorem d_Arc_drop_22 : decode b_Arc_drop 22 = .ok (.aload_n 0, 1) := by decide +kernel
theorem d_Arc_drop_23 : decode b_Arc_drop 23 = .ok (.invokevirtual 91, 3) := by decide +kernel
theorem d_Arc_drop_26 : decode b_Arc_drop 26 = .ok (.iconst 0, 1) := by decide +kernel
theorem d_Arc_drop_27 : decode b_Arc_drop 27 = .ok (.ireturn, 1) := by decide +kernel
theorem d_Arc_tag_0 : decode b_Arc_tag 0 = .ok (.aload_n 0, 1) := by decide +kernel
theorem d_Arc_tag_1 : decode b_Arc_tag 1 = .ok (.iload_n 1, 1) := by decide +kernel
theorem d_Arc_tag_2 : decode b_Arc_tag 2 = .ok (.invokevirtual 94, 3) := by decide +kernel
theorem d_Arc_tag_5 : decode b_Arc_tag 5 = .ok (.astore 4, 2) := by decide +kernel
theorem d_Arc_tag_7 : decode b_Arc_tag 7 = .ok (.aload 4, 2) := by decide +kernel
theorem d_Arc_tag_9 : decode b_Arc_tag 9 = .ok (.ifnull 13, 3) := by decide +kernel
theorem d_Arc_tag_12 : decode b_Arc_tag 12 = .ok (.iload_n 2, 1) := by decide +kernel
theorem d_Arc_tag_13 : decode b_Arc_tag 13 = .ok (.ifCond .lt 9, 3) := by decide +kernel
theorem d_Arc_tag_16 : decode b_Arc_tag 16 = .ok (.iload_n 2, 1) := by decide +kernel
theorem d_Arc_tag_17 : decode b_Arc_tag 17 = .ok (.bipush 8, 2) := by decide +kernel
theorem d_Arc_tag_19 : decode b_Arc_tag 19 = .ok (.if_icmp .lt 5, 3) := by decide +kernel
theorem d_Arc_tag_22 : decode b_Arc_tag 22 = .ok (.iconst (-1), 1) := by decide +kernel
theorem d_Arc_tag_23 : decode b_Arc_tag 23 = .ok (.ireturn, 1) := by decide +kernel
theorem d_Arc_tag_24 : decode b_Arc_tag 24 = .ok (.aload 4, 2) := by decide +kernel
theorem d_Arc_tag_26 : decode b_Arc_tag 26 = .ok (.iload_n 2, 1) := by decide +kernel
theorem d_Arc_tag_27 : decode b_Arc_tag 27 = .ok (.iload_n 3, 1) := by decide +kernel
theorem d_Arc_tag_28 : decode b_Arc_tag 28 = .ok (.invokevirtual 106, 3) := by decide +kernel
theorem d_Arc_tag_31 : decode b_Arc_tag 31 = .ok (.iconst 0, 1) := by decide +kernel
theorem d_Arc_tag_32 : decode b_Arc_tag 32 = .ok (.ireturn, 1) := by decide +kernel
theorem d_Arc_numbersThere_0 : decode b_Arc_numbersThere 0 = .ok (.iconst 0, 1) := by decide +kernel
theorem d_Arc_numbersThere_1 : decode b_Arc_numbersThere 1 = .ok (.istore_n 1, 1) := by decide +kernel
theorem d_Arc_numbersThere_2 : decode b_Arc_numbersThere 2 = .ok (.iconst 0, 1) := by decide +kernel
theorem d_Arc_numbersThere_3 : decode b_Arc_numbersThere 3 = .ok (.istore_n 2, 1) := by decide +kernel
theorem d_Arc_numbersThere_4 : decode b_Arc_numbersThere 4 = .ok (.iload_n 2, 1) := by decide +kernel
theorem d_Arc_numbersThere_5 : decode b_Arc_numbersThere 5 = .ok (.aload_n 0, 1) := by decide +kernel
theorem d_Arc_numbersThere_6 : decode b_Arc_numbersThere 6 = .ok (.getfield 55, 3) := by decide +kernel
theorem d_Arc_numbersThere_9 : decode b_Arc_numbersThere 9 = .ok (.if_icmp .ge 20, 3) := by decide +kernel
theorem d_Arc_numbersThere_12 : decode b_Arc_numbersThere 12 = .ok (.iload_n 1, 1) := by decide +kernel
theorem d_Arc_numbersThere_13 : decode b_Arc_numbersThere 13 = .ok (.iconst 1, 1) := by decide +kernel
theorem d_Arc_numbersThere_14 : decode b_Arc_numbersThere 14 = .ok (.aload_n 0, 1) := by decide +kernel
theorem d_Arc_numbersThere_15 : decode b_Arc_numbersThere 15 = .ok (.getfield 51, 3) := by decide +kernel
theorem d_Arc_numbersThere_18 : decode b_Arc_numbersThere 18 = .ok (.iload_n 2, 1) := by decide +kernel
theorem d_Arc_numbersThere_19 : decode b_Arc_numbersThere 19 = .ok (.iaload, 1) := by decide +kernel
theorem d_Arc_numbersThere_20 : decode b_Arc_numbersThere 20 = .ok (.ishl, 1) := by decide +kernel
theorem d_Arc_numbersThere_21 : decode b_Arc_numbersThere 21 = .ok (.ior, 1) := by decide +kernel
theorem d_Arc_numbersThere_22 : decode b_Arc_numbersThere 22 = .ok (.istore_n 1, 1) := by decide +kernel
theorem d_Arc_numbersThere_23 : decode b_Arc_numbersThere 23 = .ok (.iinc 2 1, 3) := by decide +kernel
theorem d_Arc_numbersThere_26 : decode b_Arc_numbersThere 26 = .ok (.goto (-22), 3) := by decide +kernel
theorem d_Arc_numbersThere_29 : decode b_Arc_numbersThere 29 = .ok (.iload_n 1, 1) := by decide +kernel
theorem d_Arc_numbersThere_30 : decode b_Arc_numbersThere 30 = .ok (.ireturn, 1) := by decide +kernel
theorem d_Arc_search_0 : decode b_Arc_search 0 = .ok (.aload_n 0, 1) := by decide +kernel
theorem d_Arc_search_1 : decode b_Arc_search 1 = .ok (.aload_n 0, 1) := by decide +kernel
theorem d_Arc_search_2 : decode b_Arc_search 2 = .ok (.getfield 40, 3) := by decide +kernel
theorem d_Arc_search_5 : decode b_Arc_search 5 = .ok (.aload_n 0, 1) := by decide +kernel
theorem d_Arc_search_6 : decode b_Arc_search 6 = .ok (.getfield 10, 3) := by decide +kernel
theorem d_Arc_search_9 : decode b_Arc_search 9 = .ok (.aload_n 0, 1) := by decide +kernel
theorem d_Arc_search_10 : decode b_Arc_search 10 = .ok (.getfield 46, 3) := by decide +kernel
theorem d_Arc_search_13 : decode b_Arc_search 13 = .ok (.invokevirtual 110, 3) := by decide +kernel
theorem d_Arc_search_16 : decode b_Arc_search 16 = .ok (.putfield 62, 3) := by decide +kernel
theorem d_Arc_search_19 : decode b_Arc_search 19 = .ok (.aload_n 0, 1) := by decide +kernel
theorem d_Arc_search_20 : decode b_Arc_search 20 = .ok (.getfield 10, 3) := by decide +kernel
theorem d_Arc_search_23 : decode b_Arc_search 23 = .ok (.invokevirtual 76, 3) := by decide +kernel
theorem d_Arc_search_26 : decode b_Arc_search 26 = .ok (.aload_n 0, 1) := by decide +kernel
theorem d_Arc_search_27 : decode b_Arc_search 27 = .ok (.getfield 62, 3) := by decide +kernel
theorem d_Arc_search_30 : decode b_Arc_search 30 = .ok (.ifCond .lt 6, 3) := by decide +kernel
theorem d_Arc_search_33 : decode b_Arc_search 33 = .ok (.bipush (-3), 2) := by decide +kernel
theorem d_Arc_search_35 : decode b_Arc_search 35 = .ok (.ireturn, 1) := by decide +kernel
theorem d_Arc_search_36 : decode b_Arc_search 36 = .ok (.aload_n 0, 1) := by decide +kernel
theorem d_Arc_search_37 : decode b_Arc_search 37 = .ok (.aload_n 0, 1) := by decide +kernel
theorem d_Arc_search_38 : decode b_Arc_search 38 = .ok (.getfield 40, 3) := by decide +kernel
theorem d_Arc_search_41 : decode b_Arc_search 41 = .ok (.invokevirtual 114, 3) := by decide +kernel
theorem d_Arc_search_44 : decode b_Arc_search 44 = .ok (.aload_n 0, 1) := by decide +kernel
theorem d_Arc_search_45 : decode b_Arc_search 45 = .ok (.invokevirtual 117, 3) := by decide +kernel
theorem d_Arc_search_48 : decode b_Arc_search 48 = .ok (.iand, 1) := by decide +kernel
theorem d_Arc_search_49 : decode b_Arc_search 49 = .ok (.putfield 59, 3) := by decide +kernel
theorem d_Arc_search_52 : decode b_Arc_search 52 = .ok (.aload_n 0, 1) := by decide +kernel
theorem d_Arc_search_53 : decode b_Arc_search 53 = .ok (.getfield 59, 3) := by decide +kernel
theorem d_Arc_search_56 : decode b_Arc_search 56 = .ok (.invokestatic 120, 3) := by decide +kernel
theorem d_Arc_search_59 : decode b_Arc_search 59 = .ok (.ireturn, 1) := by decide +kernel
theorem d_Arc_errorAt_0 : decode b_Arc_errorAt 0 = .ok (.aload_n 0, 1) := by decide +kernel
theorem d_Arc_errorAt_1 : decode b_Arc_errorAt 1 = .ok (.getfield 62, 3) := by decide +kernel
theorem d_Arc_errorAt_4 : decode b_Arc_errorAt 4 = .ok (.ireturn, 1) := by decide +kernel
theorem d_Arc_numberInSet_0 : decode b_Arc_numberInSet 0 = .ok (.iconst 0, 1) := by decide +kernel
theorem d_Arc_numberInSet_1 : decode b_Arc_numberInSet 1 = .ok (.istore_n 2, 1) := by decide +kernel
theorem d_Arc_numberInSet_2 : decode b_Arc_numberInSet 2 = .ok (.iconst 0, 1) := by decide +kernel
theorem d_Arc_numberInSet_3 : decode b_Arc_numberInSet 3 = .ok (.istore_n 3, 1) := by decide +kernel
theorem d_Arc_numberInSet_4 : decode b_Arc_numberInSet 4 = .ok (.iload_n 3, 1) := by decide +kernel
theorem d_Arc_numberInSet_5 : decode b_Arc_numberInSet 5 = .ok (.bipush 12, 2) := by decide +kernel
theorem d_Arc_numberInSet_7 : decode b_Arc_numberInSet 7 = .ok (.if_icmp .ge 27, 3) := by decide +kernel
theorem d_Arc_numberInSet_10 : decode b_Arc_numberInSet 10 = .ok (.iload_n 0, 1) := by decide +kernel
theorem d_Arc_numberInSet_11 : decode b_Arc_numberInSet 11 = .ok (.iload_n 3, 1) := by decide +kernel
theorem d_Arc_numberInSet_12 : decode b_Arc_numberInSet 12 = .ok (.ishr, 1) := by decide +kernel
theorem d_Arc_numberInSet_13 : decode b_Arc_numberInSet 13 = .ok (.iconst 1, 1) := by decide +kernel
theorem d_Arc_numberInSet_14 : decode b_Arc_numberInSet 14 = .ok (.iand, 1) := by decide +kernel
theorem d_Arc_numberInSet_15 : decode b_Arc_numberInSet 15 = .ok (.ifCond .eq 13, 3) := by decide +kernel
theorem d_Arc_numberInSet_18 : decode b_Arc_numberInSet 18 = .ok (.iload_n 2, 1) := by decide +kernel
theorem d_Arc_numberInSet_19 : decode b_Arc_numberInSet 19 = .ok (.iload_n 1, 1) := by decide +kernel
theorem d_Arc_numberInSet_20 : decode b_Arc_numberInSet 20 = .ok (.if_icmp .ne 5, 3) := by decide +kernel
theorem d_Arc_numberInSet_23 : decode b_Arc_numberInSet 23 = .ok (.iload_n 3, 1) := by decide +kernel
theorem d_Arc_numberInSet_24 : decode b_Arc_numberInSet 24 = .ok (.ireturn, 1) := by decide +kernel
theorem d_Arc_numberInSet_25 : decode b_Arc_numberInSet 25 = .ok (.iinc 2 1, 3) := by decide +kernel
theorem d_Arc_numberInSet_28 : decode b_Arc_numberInSet 28 = .ok (.iinc 3 1, 3) := by decide +kernel
theorem d_Arc_numberInSet_31 : decode b_Arc_numberInSet 31 = .ok (.goto (-27), 3) := by decide +kernel
theorem d_Arc_numberInSet_34 : decode b_Arc_numberInSet 34 = .ok (.bipush (-4), 2) := by decide +kernel
theorem d_Arc_numberInSet_36 : decode b_Arc_numberInSet 36 = .ok (.ireturn, 1) := by decide +kernel
theorem d_Arc_hit_0 : decode b_Arc_hit 0 = .ok (.aload_n 0, 1) := by decide +kernel
theorem d_Arc_hit_1 : decode b_Arc_hit 1 = .ok (.getfield 59, 3) := by decide +kernel
theorem d_Arc_hit_4 : decode b_Arc_hit 4 = .ok (.iload_n 1, 1) := by decide +kernel
theorem d_Arc_hit_5 : decode b_Arc_hit 5 = .ok (.invokestatic 126, 3) := by decide +kernel
theorem d_Arc_hit_8 : decode b_Arc_hit 8 = .ok (.ireturn, 1) := by decide +kernel
theorem d_Arc_rootBit_0 : decode b_Arc_rootBit 0 = .ok (.lconst 1, 1) := by decide +kernel
theorem d_Arc_rootBit_1 : decode b_Arc_rootBit 1 = .ok (.aload_n 0, 1) := by decide +kernel
theorem d_Arc_rootBit_2 : decode b_Arc_rootBit 2 = .ok (.getfield 33, 3) := by decide +kernel
theorem d_Arc_rootBit_5 : decode b_Arc_rootBit 5 = .ok (.aload_n 1, 1) := by decide +kernel
theorem d_Arc_rootBit_6 : decode b_Arc_rootBit 6 = .ok (.getfield 138, 3) := by decide +kernel
theorem d_Arc_rootBit_9 : decode b_Arc_rootBit 9 = .ok (.invokevirtual 147, 3) := by decide +kernel
theorem d_Arc_rootBit_12 : decode b_Arc_rootBit 12 = .ok (.lshl, 1) := by decide +kernel
theorem d_Arc_rootBit_13 : decode b_Arc_rootBit 13 = .ok (.lreturn, 1) := by decide +kernel
theorem d_Arc_rootsOf_0 : decode b_Arc_rootsOf 0 = .ok (.lconst 0, 1) := by decide +kernel
theorem d_Arc_rootsOf_1 : decode b_Arc_rootsOf 1 = .ok (.lstore_n 2, 1) := by decide +kernel
theorem d_Arc_rootsOf_2 : decode b_Arc_rootsOf 2 = .ok (.iconst 0, 1) := by decide +kernel
theorem d_Arc_rootsOf_3 : decode b_Arc_rootsOf 3 = .ok (.istore 4, 2) := by decide +kernel
theorem d_Arc_rootsOf_5 : decode b_Arc_rootsOf 5 = .ok (.iload 4, 2) := by decide +kernel
theorem d_Arc_rootsOf_7 : decode b_Arc_rootsOf 7 = .ok (.bipush 12, 2) := by decide +kernel
theorem d_Arc_rootsOf_9 : decode b_Arc_rootsOf 9 = .ok (.if_icmp .ge 32, 3) := by decide +kernel
theorem d_Arc_rootsOf_12 : decode b_Arc_rootsOf 12 = .ok (.iload_n 1, 1) := by decide +kernel
theorem d_Arc_rootsOf_13 : decode b_Arc_rootsOf 13 = .ok (.iload 4, 2) := by decide +kernel
theorem d_Arc_rootsOf_15 : decode b_Arc_rootsOf 15 = .ok (.ishr, 1) := by decide +kernel
theorem d_Arc_rootsOf_16 : decode b_Arc_rootsOf 16 = .ok (.iconst 1, 1) := by decide +kernel
theorem d_Arc_rootsOf_17 : decode b_Arc_rootsOf 17 = .ok (.iand, 1) := by decide +kernel
theorem d_Arc_rootsOf_18 : decode b_Arc_rootsOf 18 = .ok (.ifCond .eq 17, 3) := by decide +kernel
theorem d_Arc_rootsOf_21 : decode b_Arc_rootsOf 21 = .ok (.lload_n 2, 1) := by decide +kernel
theorem d_Arc_rootsOf_22 : decode b_Arc_rootsOf 22 = .ok (.aload_n 0, 1) := by decide +kernel
theorem d_Arc_rootsOf_23 : decode b_Arc_rootsOf 23 = .ok (.aload_n 0, 1) := by decide +kernel
theorem d_Arc_rootsOf_24 : decode b_Arc_rootsOf 24 = .ok (.getfield 46, 3) := by decide +kernel
theorem d_Arc_rootsOf_27 : decode b_Arc_rootsOf 27 = .ok (.iload 4, 2) := by decide +kernel
theorem d_Arc_rootsOf_29 : decode b_Arc_rootsOf 29 = .ok (.aaload, 1) := by decide +kernel
theorem d_Arc_rootsOf_30 : decode b_Arc_rootsOf 30 = .ok (.invokevirtual 134, 3) := by decide +kernel
theorem d_Arc_rootsOf_33 : decode b_Arc_rootsOf 33 = .ok (.lor, 1) := by decide +kernel
theorem d_Arc_rootsOf_34 : decode b_Arc_rootsOf 34 = .ok (.lstore_n 2, 1) := by decide +kernel
theorem d_Arc_rootsOf_35 : decode b_Arc_rootsOf 35 = .ok (.iinc 4 1, 3) := by decide +kernel
theorem d_Arc_rootsOf_38 : decode b_Arc_rootsOf 38 = .ok (.goto (-33), 3) := by decide +kernel
theorem d_Arc_rootsOf_41 : decode b_Arc_rootsOf 41 = .ok (.lload_n 2, 1) := by decide +kernel
theorem d_Arc_rootsOf_42 : decode b_Arc_rootsOf 42 = .ok (.lreturn, 1) := by decide +kernel
theorem d_Arc_related_0 : decode b_Arc_related 0 = .ok (.aload_n 0, 1) := by decide +kernel
theorem d_Arc_related_1 : decode b_Arc_related 1 = .ok (.aload_n 0, 1) := by decide +kernel
theorem d_Arc_related_2 : decode b_Arc_related 2 = .ok (.getfield 59, 3) := by decide +kernel
theorem d_Arc_related_5 : decode b_Arc_related 5 = .ok (.aload_n 0, 1) := by decide +kernel
theorem d_Arc_related_6 : decode b_Arc_related 6 = .ok (.invokevirtual 117, 3) := by decide +kernel
theorem d_Arc_related_9 : decode b_Arc_related 9 = .ok (.iand, 1) := by decide +kernel
theorem d_Arc_related_10 : decode b_Arc_related 10 = .ok (.invokevirtual 130, 3) := by decide +kernel
theorem d_Arc_related_13 : decode b_Arc_related 13 = .ok (.lstore_n 2, 1) := by decide +kernel
theorem d_Arc_related_14 : decode b_Arc_related 14 = .ok (.iconst 0, 1) := by decide +kernel
theorem d_Arc_related_15 : decode b_Arc_related 15 = .ok (.istore 4, 2) := by decide +kernel
theorem d_Arc_related_17 : decode b_Arc_related 17 = .ok (.iconst 0, 1) := by decide +kernel
theorem d_Arc_related_18 : decode b_Arc_related 18 = .ok (.istore 5, 2) := by decide +kernel
theorem d_Arc_related_20 : decode b_Arc_related 20 = .ok (.iload 5, 2) := by decide +kernel
theorem d_Arc_related_22 : decode b_Arc_related 22 = .ok (.bipush 12, 2) := by decide +kernel
theorem d_Arc_related_24 : decode b_Arc_related 24 = .ok (.if_icmp .ge 49, 3) := by decide +kernel
theorem d_Arc_related_27 : decode b_Arc_related 27 = .ok (.aload_n 0, 1) := by decide +kernel
theorem d_Arc_related_28 : decode b_Arc_related 28 = .ok (.getfield 46, 3) := by decide +kernel
theorem d_Arc_related_31 : decode b_Arc_related 31 = .ok (.iload 5, 2) := by decide +kernel
theorem d_Arc_related_33 : decode b_Arc_related 33 = .ok (.aaload, 1) := by decide +kernel
theorem d_Arc_related_34 : decode b_Arc_related 34 = .ok (.getfield 98, 3) := by decide +kernel
theorem d_Arc_related_37 : decode b_Arc_related 37 = .ok (.ifCond .eq 30, 3) := by decide +kernel
theorem d_Arc_related_40 : decode b_Arc_related 40 = .ok (.lload_n 2, 1) := by decide +kernel
theorem d_Arc_related_41 : decode b_Arc_related 41 = .ok (.aload_n 0, 1) := by decide +kernel
theorem d_Arc_related_42 : decode b_Arc_related 42 = .ok (.aload_n 0, 1) := by decide +kernel
theorem d_Arc_related_43 : decode b_Arc_related 43 = .ok (.getfield 46, 3) := by decide +kernel
theorem d_Arc_related_46 : decode b_Arc_related 46 = .ok (.iload 5, 2) := by decide +kernel
theorem d_Arc_related_48 : decode b_Arc_related 48 = .ok (.aaload, 1) := by decide +kernel
theorem d_Arc_related_49 : decode b_Arc_related 49 = .ok (.invokevirtual 134, 3) := by decide +kernel
theorem d_Arc_related_52 : decode b_Arc_related 52 = .ok (.land, 1) := by decide +kernel
theorem d_Arc_related_53 : decode b_Arc_related 53 = .ok (.lconst 0, 1) := by decide +kernel
theorem d_Arc_related_54 : decode b_Arc_related 54 = .ok (.lcmp, 1) := by decide +kernel
theorem d_Arc_related_55 : decode b_Arc_related 55 = .ok (.ifCond .eq 12, 3) := by decide +kernel
theorem d_Arc_related_58 : decode b_Arc_related 58 = .ok (.iload 4, 2) := by decide +kernel
theorem d_Arc_related_60 : decode b_Arc_related 60 = .ok (.iconst 1, 1) := by decide +kernel
theorem d_Arc_related_61 : decode b_Arc_related 61 = .ok (.iload 5, 2) := by decide +kernel
theorem d_Arc_related_63 : decode b_Arc_related 63 = .ok (.ishl, 1) := by decide +kernel
theorem d_Arc_related_64 : decode b_Arc_related 64 = .ok (.ior, 1) := by decide +kernel
theorem d_Arc_related_65 : decode b_Arc_related 65 = .ok (.istore 4, 2) := by decide +kernel
theorem d_Arc_related_67 : decode b_Arc_related 67 = .ok (.iinc 5 1, 3) := by decide +kernel
theorem d_Arc_related_70 : decode b_Arc_related 70 = .ok (.goto (-50), 3) := by decide +kernel
theorem d_Arc_related_73 : decode b_Arc_related 73 = .ok (.iload 4, 2) := by decide +kernel
theorem d_Arc_related_75 : decode b_Arc_related 75 = .ok (.iload_n 1, 1) := by decide +kernel
theorem d_Arc_related_76 : decode b_Arc_related 76 = .ok (.invokestatic 126, 3) := by decide +kernel
theorem d_Arc_related_79 : decode b_Arc_related 79 = .ok (.ireturn, 1) := by decide +kernel
theorem d_Arc_idOf_0 : decode b_Arc_idOf 0 = .ok (.aload_n 0, 1) := by decide +kernel
theorem d_Arc_idOf_1 : decode b_Arc_idOf 1 = .ok (.iload_n 1, 1) := by decide +kernel
theorem d_Arc_idOf_2 : decode b_Arc_idOf 2 = .ok (.invokevirtual 94, 3) := by decide +kernel
theorem d_Arc_idOf_5 : decode b_Arc_idOf 5 = .ok (.astore_n 2, 1) := by decide +kernel
theorem d_Arc_idOf_6 : decode b_Arc_idOf 6 = .ok (.aload_n 2, 1) := by decide +kernel
theorem d_Arc_idOf_7 : decode b_Arc_idOf 7 = .ok (.ifnonnull 7, 3) := by decide +kernel
theorem d_Arc_idOf_10 : decode b_Arc_idOf 10 = .ok (.iconst (-1), 1) := by decide +kernel
theorem d_Arc_idOf_11 : decode b_Arc_idOf 11 = .ok (.goto 7, 3) := by decide +kernel
theorem d_Arc_idOf_14 : decode b_Arc_idOf 14 = .ok (.aload_n 2, 1) := by decide +kernel
theorem d_Arc_idOf_15 : decode b_Arc_idOf 15 = .ok (.getfield 138, 3) := by decide +kernel
theorem d_Arc_idOf_18 : decode b_Arc_idOf 18 = .ok (.ireturn, 1) := by decide +kernel
theorem d_Arc_answers_0 : decode b_Arc_answers 0 = .ok (.aload_n 0, 1) := by decide +kernel
theorem d_Arc_answers_1 : decode b_Arc_answers 1 = .ok (.iload_n 1, 1) := by decide +kernel
theorem d_Arc_answers_2 : decode b_Arc_answers 2 = .ok (.invokevirtual 94, 3) := by decide +kernel
theorem d_Arc_answers_5 : decode b_Arc_answers 5 = .ok (.astore_n 2, 1) := by decide +kernel
theorem d_Arc_answers_6 : decode b_Arc_answers 6 = .ok (.aload_n 2, 1) := by decide +kernel
theorem d_Arc_answers_7 : decode b_Arc_answers 7 = .ok (.ifnonnull 5, 3) := by decide +kernel
theorem d_Arc_answers_10 : decode b_Arc_answers 10 = .ok (.iconst (-1), 1) := by decide +kernel
theorem d_Arc_answers_11 : decode b_Arc_answers 11 = .ok (.ireturn, 1) := by decide +kernel
theorem d_Arc_answers_12 : decode b_Arc_answers 12 = .ok (.aload_n 0, 1) := by decide +kernel
theorem d_Arc_answers_13 : decode b_Arc_answers 13 = .ok (.getfield 33, 3) := by decide +kernel
theorem d_Arc_answers_16 : decode b_Arc_answers 16 = .ok (.aload_n 2, 1) := by decide +kernel
theorem d_Arc_answers_17 : decode b_Arc_answers 17 = .ok (.getfield 138, 3) := by decide +kernel
theorem d_Arc_answers_20 : decode b_Arc_answers 20 = .ok (.invokevirtual 141, 3) := by decide +kernel
theorem d_Arc_answers_23 : decode b_Arc_answers 23 = .ok (.istore_n 3, 1) := by decide +kernel
theorem d_Arc_answers_24 : decode b_Arc_answers 24 = .ok (.iconst 0, 1) := by decide +kernel
theorem d_Arc_answers_25 : decode b_Arc_answers 25 = .ok (.istore 4, 2) := by decide +kernel
theorem d_Arc_answers_27 : decode b_Arc_answers 27 = .ok (.iload 4, 2) := by decide +kernel
theorem d_Arc_answers_29 : decode b_Arc_answers 29 = .ok (.bipush 64, 2) := by decide +kernel
theorem d_Arc_answers_31 : decode b_Arc_answers 31 = .ok (.if_icmp .ge 37, 3) := by decide +kernel
theorem d_Arc_answers_34 : decode b_Arc_answers 34 = .ok (.iload_n 3, 1) := by decide +kernel
theorem d_Arc_answers_35 : decode b_Arc_answers 35 = .ok (.ifCond .lt 33, 3) := by decide +kernel
theorem d_Arc_answers_38 : decode b_Arc_answers 38 = .ok (.aload_n 0, 1) := by decide +kernel
theorem d_Arc_answers_39 : decode b_Arc_answers 39 = .ok (.iload_n 3, 1) := by decide +kernel
theorem d_Arc_answers_40 : decode b_Arc_answers 40 = .ok (.invokevirtual 144, 3) := by decide +kernel
theorem d_Arc_answers_43 : decode b_Arc_answers 43 = .ok (.istore 5, 2) := by decide +kernel
theorem d_Arc_answers_45 : decode b_Arc_answers 45 = .ok (.iload 5, 2) := by decide +kernel
theorem d_Arc_answers_47 : decode b_Arc_answers 47 = .ok (.ifCond .lt 6, 3) := by decide +kernel
theorem d_Arc_answers_50 : decode b_Arc_answers 50 = .ok (.iload 5, 2) := by decide +kernel
theorem d_Arc_answers_52 : decode b_Arc_answers 52 = .ok (.ireturn, 1) := by decide +kernel
theorem d_Arc_answers_53 : decode b_Arc_answers 53 = .ok (.aload_n 0, 1) := by decide +kernel
theorem d_Arc_answers_54 : decode b_Arc_answers 54 = .ok (.getfield 33, 3) := by decide +kernel
theorem d_Arc_answers_57 : decode b_Arc_answers 57 = .ok (.iload_n 3, 1) := by decide +kernel
theorem d_Arc_answers_58 : decode b_Arc_answers 58 = .ok (.invokevirtual 141, 3) := by decide +kernel
theorem d_Arc_answers_61 : decode b_Arc_answers 61 = .ok (.istore_n 3, 1) := by decide +kernel
theorem d_Arc_answers_62 : decode b_Arc_answers 62 = .ok (.iinc 4 1, 3) := by decide +kernel
theorem d_Arc_answers_65 : decode b_Arc_answers 65 = .ok (.goto (-38), 3) := by decide +kernel
theorem d_Arc_answers_68 : decode b_Arc_answers 68 = .ok (.bipush (-4), 2) := by decide +kernel
theorem d_Arc_answers_70 : decode b_Arc_answers 70 = .ok (.ireturn, 1) := by decide +kernel
theorem d_Arc_root_0 : decode b_Arc_root 0 = .ok (.iload_n 1, 1) := by decide +kernel
theorem d_Arc_root_1 : decode b_Arc_root 1 = .ok (.ifCond .lt 9, 3) := by decide +kernel
theorem d_Arc_root_4 : decode b_Arc_root 4 = .ok (.iload_n 1, 1) := by decide +kernel
theorem d_Arc_root_5 : decode b_Arc_root 5 = .ok (.bipush 64, 2) := by decide +kernel
theorem d_Arc_root_7 : decode b_Arc_root 7 = .ok (.if_icmp .lt 5, 3) := by decide +kernel
theorem d_Arc_root_10 : decode b_Arc_root 10 = .ok (.iconst (-1), 1) := by decide +kernel
theorem d_Arc_root_11 : decode b_Arc_root 11 = .ok (.ireturn, 1) := by decide +kernel
theorem d_Arc_root_12 : decode b_Arc_root 12 = .ok (.aload_n 0, 1) := by decide +kernel
theorem d_Arc_root_13 : decode b_Arc_root 13 = .ok (.getfield 33, 3) := by decide +kernel
theorem d_Arc_root_16 : decode b_Arc_root 16 = .ok (.iload_n 1, 1) := by decide +kernel
theorem d_Arc_root_17 : decode b_Arc_root 17 = .ok (.invokevirtual 147, 3) := by decide +kernel
theorem d_Arc_root_20 : decode b_Arc_root 20 = .ok (.ireturn, 1) := by decide +kernel
theorem d_Arc_word_0 : decode b_Arc_word 0 = .ok (.aload_n 0, 1) := by decide +kernel
theorem d_Arc_word_1 : decode b_Arc_word 1 = .ok (.iload_n 1, 1) := by decide +kernel
theorem d_Arc_word_2 : decode b_Arc_word 2 = .ok (.invokevirtual 94, 3) := by decide +kernel
theorem d_Arc_word_5 : decode b_Arc_word 5 = .ok (.astore_n 3, 1) := by decide +kernel
theorem d_Arc_word_6 : decode b_Arc_word 6 = .ok (.aload_n 3, 1) := by decide +kernel
theorem d_Arc_word_7 : decode b_Arc_word 7 = .ok (.ifnull 11, 3) := by decide +kernel
theorem d_Arc_word_10 : decode b_Arc_word 10 = .ok (.aload_n 3, 1) := by decide +kernel
theorem d_Arc_word_11 : decode b_Arc_word 11 = .ok (.iload_n 2, 1) := by decide +kernel
theorem d_Arc_word_12 : decode b_Arc_word 12 = .ok (.invokevirtual 150, 3) := by decide +kernel
theorem d_Arc_word_15 : decode b_Arc_word 15 = .ok (.ifCond .ne 7, 3) := by decide +kernel
theorem d_Arc_word_18 : decode b_Arc_word 18 = .ok (.ldc2_w 154, 3) := by decide +kernel
theorem d_Arc_word_21 : decode b_Arc_word 21 = .ok (.lreturn, 1) := by decide +kernel
theorem d_Arc_word_22 : decode b_Arc_word 22 = .ok (.aload_n 3, 1) := by decide +kernel
theorem d_Arc_word_23 : decode b_Arc_word 23 = .ok (.getfield 156, 3) := by decide +kernel
theorem d_Arc_word_26 : decode b_Arc_word 26 = .ok (.iload_n 2, 1) := by decide +kernel
theorem d_Arc_word_27 : decode b_Arc_word 27 = .ok (.laload, 1) := by decide +kernel
theorem d_Arc_word_28 : decode b_Arc_word 28 = .ok (.lreturn, 1) := by decide +kernel
theorem d_Arc_field_0 : decode b_Arc_field 0 = .ok (.aload_n 0, 1) := by decide +kernel
theorem d_Arc_field_1 : decode b_Arc_field 1 = .ok (.iload_n 1, 1) := by decide +kernel
theorem d_Arc_field_2 : decode b_Arc_field 2 = .ok (.invokevirtual 94, 3) := by decide +kernel
theorem d_Arc_field_5 : decode b_Arc_field 5 = .ok (.astore_n 3, 1) := by decide +kernel
theorem d_Arc_field_6 : decode b_Arc_field 6 = .ok (.aload_n 3, 1) := by decide +kernel
theorem d_Arc_field_7 : decode b_Arc_field 7 = .ok (.ifnull 11, 3) := by decide +kernel
theorem d_Arc_field_10 : decode b_Arc_field 10 = .ok (.aload_n 3, 1) := by decide +kernel
theorem d_Arc_field_11 : decode b_Arc_field 11 = .ok (.iload_n 2, 1) := by decide +kernel
theorem d_Arc_field_12 : decode b_Arc_field 12 = .ok (.invokevirtual 150, 3) := by decide +kernel
theorem d_Arc_field_15 : decode b_Arc_field 15 = .ok (.ifCond .ne 5, 3) := by decide +kernel
theorem d_Arc_field_18 : decode b_Arc_field 18 = .ok (.iconst (-1), 1) := by decide +kernel
theorem d_Arc_field_19 : decode b_Arc_field 19 = .ok (.ireturn, 1) := by decide +kernel
theorem d_Arc_field_20 : decode b_Arc_field 20 = .ok (.aload_n 3, 1) := by decide +kernel
theorem d_Arc_field_21 : decode b_Arc_field 21 = .ok (.getfield 160, 3) := by decide +kernel
theorem d_Arc_field_24 : decode b_Arc_field 24 = .ok (.iload_n 2, 1) := by decide +kernel
theorem d_Arc_field_25 : decode b_Arc_field 25 = .ok (.iaload, 1) := by decide +kernel
theorem d_Arc_field_26 : decode b_Arc_field 26 = .ok (.ireturn, 1) := by decide +kernel
theorem d_Arc_isCodeEarlier_0 : decode b_Arc_isCodeEarlier 0 = .ok (.iconst 0, 1) := by decide +kernel
theorem d_Arc_isCodeEarlier_1 : decode b_Arc_isCodeEarlier 1 = .ok (.istore 4, 2) := by decide +kernel
theorem d_Arc_isCodeEarlier_3 : decode b_Arc_isCodeEarlier 3 = .ok (.iload 4, 2) := by decide +kernel
theorem d_Arc_isCodeEarlier_5 : decode b_Arc_isCodeEarlier 5 = .ok (.iload_n 1, 1) := by decide +kernel
theorem d_Arc_isCodeEarlier_6 : decode b_Arc_isCodeEarlier 6 = .ok (.if_icmp .ge 39, 3) := by decide +kernel
theorem d_Arc_isCodeEarlier_9 : decode b_Arc_isCodeEarlier 9 = .ok (.aload_n 0, 1) := by decide +kernel
theorem d_Arc_isCodeEarlier_10 : decode b_Arc_isCodeEarlier 10 = .ok (.getfield 46, 3) := by decide +kernel
theorem d_Arc_isCodeEarlier_13 : decode b_Arc_isCodeEarlier 13 = .ok (.aload_n 0, 1) := by decide +kernel
theorem d_Arc_isCodeEarlier_14 : decode b_Arc_isCodeEarlier 14 = .ok (.getfield 51, 3) := by decide +kernel
theorem d_Arc_isCodeEarlier_17 : decode b_Arc_isCodeEarlier 17 = .ok (.iload 4, 2) := by decide +kernel
theorem d_Arc_isCodeEarlier_19 : decode b_Arc_isCodeEarlier 19 = .ok (.iaload, 1) := by decide +kernel
theorem d_Arc_isCodeEarlier_20 : decode b_Arc_isCodeEarlier 20 = .ok (.aaload, 1) := by decide +kernel
theorem d_Arc_isCodeEarlier_21 : decode b_Arc_isCodeEarlier 21 = .ok (.astore 5, 2) := by decide +kernel
theorem d_Arc_isCodeEarlier_23 : decode b_Arc_isCodeEarlier 23 = .ok (.aload 5, 2) := by decide +kernel
theorem d_Arc_isCodeEarlier_25 : decode b_Arc_isCodeEarlier 25 = .ok (.aload 5, 2) := by decide +kernel
theorem d_Arc_isCodeEarlier_27 : decode b_Arc_isCodeEarlier 27 = .ok (.getfield 184, 3) := by decide +kernel
theorem d_Arc_isCodeEarlier_30 : decode b_Arc_isCodeEarlier 30 = .ok (.lload_n 2, 1) := by decide +kernel
theorem d_Arc_isCodeEarlier_31 : decode b_Arc_isCodeEarlier 31 = .ok (.invokevirtual 187, 3) := by decide +kernel
theorem d_Arc_isCodeEarlier_34 : decode b_Arc_isCodeEarlier 34 = .ok (.ifCond .eq 5, 3) := by decide +kernel
theorem d_Arc_isCodeEarlier_37 : decode b_Arc_isCodeEarlier 37 = .ok (.iconst 1, 1) := by decide +kernel
theorem d_Arc_isCodeEarlier_38 : decode b_Arc_isCodeEarlier 38 = .ok (.ireturn, 1) := by decide +kernel
theorem d_Arc_isCodeEarlier_39 : decode b_Arc_isCodeEarlier 39 = .ok (.iinc 4 1, 3) := by decide +kernel
theorem d_Arc_isCodeEarlier_42 : decode b_Arc_isCodeEarlier 42 = .ok (.goto (-39), 3) := by decide +kernel
theorem d_Arc_isCodeEarlier_45 : decode b_Arc_isCodeEarlier 45 = .ok (.iconst 0, 1) := by decide +kernel
theorem d_Arc_isCodeEarlier_46 : decode b_Arc_isCodeEarlier 46 = .ok (.ireturn, 1) := by decide +kernel
theorem d_Arc_differentCodes_0 : decode b_Arc_differentCodes 0 = .ok (.iconst 0, 1) := by decide +kernel
theorem d_Arc_differentCodes_1 : decode b_Arc_differentCodes 1 = .ok (.istore_n 1, 1) := by decide +kernel
theorem d_Arc_differentCodes_2 : decode b_Arc_differentCodes 2 = .ok (.iconst 0, 1) := by decide +kernel
theorem d_Arc_differentCodes_3 : decode b_Arc_differentCodes 3 = .ok (.istore_n 2, 1) := by decide +kernel
theorem d_Arc_differentCodes_4 : decode b_Arc_differentCodes 4 = .ok (.iload_n 2, 1) := by decide +kernel
theorem d_Arc_differentCodes_5 : decode b_Arc_differentCodes 5 = .ok (.aload_n 0, 1) := by decide +kernel
theorem d_Arc_differentCodes_6 : decode b_Arc_differentCodes 6 = .ok (.getfield 55, 3) := by decide +kernel
theorem d_Arc_differentCodes_9 : decode b_Arc_differentCodes 9 = .ok (.if_icmp .ge 73, 3) := by decide +kernel
theorem d_Arc_differentCodes_12 : decode b_Arc_differentCodes 12 = .ok (.aload_n 0, 1) := by decide +kernel
theorem d_Arc_differentCodes_13 : decode b_Arc_differentCodes 13 = .ok (.getfield 46, 3) := by decide +kernel
theorem d_Arc_differentCodes_16 : decode b_Arc_differentCodes 16 = .ok (.aload_n 0, 1) := by decide +kernel
theorem d_Arc_differentCodes_17 : decode b_Arc_differentCodes 17 = .ok (.getfield 51, 3) := by decide +kernel
theorem d_Arc_differentCodes_20 : decode b_Arc_differentCodes 20 = .ok (.iload_n 2, 1) := by decide +kernel
theorem d_Arc_differentCodes_21 : decode b_Arc_differentCodes 21 = .ok (.iaload, 1) := by decide +kernel
theorem d_Arc_differentCodes_22 : decode b_Arc_differentCodes 22 = .ok (.aaload, 1) := by decide +kernel
theorem d_Arc_differentCodes_23 : decode b_Arc_differentCodes 23 = .ok (.astore_n 3, 1) := by decide +kernel
theorem d_Arc_differentCodes_24 : decode b_Arc_differentCodes 24 = .ok (.iconst 0, 1) := by decide +kernel
theorem d_Arc_differentCodes_25 : decode b_Arc_differentCodes 25 = .ok (.istore 4, 2) := by decide +kernel
theorem d_Arc_differentCodes_27 : decode b_Arc_differentCodes 27 = .ok (.iload 4, 2) := by decide +kernel
theorem d_Arc_differentCodes_29 : decode b_Arc_differentCodes 29 = .ok (.aload_n 3, 1) := by decide +kernel
theorem d_Arc_differentCodes_30 : decode b_Arc_differentCodes 30 = .ok (.getfield 184, 3) := by decide +kernel
theorem d_Arc_differentCodes_33 : decode b_Arc_differentCodes 33 = .ok (.if_icmp .ge 43, 3) := by decide +kernel
theorem d_Arc_differentCodes_36 : decode b_Arc_differentCodes 36 = .ok (.aload_n 3, 1) := by decide +kernel
theorem d_Arc_differentCodes_37 : decode b_Arc_differentCodes 37 = .ok (.iload 4, 2) := by decide +kernel
theorem d_Arc_differentCodes_39 : decode b_Arc_differentCodes 39 = .ok (.aload_n 3, 1) := by decide +kernel
theorem d_Arc_differentCodes_40 : decode b_Arc_differentCodes 40 = .ok (.getfield 156, 3) := by decide +kernel
theorem d_Arc_differentCodes_43 : decode b_Arc_differentCodes 43 = .ok (.iload 4, 2) := by decide +kernel
theorem d_Arc_differentCodes_45 : decode b_Arc_differentCodes 45 = .ok (.laload, 1) := by decide +kernel
theorem d_Arc_differentCodes_46 : decode b_Arc_differentCodes 46 = .ok (.invokevirtual 187, 3) := by decide +kernel
theorem d_Arc_differentCodes_49 : decode b_Arc_differentCodes 49 = .ok (.ifCond .ne 21, 3) := by decide +kernel
theorem d_Arc_differentCodes_52 : decode b_Arc_differentCodes 52 = .ok (.aload_n 0, 1) := by decide +kernel
theorem d_Arc_differentCodes_53 : decode b_Arc_differentCodes 53 = .ok (.iload_n 2, 1) := by decide +kernel
theorem d_Arc_differentCodes_54 : decode b_Arc_differentCodes 54 = .ok (.aload_n 3, 1) := by decide +kernel
theorem d_Arc_differentCodes_55 : decode b_Arc_differentCodes 55 = .ok (.getfield 156, 3) := by decide +kernel
theorem d_Arc_differentCodes_58 : decode b_Arc_differentCodes 58 = .ok (.iload 4, 2) := by decide +kernel
theorem d_Arc_differentCodes_60 : decode b_Arc_differentCodes 60 = .ok (.laload, 1) := by decide +kernel
theorem d_Arc_differentCodes_61 : decode b_Arc_differentCodes 61 = .ok (.invokevirtual 191, 3) := by decide +kernel
theorem d_Arc_differentCodes_64 : decode b_Arc_differentCodes 64 = .ok (.ifCond .ne 6, 3) := by decide +kernel
theorem d_Arc_differentCodes_67 : decode b_Arc_differentCodes 67 = .ok (.iinc 1 1, 3) := by decide +kernel
theorem d_Arc_differentCodes_70 : decode b_Arc_differentCodes 70 = .ok (.iinc 4 1, 3) := by decide +kernel
theorem d_Arc_differentCodes_73 : decode b_Arc_differentCodes 73 = .ok (.goto (-46), 3) := by decide +kernel
theorem d_Arc_differentCodes_76 : decode b_Arc_differentCodes 76 = .ok (.iinc 2 1, 3) := by decide +kernel
theorem d_Arc_differentCodes_79 : decode b_Arc_differentCodes 79 = .ok (.goto (-75), 3) := by decide +kernel
theorem d_Arc_differentCodes_82 : decode b_Arc_differentCodes 82 = .ok (.iload_n 1, 1) := by decide +kernel
theorem d_Arc_differentCodes_83 : decode b_Arc_differentCodes 83 = .ok (.ireturn, 1) := by decide +kernel
theorem d_Arc_leavesOf_0 : decode b_Arc_leavesOf 0 = .ok (.aload_n 0, 1) := by decide +kernel
theorem d_Arc_leavesOf_1 : decode b_Arc_leavesOf 1 = .ok (.iload_n 1, 1) := by decide +kernel
theorem d_Arc_leavesOf_2 : decode b_Arc_leavesOf 2 = .ok (.invokevirtual 94, 3) := by decide +kernel
theorem d_Arc_leavesOf_5 : decode b_Arc_leavesOf 5 = .ok (.astore_n 2, 1) := by decide +kernel
theorem d_Arc_leavesOf_6 : decode b_Arc_leavesOf 6 = .ok (.aload_n 2, 1) := by decide +kernel
theorem d_Arc_leavesOf_7 : decode b_Arc_leavesOf 7 = .ok (.ifnonnull 7, 3) := by decide +kernel
theorem d_Arc_leavesOf_10 : decode b_Arc_leavesOf 10 = .ok (.iconst (-1), 1) := by decide +kernel
theorem d_Arc_leavesOf_11 : decode b_Arc_leavesOf 11 = .ok (.goto 7, 3) := by decide +kernel
theorem d_Arc_leavesOf_14 : decode b_Arc_leavesOf 14 = .ok (.aload_n 2, 1) := by decide +kernel
theorem d_Arc_leavesOf_15 : decode b_Arc_leavesOf 15 = .ok (.getfield 181, 3) := by decide +kernel
theorem d_Arc_leavesOf_18 : decode b_Arc_leavesOf 18 = .ok (.ireturn, 1) := by decide +kernel
theorem d_Arc_count_0 : decode b_Arc_count 0 = .ok (.iload_n 1, 1) := by decide +kernel
theorem d_Arc_count_1 : decode b_Arc_count 1 = .ok (.tableswitch 85 0 5 #[39, 44, 52, 60, 68, 80], 39) := by decide +kernel
theorem d_Arc_count_40 : decode b_Arc_count 40 = .ok (.aload_n 0, 1) := by decide +kernel
theorem d_Arc_count_41 : decode b_Arc_count 41 = .ok (.getfield 55, 3) := by decide +kernel
theorem d_Arc_count_44 : decode b_Arc_count 44 = .ok (.ireturn, 1) := by decide +kernel
theorem d_Arc_count_45 : decode b_Arc_count 45 = .ok (.aload_n 0, 1) := by decide +kernel
theorem d_Arc_count_46 : decode b_Arc_count 46 = .ok (.getfield 10, 3) := by decide +kernel
theorem d_Arc_count_49 : decode b_Arc_count 49 = .ok (.getfield 69, 3) := by decide +kernel
theorem d_Arc_count_52 : decode b_Arc_count 52 = .ok (.ireturn, 1) := by decide +kernel
theorem d_Arc_count_53 : decode b_Arc_count 53 = .ok (.aload_n 0, 1) := by decide +kernel
theorem d_Arc_count_54 : decode b_Arc_count 54 = .ok (.getfield 19, 3) := by decide +kernel
theorem d_Arc_count_57 : decode b_Arc_count 57 = .ok (.getfield 79, 3) := by decide +kernel
theorem d_Arc_count_60 : decode b_Arc_count 60 = .ok (.ireturn, 1) := by decide +kernel
theorem d_Arc_count_61 : decode b_Arc_count 61 = .ok (.aload_n 0, 1) := by decide +kernel
theorem d_Arc_count_62 : decode b_Arc_count 62 = .ok (.getfield 59, 3) := by decide +kernel
theorem d_Arc_count_65 : decode b_Arc_count 65 = .ok (.invokestatic 120, 3) := by decide +kernel
theorem d_Arc_count_68 : decode b_Arc_count 68 = .ok (.ireturn, 1) := by decide +kernel
theorem d_Arc_count_69 : decode b_Arc_count 69 = .ok (.aload_n 0, 1) := by decide +kernel
theorem d_Arc_count_70 : decode b_Arc_count 70 = .ok (.aload_n 0, 1) := by decide +kernel
theorem d_Arc_count_71 : decode b_Arc_count 71 = .ok (.invokevirtual 117, 3) := by decide +kernel
theorem d_Arc_count_74 : decode b_Arc_count 74 = .ok (.invokevirtual 130, 3) := by decide +kernel
theorem d_Arc_count_77 : decode b_Arc_count 77 = .ok (.invokestatic 163, 3) := by decide +kernel
theorem d_Arc_count_80 : decode b_Arc_count 80 = .ok (.ireturn, 1) := by decide +kernel
theorem d_Arc_count_81 : decode b_Arc_count 81 = .ok (.aload_n 0, 1) := by decide +kernel
theorem d_Arc_count_82 : decode b_Arc_count 82 = .ok (.invokevirtual 168, 3) := by decide +kernel
theorem d_Arc_count_85 : decode b_Arc_count 85 = .ok (.ireturn, 1) := by decide +kernel
theorem d_Arc_count_86 : decode b_Arc_count 86 = .ok (.iload_n 1, 1) := by decide +kernel
theorem d_Arc_count_87 : decode b_Arc_count 87 = .ok (.ifCond .ge 7, 3) := by decide +kernel
theorem d_Arc_count_90 : decode b_Arc_count 90 = .ok (.iconst (-1), 1) := by decide +kernel
theorem d_Arc_count_91 : decode b_Arc_count 91 = .ok (.goto 11, 3) := by decide +kernel
theorem d_Arc_count_94 : decode b_Arc_count 94 = .ok (.aload_n 0, 1) := by decide +kernel
theorem d_Arc_count_95 : decode b_Arc_count 95 = .ok (.iload_n 1, 1) := by decide +kernel
theorem d_Arc_count_96 : decode b_Arc_count 96 = .ok (.bipush 6, 2) := by decide +kernel
theorem d_Arc_count_98 : decode b_Arc_count 98 = .ok (.isub, 1) := by decide +kernel
theorem d_Arc_count_99 : decode b_Arc_count 99 = .ok (.invokevirtual 171, 3) := by decide +kernel
theorem d_Arc_count_102 : decode b_Arc_count 102 = .ok (.ireturn, 1) := by decide +kernel
