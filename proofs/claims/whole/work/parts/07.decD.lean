theorem d_Mod_present_0 : decode b_Mod_present 0 = .ok (.iconst 0, 1) := by decide +kernel
theorem d_Mod_present_1 : decode b_Mod_present 1 = .ok (.istore_n 1, 1) := by decide +kernel
theorem d_Mod_present_2 : decode b_Mod_present 2 = .ok (.iconst 0, 1) := by decide +kernel
theorem d_Mod_present_3 : decode b_Mod_present 3 = .ok (.istore_n 2, 1) := by decide +kernel
theorem d_Mod_present_4 : decode b_Mod_present 4 = .ok (.iload_n 2, 1) := by decide +kernel
theorem d_Mod_present_5 : decode b_Mod_present 5 = .ok (.bipush 12, 2) := by decide +kernel
theorem d_Mod_present_7 : decode b_Mod_present 7 = .ok (.if_icmp .ge 24, 3) := by decide +kernel
theorem d_Mod_present_10 : decode b_Mod_present 10 = .ok (.aload_n 0, 1) := by decide +kernel
theorem d_Mod_present_11 : decode b_Mod_present 11 = .ok (.getfield 25, 3) := by decide +kernel
theorem d_Mod_present_14 : decode b_Mod_present 14 = .ok (.iload_n 2, 1) := by decide +kernel
theorem d_Mod_present_15 : decode b_Mod_present 15 = .ok (.baload, 1) := by decide +kernel
theorem d_Mod_present_16 : decode b_Mod_present 16 = .ok (.ifCond .eq 9, 3) := by decide +kernel
theorem d_Mod_present_19 : decode b_Mod_present 19 = .ok (.iload_n 1, 1) := by decide +kernel
theorem d_Mod_present_20 : decode b_Mod_present 20 = .ok (.iconst 1, 1) := by decide +kernel
theorem d_Mod_present_21 : decode b_Mod_present 21 = .ok (.iload_n 2, 1) := by decide +kernel
theorem d_Mod_present_22 : decode b_Mod_present 22 = .ok (.ishl, 1) := by decide +kernel
theorem d_Mod_present_23 : decode b_Mod_present 23 = .ok (.ior, 1) := by decide +kernel
theorem d_Mod_present_24 : decode b_Mod_present 24 = .ok (.istore_n 1, 1) := by decide +kernel
theorem d_Mod_present_25 : decode b_Mod_present 25 = .ok (.iinc 2 1, 3) := by decide +kernel
theorem d_Mod_present_28 : decode b_Mod_present 28 = .ok (.goto (-24), 3) := by decide +kernel
theorem d_Mod_present_31 : decode b_Mod_present 31 = .ok (.iload_n 1, 1) := by decide +kernel
theorem d_Mod_present_32 : decode b_Mod_present 32 = .ok (.ireturn, 1) := by decide +kernel
theorem d_Mod_one_0 : decode b_Mod_one 0 = .ok (.iload_n 1, 1) := by decide +kernel
theorem d_Mod_one_1 : decode b_Mod_one 1 = .ok (.istore_n 2, 1) := by decide +kernel
theorem d_Mod_one_2 : decode b_Mod_one 2 = .ok (.aload_n 0, 1) := by decide +kernel
theorem d_Mod_one_3 : decode b_Mod_one 3 = .ok (.getfield 171, 3) := by decide +kernel
theorem d_Mod_one_6 : decode b_Mod_one 6 = .ok (.ifCond .le 41, 3) := by decide +kernel
theorem d_Mod_one_9 : decode b_Mod_one 9 = .ok (.aload_n 0, 1) := by decide +kernel
theorem d_Mod_one_10 : decode b_Mod_one 10 = .ok (.getfield 67, 3) := by decide +kernel
theorem d_Mod_one_13 : decode b_Mod_one 13 = .ok (.aload_n 0, 1) := by decide +kernel
theorem d_Mod_one_14 : decode b_Mod_one 14 = .ok (.getfield 171, 3) := by decide +kernel
theorem d_Mod_one_17 : decode b_Mod_one 17 = .ok (.iconst 1, 1) := by decide +kernel
theorem d_Mod_one_18 : decode b_Mod_one 18 = .ok (.isub, 1) := by decide +kernel
theorem d_Mod_one_19 : decode b_Mod_one 19 = .ok (.iaload, 1) := by decide +kernel
theorem d_Mod_one_20 : decode b_Mod_one 20 = .ok (.bipush 33, 2) := by decide +kernel
theorem d_Mod_one_22 : decode b_Mod_one 22 = .ok (.if_icmp .ne 25, 3) := by decide +kernel
theorem d_Mod_one_25 : decode b_Mod_one 25 = .ok (.aload_n 0, 1) := by decide +kernel
theorem d_Mod_one_26 : decode b_Mod_one 26 = .ok (.invokevirtual 174, 3) := by decide +kernel
theorem d_Mod_one_29 : decode b_Mod_one 29 = .ok (.iload_n 2, 1) := by decide +kernel
theorem d_Mod_one_30 : decode b_Mod_one 30 = .ok (.iconst (-1), 1) := by decide +kernel
theorem d_Mod_one_31 : decode b_Mod_one 31 = .ok (.ixor, 1) := by decide +kernel
theorem d_Mod_one_32 : decode b_Mod_one 32 = .ok (.iand, 1) := by decide +kernel
theorem d_Mod_one_33 : decode b_Mod_one 33 = .ok (.istore_n 2, 1) := by decide +kernel
theorem d_Mod_one_34 : decode b_Mod_one 34 = .ok (.aload_n 0, 1) := by decide +kernel
theorem d_Mod_one_35 : decode b_Mod_one 35 = .ok (.dup, 1) := by decide +kernel
theorem d_Mod_one_36 : decode b_Mod_one 36 = .ok (.getfield 171, 3) := by decide +kernel
theorem d_Mod_one_39 : decode b_Mod_one 39 = .ok (.iconst 1, 1) := by decide +kernel
theorem d_Mod_one_40 : decode b_Mod_one 40 = .ok (.isub, 1) := by decide +kernel
theorem d_Mod_one_41 : decode b_Mod_one 41 = .ok (.putfield 171, 3) := by decide +kernel
theorem d_Mod_one_44 : decode b_Mod_one 44 = .ok (.goto (-42), 3) := by decide +kernel
theorem d_Mod_one_47 : decode b_Mod_one 47 = .ok (.aload_n 0, 1) := by decide +kernel
theorem d_Mod_one_48 : decode b_Mod_one 48 = .ok (.getfield 64, 3) := by decide +kernel
theorem d_Mod_one_51 : decode b_Mod_one 51 = .ok (.aload_n 0, 1) := by decide +kernel
theorem d_Mod_one_52 : decode b_Mod_one 52 = .ok (.getfield 178, 3) := by decide +kernel
theorem d_Mod_one_55 : decode b_Mod_one 55 = .ok (.iload_n 2, 1) := by decide +kernel
theorem d_Mod_one_56 : decode b_Mod_one 56 = .ok (.iastore, 1) := by decide +kernel
theorem d_Mod_one_57 : decode b_Mod_one 57 = .ok (.aload_n 0, 1) := by decide +kernel
theorem d_Mod_one_58 : decode b_Mod_one 58 = .ok (.dup, 1) := by decide +kernel
theorem d_Mod_one_59 : decode b_Mod_one 59 = .ok (.getfield 178, 3) := by decide +kernel
theorem d_Mod_one_62 : decode b_Mod_one 62 = .ok (.iconst 1, 1) := by decide +kernel
theorem d_Mod_one_63 : decode b_Mod_one 63 = .ok (.iadd, 1) := by decide +kernel
theorem d_Mod_one_64 : decode b_Mod_one 64 = .ok (.putfield 178, 3) := by decide +kernel
theorem d_Mod_one_67 : decode b_Mod_one 67 = .ok (.return_, 1) := by decide +kernel
theorem d_Mod_sign_0 : decode b_Mod_sign 0 = .ok (.iload_n 1, 1) := by decide +kernel
theorem d_Mod_sign_1 : decode b_Mod_sign 1 = .ok (.bipush 33, 2) := by decide +kernel
theorem d_Mod_sign_3 : decode b_Mod_sign 3 = .ok (.if_icmp .eq 9, 3) := by decide +kernel
theorem d_Mod_sign_6 : decode b_Mod_sign 6 = .ok (.iload_n 1, 1) := by decide +kernel
theorem d_Mod_sign_7 : decode b_Mod_sign 7 = .ok (.bipush 40, 2) := by decide +kernel
theorem d_Mod_sign_9 : decode b_Mod_sign 9 = .ok (.if_icmp .ne 26, 3) := by decide +kernel
theorem d_Mod_sign_12 : decode b_Mod_sign 12 = .ok (.aload_n 0, 1) := by decide +kernel
theorem d_Mod_sign_13 : decode b_Mod_sign 13 = .ok (.getfield 67, 3) := by decide +kernel
theorem d_Mod_sign_16 : decode b_Mod_sign 16 = .ok (.aload_n 0, 1) := by decide +kernel
theorem d_Mod_sign_17 : decode b_Mod_sign 17 = .ok (.getfield 171, 3) := by decide +kernel
theorem d_Mod_sign_20 : decode b_Mod_sign 20 = .ok (.iload_n 1, 1) := by decide +kernel
theorem d_Mod_sign_21 : decode b_Mod_sign 21 = .ok (.iastore, 1) := by decide +kernel
theorem d_Mod_sign_22 : decode b_Mod_sign 22 = .ok (.aload_n 0, 1) := by decide +kernel
theorem d_Mod_sign_23 : decode b_Mod_sign 23 = .ok (.dup, 1) := by decide +kernel
theorem d_Mod_sign_24 : decode b_Mod_sign 24 = .ok (.getfield 171, 3) := by decide +kernel
theorem d_Mod_sign_27 : decode b_Mod_sign 27 = .ok (.iconst 1, 1) := by decide +kernel
theorem d_Mod_sign_28 : decode b_Mod_sign 28 = .ok (.iadd, 1) := by decide +kernel
theorem d_Mod_sign_29 : decode b_Mod_sign 29 = .ok (.putfield 171, 3) := by decide +kernel
theorem d_Mod_sign_32 : decode b_Mod_sign 32 = .ok (.goto 85, 3) := by decide +kernel
theorem d_Mod_sign_35 : decode b_Mod_sign 35 = .ok (.iload_n 1, 1) := by decide +kernel
theorem d_Mod_sign_36 : decode b_Mod_sign 36 = .ok (.bipush 41, 2) := by decide +kernel
theorem d_Mod_sign_38 : decode b_Mod_sign 38 = .ok (.if_icmp .ne 44, 3) := by decide +kernel
theorem d_Mod_sign_41 : decode b_Mod_sign 41 = .ok (.aload_n 0, 1) := by decide +kernel
theorem d_Mod_sign_42 : decode b_Mod_sign 42 = .ok (.iconst 1, 1) := by decide +kernel
theorem d_Mod_sign_43 : decode b_Mod_sign 43 = .ok (.invokevirtual 181, 3) := by decide +kernel
theorem d_Mod_sign_46 : decode b_Mod_sign 46 = .ok (.aload_n 0, 1) := by decide +kernel
theorem d_Mod_sign_47 : decode b_Mod_sign 47 = .ok (.dup, 1) := by decide +kernel
theorem d_Mod_sign_48 : decode b_Mod_sign 48 = .ok (.getfield 171, 3) := by decide +kernel
theorem d_Mod_sign_51 : decode b_Mod_sign 51 = .ok (.iconst 1, 1) := by decide +kernel
theorem d_Mod_sign_52 : decode b_Mod_sign 52 = .ok (.isub, 1) := by decide +kernel
theorem d_Mod_sign_53 : decode b_Mod_sign 53 = .ok (.putfield 171, 3) := by decide +kernel
theorem d_Mod_sign_56 : decode b_Mod_sign 56 = .ok (.aload_n 0, 1) := by decide +kernel
theorem d_Mod_sign_57 : decode b_Mod_sign 57 = .ok (.dup, 1) := by decide +kernel
theorem d_Mod_sign_58 : decode b_Mod_sign 58 = .ok (.getfield 178, 3) := by decide +kernel
theorem d_Mod_sign_61 : decode b_Mod_sign 61 = .ok (.iconst 1, 1) := by decide +kernel
theorem d_Mod_sign_62 : decode b_Mod_sign 62 = .ok (.isub, 1) := by decide +kernel
theorem d_Mod_sign_63 : decode b_Mod_sign 63 = .ok (.putfield 178, 3) := by decide +kernel
theorem d_Mod_sign_66 : decode b_Mod_sign 66 = .ok (.aload_n 0, 1) := by decide +kernel
theorem d_Mod_sign_67 : decode b_Mod_sign 67 = .ok (.aload_n 0, 1) := by decide +kernel
theorem d_Mod_sign_68 : decode b_Mod_sign 68 = .ok (.getfield 64, 3) := by decide +kernel
theorem d_Mod_sign_71 : decode b_Mod_sign 71 = .ok (.aload_n 0, 1) := by decide +kernel
theorem d_Mod_sign_72 : decode b_Mod_sign 72 = .ok (.getfield 178, 3) := by decide +kernel
theorem d_Mod_sign_75 : decode b_Mod_sign 75 = .ok (.iaload, 1) := by decide +kernel
theorem d_Mod_sign_76 : decode b_Mod_sign 76 = .ok (.invokevirtual 185, 3) := by decide +kernel
theorem d_Mod_sign_79 : decode b_Mod_sign 79 = .ok (.goto 38, 3) := by decide +kernel
theorem d_Mod_sign_82 : decode b_Mod_sign 82 = .ok (.aload_n 0, 1) := by decide +kernel
theorem d_Mod_sign_83 : decode b_Mod_sign 83 = .ok (.iload_n 1, 1) := by decide +kernel
theorem d_Mod_sign_84 : decode b_Mod_sign 84 = .ok (.bipush 124, 2) := by decide +kernel
theorem d_Mod_sign_86 : decode b_Mod_sign 86 = .ok (.if_icmp .ne 7, 3) := by decide +kernel
theorem d_Mod_sign_89 : decode b_Mod_sign 89 = .ok (.iconst 1, 1) := by decide +kernel
theorem d_Mod_sign_90 : decode b_Mod_sign 90 = .ok (.goto 4, 3) := by decide +kernel
theorem d_Mod_sign_93 : decode b_Mod_sign 93 = .ok (.iconst 0, 1) := by decide +kernel
theorem d_Mod_sign_94 : decode b_Mod_sign 94 = .ok (.invokevirtual 181, 3) := by decide +kernel
theorem d_Mod_sign_97 : decode b_Mod_sign 97 = .ok (.aload_n 0, 1) := by decide +kernel
theorem d_Mod_sign_98 : decode b_Mod_sign 98 = .ok (.getfield 67, 3) := by decide +kernel
theorem d_Mod_sign_101 : decode b_Mod_sign 101 = .ok (.aload_n 0, 1) := by decide +kernel
theorem d_Mod_sign_102 : decode b_Mod_sign 102 = .ok (.getfield 171, 3) := by decide +kernel
theorem d_Mod_sign_105 : decode b_Mod_sign 105 = .ok (.iload_n 1, 1) := by decide +kernel
theorem d_Mod_sign_106 : decode b_Mod_sign 106 = .ok (.iastore, 1) := by decide +kernel
theorem d_Mod_sign_107 : decode b_Mod_sign 107 = .ok (.aload_n 0, 1) := by decide +kernel
theorem d_Mod_sign_108 : decode b_Mod_sign 108 = .ok (.dup, 1) := by decide +kernel
theorem d_Mod_sign_109 : decode b_Mod_sign 109 = .ok (.getfield 171, 3) := by decide +kernel
theorem d_Mod_sign_112 : decode b_Mod_sign 112 = .ok (.iconst 1, 1) := by decide +kernel
theorem d_Mod_sign_113 : decode b_Mod_sign 113 = .ok (.iadd, 1) := by decide +kernel
theorem d_Mod_sign_114 : decode b_Mod_sign 114 = .ok (.putfield 171, 3) := by decide +kernel
theorem d_Mod_sign_117 : decode b_Mod_sign 117 = .ok (.return_, 1) := by decide +kernel
theorem d_Mod_size_0 : decode b_Mod_size 0 = .ok (.iconst 0, 1) := by decide +kernel
theorem d_Mod_size_1 : decode b_Mod_size 1 = .ok (.istore_n 1, 1) := by decide +kernel
theorem d_Mod_size_2 : decode b_Mod_size 2 = .ok (.iconst 0, 1) := by decide +kernel
theorem d_Mod_size_3 : decode b_Mod_size 3 = .ok (.istore_n 2, 1) := by decide +kernel
theorem d_Mod_size_4 : decode b_Mod_size 4 = .ok (.iload_n 2, 1) := by decide +kernel
theorem d_Mod_size_5 : decode b_Mod_size 5 = .ok (.bipush 12, 2) := by decide +kernel
theorem d_Mod_size_7 : decode b_Mod_size 7 = .ok (.if_icmp .ge 17, 3) := by decide +kernel
theorem d_Mod_size_10 : decode b_Mod_size 10 = .ok (.iload_n 1, 1) := by decide +kernel
theorem d_Mod_size_11 : decode b_Mod_size 11 = .ok (.iload_n 0, 1) := by decide +kernel
theorem d_Mod_size_12 : decode b_Mod_size 12 = .ok (.iload_n 2, 1) := by decide +kernel
theorem d_Mod_size_13 : decode b_Mod_size 13 = .ok (.ishr, 1) := by decide +kernel
theorem d_Mod_size_14 : decode b_Mod_size 14 = .ok (.iconst 1, 1) := by decide +kernel
theorem d_Mod_size_15 : decode b_Mod_size 15 = .ok (.iand, 1) := by decide +kernel
theorem d_Mod_size_16 : decode b_Mod_size 16 = .ok (.iadd, 1) := by decide +kernel
theorem d_Mod_size_17 : decode b_Mod_size 17 = .ok (.istore_n 1, 1) := by decide +kernel
theorem d_Mod_size_18 : decode b_Mod_size 18 = .ok (.iinc 2 1, 3) := by decide +kernel
theorem d_Mod_size_21 : decode b_Mod_size 21 = .ok (.goto (-17), 3) := by decide +kernel
theorem d_Mod_size_24 : decode b_Mod_size 24 = .ok (.iload_n 1, 1) := by decide +kernel
theorem d_Mod_size_25 : decode b_Mod_size 25 = .ok (.ireturn, 1) := by decide +kernel
theorem d_Mod_withTag_0 : decode b_Mod_withTag 0 = .ok (.iconst 0, 1) := by decide +kernel
theorem d_Mod_withTag_1 : decode b_Mod_withTag 1 = .ok (.istore_n 2, 1) := by decide +kernel
theorem d_Mod_withTag_2 : decode b_Mod_withTag 2 = .ok (.iconst 0, 1) := by decide +kernel
theorem d_Mod_withTag_3 : decode b_Mod_withTag 3 = .ok (.istore_n 3, 1) := by decide +kernel
theorem d_Mod_withTag_4 : decode b_Mod_withTag 4 = .ok (.iload_n 3, 1) := by decide +kernel
theorem d_Mod_withTag_5 : decode b_Mod_withTag 5 = .ok (.bipush 12, 2) := by decide +kernel
theorem d_Mod_withTag_7 : decode b_Mod_withTag 7 = .ok (.if_icmp .ge 38, 3) := by decide +kernel
theorem d_Mod_withTag_10 : decode b_Mod_withTag 10 = .ok (.aload_n 0, 1) := by decide +kernel
theorem d_Mod_withTag_11 : decode b_Mod_withTag 11 = .ok (.getfield 25, 3) := by decide +kernel
theorem d_Mod_withTag_14 : decode b_Mod_withTag 14 = .ok (.iload_n 3, 1) := by decide +kernel
theorem d_Mod_withTag_15 : decode b_Mod_withTag 15 = .ok (.baload, 1) := by decide +kernel
theorem d_Mod_withTag_16 : decode b_Mod_withTag 16 = .ok (.ifCond .eq 23, 3) := by decide +kernel
theorem d_Mod_withTag_19 : decode b_Mod_withTag 19 = .ok (.aload_n 0, 1) := by decide +kernel
theorem d_Mod_withTag_20 : decode b_Mod_withTag 20 = .ok (.getfield 41, 3) := by decide +kernel
theorem d_Mod_withTag_23 : decode b_Mod_withTag 23 = .ok (.iload_n 3, 1) := by decide +kernel
theorem d_Mod_withTag_24 : decode b_Mod_withTag 24 = .ok (.iaload, 1) := by decide +kernel
theorem d_Mod_withTag_25 : decode b_Mod_withTag 25 = .ok (.iload_n 1, 1) := by decide +kernel
theorem d_Mod_withTag_26 : decode b_Mod_withTag 26 = .ok (.ishr, 1) := by decide +kernel
theorem d_Mod_withTag_27 : decode b_Mod_withTag 27 = .ok (.iconst 1, 1) := by decide +kernel
theorem d_Mod_withTag_28 : decode b_Mod_withTag 28 = .ok (.iand, 1) := by decide +kernel
theorem d_Mod_withTag_29 : decode b_Mod_withTag 29 = .ok (.iconst 1, 1) := by decide +kernel
theorem d_Mod_withTag_30 : decode b_Mod_withTag 30 = .ok (.if_icmp .ne 9, 3) := by decide +kernel
theorem d_Mod_withTag_33 : decode b_Mod_withTag 33 = .ok (.iload_n 2, 1) := by decide +kernel
theorem d_Mod_withTag_34 : decode b_Mod_withTag 34 = .ok (.iconst 1, 1) := by decide +kernel
theorem d_Mod_withTag_35 : decode b_Mod_withTag 35 = .ok (.iload_n 3, 1) := by decide +kernel
theorem d_Mod_withTag_36 : decode b_Mod_withTag 36 = .ok (.ishl, 1) := by decide +kernel
theorem d_Mod_withTag_37 : decode b_Mod_withTag 37 = .ok (.ior, 1) := by decide +kernel
theorem d_Mod_withTag_38 : decode b_Mod_withTag 38 = .ok (.istore_n 2, 1) := by decide +kernel
theorem d_Mod_withTag_39 : decode b_Mod_withTag 39 = .ok (.iinc 3 1, 3) := by decide +kernel
theorem d_Mod_withTag_42 : decode b_Mod_withTag 42 = .ok (.goto (-38), 3) := by decide +kernel
theorem d_Mod_withTag_45 : decode b_Mod_withTag 45 = .ok (.iload_n 2, 1) := by decide +kernel
theorem d_Mod_withTag_46 : decode b_Mod_withTag 46 = .ok (.ireturn, 1) := by decide +kernel
theorem d_Mod_lettersOf_0 : decode b_Mod_lettersOf 0 = .ok (.iconst 0, 1) := by decide +kernel
theorem d_Mod_lettersOf_1 : decode b_Mod_lettersOf 1 = .ok (.istore_n 2, 1) := by decide +kernel
theorem d_Mod_lettersOf_2 : decode b_Mod_lettersOf 2 = .ok (.lload_n 0, 1) := by decide +kernel
theorem d_Mod_lettersOf_3 : decode b_Mod_lettersOf 3 = .ok (.lstore_n 3, 1) := by decide +kernel
theorem d_Mod_lettersOf_4 : decode b_Mod_lettersOf 4 = .ok (.lload_n 3, 1) := by decide +kernel
theorem d_Mod_lettersOf_5 : decode b_Mod_lettersOf 5 = .ok (.lconst 0, 1) := by decide +kernel
theorem d_Mod_lettersOf_6 : decode b_Mod_lettersOf 6 = .ok (.lcmp, 1) := by decide +kernel
theorem d_Mod_lettersOf_7 : decode b_Mod_lettersOf 7 = .ok (.ifCond .le 15, 3) := by decide +kernel
theorem d_Mod_lettersOf_10 : decode b_Mod_lettersOf 10 = .ok (.iinc 2 1, 3) := by decide +kernel
theorem d_Mod_lettersOf_13 : decode b_Mod_lettersOf 13 = .ok (.lload_n 3, 1) := by decide +kernel
theorem d_Mod_lettersOf_14 : decode b_Mod_lettersOf 14 = .ok (.ldc2_w 117, 3) := by decide +kernel
theorem d_Mod_lettersOf_17 : decode b_Mod_lettersOf 17 = .ok (.ldiv, 1) := by decide +kernel
theorem d_Mod_lettersOf_18 : decode b_Mod_lettersOf 18 = .ok (.lstore_n 3, 1) := by decide +kernel
theorem d_Mod_lettersOf_19 : decode b_Mod_lettersOf 19 = .ok (.goto (-15), 3) := by decide +kernel
theorem d_Mod_lettersOf_22 : decode b_Mod_lettersOf 22 = .ok (.iload_n 2, 1) := by decide +kernel
theorem d_Mod_lettersOf_23 : decode b_Mod_lettersOf 23 = .ok (.ireturn, 1) := by decide +kernel
theorem d_Mod_begins_0 : decode b_Mod_begins 0 = .ok (.lload_n 0, 1) := by decide +kernel
theorem d_Mod_begins_1 : decode b_Mod_begins 1 = .ok (.invokestatic 163, 3) := by decide +kernel
theorem d_Mod_begins_4 : decode b_Mod_begins 4 = .ok (.lload_n 2, 1) := by decide +kernel
theorem d_Mod_begins_5 : decode b_Mod_begins 5 = .ok (.invokestatic 163, 3) := by decide +kernel
theorem d_Mod_begins_8 : decode b_Mod_begins 8 = .ok (.isub, 1) := by decide +kernel
theorem d_Mod_begins_9 : decode b_Mod_begins 9 = .ok (.istore 4, 2) := by decide +kernel
theorem d_Mod_begins_11 : decode b_Mod_begins 11 = .ok (.lload_n 0, 1) := by decide +kernel
theorem d_Mod_begins_12 : decode b_Mod_begins 12 = .ok (.lstore 5, 2) := by decide +kernel
theorem d_Mod_begins_14 : decode b_Mod_begins 14 = .ok (.iconst 0, 1) := by decide +kernel
theorem d_Mod_begins_15 : decode b_Mod_begins 15 = .ok (.istore 7, 2) := by decide +kernel
theorem d_Mod_begins_17 : decode b_Mod_begins 17 = .ok (.iload 7, 2) := by decide +kernel
theorem d_Mod_begins_19 : decode b_Mod_begins 19 = .ok (.iload 4, 2) := by decide +kernel
theorem d_Mod_begins_21 : decode b_Mod_begins 21 = .ok (.if_icmp .ge 17, 3) := by decide +kernel
theorem d_Mod_begins_24 : decode b_Mod_begins 24 = .ok (.lload 5, 2) := by decide +kernel
theorem d_Mod_begins_26 : decode b_Mod_begins 26 = .ok (.ldc2_w 117, 3) := by decide +kernel
theorem d_Mod_begins_29 : decode b_Mod_begins 29 = .ok (.ldiv, 1) := by decide +kernel
theorem d_Mod_begins_30 : decode b_Mod_begins 30 = .ok (.lstore 5, 2) := by decide +kernel
theorem d_Mod_begins_32 : decode b_Mod_begins 32 = .ok (.iinc 7 1, 3) := by decide +kernel
theorem d_Mod_begins_35 : decode b_Mod_begins 35 = .ok (.goto (-18), 3) := by decide +kernel
theorem d_Mod_begins_38 : decode b_Mod_begins 38 = .ok (.iload 4, 2) := by decide +kernel
theorem d_Mod_begins_40 : decode b_Mod_begins 40 = .ok (.ifCond .lt 14, 3) := by decide +kernel
theorem d_Mod_begins_43 : decode b_Mod_begins 43 = .ok (.lload 5, 2) := by decide +kernel
theorem d_Mod_begins_45 : decode b_Mod_begins 45 = .ok (.lload_n 2, 1) := by decide +kernel
theorem d_Mod_begins_46 : decode b_Mod_begins 46 = .ok (.lcmp, 1) := by decide +kernel
theorem d_Mod_begins_47 : decode b_Mod_begins 47 = .ok (.ifCond .ne 7, 3) := by decide +kernel
theorem d_Mod_begins_50 : decode b_Mod_begins 50 = .ok (.iconst 1, 1) := by decide +kernel
theorem d_Mod_begins_51 : decode b_Mod_begins 51 = .ok (.goto 4, 3) := by decide +kernel
theorem d_Mod_begins_54 : decode b_Mod_begins 54 = .ok (.iconst 0, 1) := by decide +kernel
theorem d_Mod_begins_55 : decode b_Mod_begins 55 = .ok (.ireturn, 1) := by decide +kernel
theorem d_Mod_withWord_0 : decode b_Mod_withWord 0 = .ok (.iconst 0, 1) := by decide +kernel
theorem d_Mod_withWord_1 : decode b_Mod_withWord 1 = .ok (.istore 5, 2) := by decide +kernel
theorem d_Mod_withWord_3 : decode b_Mod_withWord 3 = .ok (.iconst 0, 1) := by decide +kernel
theorem d_Mod_withWord_4 : decode b_Mod_withWord 4 = .ok (.istore 6, 2) := by decide +kernel
theorem d_Mod_withWord_6 : decode b_Mod_withWord 6 = .ok (.iload 6, 2) := by decide +kernel
theorem d_Mod_withWord_8 : decode b_Mod_withWord 8 = .ok (.bipush 12, 2) := by decide +kernel
theorem d_Mod_withWord_10 : decode b_Mod_withWord 10 = .ok (.if_icmp .ge 132, 3) := by decide +kernel
theorem d_Mod_withWord_13 : decode b_Mod_withWord 13 = .ok (.aload_n 0, 1) := by decide +kernel
theorem d_Mod_withWord_14 : decode b_Mod_withWord 14 = .ok (.getfield 25, 3) := by decide +kernel
theorem d_Mod_withWord_17 : decode b_Mod_withWord 17 = .ok (.iload 6, 2) := by decide +kernel
theorem d_Mod_withWord_19 : decode b_Mod_withWord 19 = .ok (.baload, 1) := by decide +kernel
theorem d_Mod_withWord_20 : decode b_Mod_withWord 20 = .ok (.ifCond .ne 6, 3) := by decide +kernel
theorem d_Mod_withWord_23 : decode b_Mod_withWord 23 = .ok (.goto 113, 3) := by decide +kernel
theorem d_Mod_withWord_26 : decode b_Mod_withWord 26 = .ok (.iconst 0, 1) := by decide +kernel
theorem d_Mod_withWord_27 : decode b_Mod_withWord 27 = .ok (.istore 7, 2) := by decide +kernel
theorem d_Mod_withWord_29 : decode b_Mod_withWord 29 = .ok (.iload 7, 2) := by decide +kernel
theorem d_Mod_withWord_31 : decode b_Mod_withWord 31 = .ok (.aload_n 0, 1) := by decide +kernel
theorem d_Mod_withWord_32 : decode b_Mod_withWord 32 = .ok (.getfield 47, 3) := by decide +kernel
theorem d_Mod_withWord_35 : decode b_Mod_withWord 35 = .ok (.iload 6, 2) := by decide +kernel
theorem d_Mod_withWord_37 : decode b_Mod_withWord 37 = .ok (.iaload, 1) := by decide +kernel
theorem d_Mod_withWord_38 : decode b_Mod_withWord 38 = .ok (.if_icmp .ge 98, 3) := by decide +kernel
theorem d_Mod_withWord_41 : decode b_Mod_withWord 41 = .ok (.iload 4, 2) := by decide +kernel
theorem d_Mod_withWord_43 : decode b_Mod_withWord 43 = .ok (.ifCond .lt 21, 3) := by decide +kernel
theorem d_Mod_withWord_46 : decode b_Mod_withWord 46 = .ok (.aload_n 0, 1) := by decide +kernel
theorem d_Mod_withWord_47 : decode b_Mod_withWord 47 = .ok (.getfield 54, 3) := by decide +kernel
theorem d_Mod_withWord_50 : decode b_Mod_withWord 50 = .ok (.bipush 50, 2) := by decide +kernel
theorem d_Mod_withWord_52 : decode b_Mod_withWord 52 = .ok (.iload 6, 2) := by decide +kernel
theorem d_Mod_withWord_54 : decode b_Mod_withWord 54 = .ok (.imul, 1) := by decide +kernel
theorem d_Mod_withWord_55 : decode b_Mod_withWord 55 = .ok (.iload 7, 2) := by decide +kernel
theorem d_Mod_withWord_57 : decode b_Mod_withWord 57 = .ok (.iadd, 1) := by decide +kernel
theorem d_Mod_withWord_58 : decode b_Mod_withWord 58 = .ok (.iaload, 1) := by decide +kernel
theorem d_Mod_withWord_59 : decode b_Mod_withWord 59 = .ok (.iload 4, 2) := by decide +kernel
theorem d_Mod_withWord_61 : decode b_Mod_withWord 61 = .ok (.if_icmp .ne 7, 3) := by decide +kernel
theorem d_Mod_withWord_64 : decode b_Mod_withWord 64 = .ok (.iconst 1, 1) := by decide +kernel
theorem d_Mod_withWord_65 : decode b_Mod_withWord 65 = .ok (.goto 4, 3) := by decide +kernel
theorem d_Mod_withWord_68 : decode b_Mod_withWord 68 = .ok (.iconst 0, 1) := by decide +kernel
theorem d_Mod_withWord_69 : decode b_Mod_withWord 69 = .ok (.istore 8, 2) := by decide +kernel
theorem d_Mod_withWord_71 : decode b_Mod_withWord 71 = .ok (.iload 8, 2) := by decide +kernel
theorem d_Mod_withWord_73 : decode b_Mod_withWord 73 = .ok (.ifCond .eq 57, 3) := by decide +kernel
theorem d_Mod_withWord_76 : decode b_Mod_withWord 76 = .ok (.iload_n 3, 1) := by decide +kernel
theorem d_Mod_withWord_77 : decode b_Mod_withWord 77 = .ok (.ifCond .eq 26, 3) := by decide +kernel
theorem d_Mod_withWord_80 : decode b_Mod_withWord 80 = .ok (.aload_n 0, 1) := by decide +kernel
theorem d_Mod_withWord_81 : decode b_Mod_withWord 81 = .ok (.getfield 50, 3) := by decide +kernel
theorem d_Mod_withWord_84 : decode b_Mod_withWord 84 = .ok (.bipush 50, 2) := by decide +kernel
theorem d_Mod_withWord_86 : decode b_Mod_withWord 86 = .ok (.iload 6, 2) := by decide +kernel
theorem d_Mod_withWord_88 : decode b_Mod_withWord 88 = .ok (.imul, 1) := by decide +kernel
theorem d_Mod_withWord_89 : decode b_Mod_withWord 89 = .ok (.iload 7, 2) := by decide +kernel
theorem d_Mod_withWord_91 : decode b_Mod_withWord 91 = .ok (.iadd, 1) := by decide +kernel
theorem d_Mod_withWord_92 : decode b_Mod_withWord 92 = .ok (.laload, 1) := by decide +kernel
theorem d_Mod_withWord_93 : decode b_Mod_withWord 93 = .ok (.lload_n 1, 1) := by decide +kernel
theorem d_Mod_withWord_94 : decode b_Mod_withWord 94 = .ok (.invokestatic 167, 3) := by decide +kernel
theorem d_Mod_withWord_97 : decode b_Mod_withWord 97 = .ok (.ifCond .eq 33, 3) := by decide +kernel
theorem d_Mod_withWord_100 : decode b_Mod_withWord 100 = .ok (.goto 21, 3) := by decide +kernel
theorem d_Mod_withWord_103 : decode b_Mod_withWord 103 = .ok (.aload_n 0, 1) := by decide +kernel
theorem d_Mod_withWord_104 : decode b_Mod_withWord 104 = .ok (.getfield 50, 3) := by decide +kernel
theorem d_Mod_withWord_107 : decode b_Mod_withWord 107 = .ok (.bipush 50, 2) := by decide +kernel
theorem d_Mod_withWord_109 : decode b_Mod_withWord 109 = .ok (.iload 6, 2) := by decide +kernel
theorem d_Mod_withWord_111 : decode b_Mod_withWord 111 = .ok (.imul, 1) := by decide +kernel
theorem d_Mod_withWord_112 : decode b_Mod_withWord 112 = .ok (.iload 7, 2) := by decide +kernel
theorem d_Mod_withWord_114 : decode b_Mod_withWord 114 = .ok (.iadd, 1) := by decide +kernel
theorem d_Mod_withWord_115 : decode b_Mod_withWord 115 = .ok (.laload, 1) := by decide +kernel
theorem d_Mod_withWord_116 : decode b_Mod_withWord 116 = .ok (.lload_n 1, 1) := by decide +kernel
theorem d_Mod_withWord_117 : decode b_Mod_withWord 117 = .ok (.lcmp, 1) := by decide +kernel
theorem d_Mod_withWord_118 : decode b_Mod_withWord 118 = .ok (.ifCond .ne 12, 3) := by decide +kernel
theorem d_Mod_withWord_121 : decode b_Mod_withWord 121 = .ok (.iload 5, 2) := by decide +kernel
theorem d_Mod_withWord_123 : decode b_Mod_withWord 123 = .ok (.iconst 1, 1) := by decide +kernel
theorem d_Mod_withWord_124 : decode b_Mod_withWord 124 = .ok (.iload 6, 2) := by decide +kernel
theorem d_Mod_withWord_126 : decode b_Mod_withWord 126 = .ok (.ishl, 1) := by decide +kernel
theorem d_Mod_withWord_127 : decode b_Mod_withWord 127 = .ok (.ior, 1) := by decide +kernel
theorem d_Mod_withWord_128 : decode b_Mod_withWord 128 = .ok (.istore 5, 2) := by decide +kernel
theorem d_Mod_withWord_130 : decode b_Mod_withWord 130 = .ok (.iinc 7 1, 3) := by decide +kernel
theorem d_Mod_withWord_133 : decode b_Mod_withWord 133 = .ok (.goto (-104), 3) := by decide +kernel
theorem d_Mod_withWord_136 : decode b_Mod_withWord 136 = .ok (.iinc 6 1, 3) := by decide +kernel
theorem d_Mod_withWord_139 : decode b_Mod_withWord 139 = .ok (.goto (-133), 3) := by decide +kernel
theorem d_Mod_withWord_142 : decode b_Mod_withWord 142 = .ok (.iload 5, 2) := by decide +kernel
theorem d_Mod_withWord_144 : decode b_Mod_withWord 144 = .ok (.ireturn, 1) := by decide +kernel
theorem d_Mod_term_0 : decode b_Mod_term 0 = .ok (.iload_n 1, 1) := by decide +kernel
theorem d_Mod_term_1 : decode b_Mod_term 1 = .ok (.istore_n 3, 1) := by decide +kernel
theorem d_Mod_term_2 : decode b_Mod_term 2 = .ok (.iconst (-1), 1) := by decide +kernel
theorem d_Mod_term_3 : decode b_Mod_term 3 = .ok (.istore 4, 2) := by decide +kernel
theorem d_Mod_term_5 : decode b_Mod_term 5 = .ok (.iload_n 3, 1) := by decide +kernel
theorem d_Mod_term_6 : decode b_Mod_term 6 = .ok (.iconst 1, 1) := by decide +kernel
theorem d_Mod_term_7 : decode b_Mod_term 7 = .ok (.iadd, 1) := by decide +kernel
theorem d_Mod_term_8 : decode b_Mod_term 8 = .ok (.iload_n 2, 1) := by decide +kernel
theorem d_Mod_term_9 : decode b_Mod_term 9 = .ok (.if_icmp .ge 83, 3) := by decide +kernel
theorem d_Mod_term_12 : decode b_Mod_term 12 = .ok (.aload_n 0, 1) := by decide +kernel
theorem d_Mod_term_13 : decode b_Mod_term 13 = .ok (.bipush 30, 2) := by decide +kernel
theorem d_Mod_term_15 : decode b_Mod_term 15 = .ok (.iload_n 3, 1) := by decide +kernel
theorem d_Mod_term_16 : decode b_Mod_term 16 = .ok (.iconst 1, 1) := by decide +kernel
theorem d_Mod_term_17 : decode b_Mod_term 17 = .ok (.iadd, 1) := by decide +kernel
theorem d_Mod_term_18 : decode b_Mod_term 18 = .ok (.invokevirtual 77, 3) := by decide +kernel
theorem d_Mod_term_21 : decode b_Mod_term 21 = .ok (.bipush 58, 2) := by decide +kernel
theorem d_Mod_term_23 : decode b_Mod_term 23 = .ok (.if_icmp .ne 69, 3) := by decide +kernel
theorem d_Mod_term_26 : decode b_Mod_term 26 = .ok (.aload_n 0, 1) := by decide +kernel
theorem d_Mod_term_27 : decode b_Mod_term 27 = .ok (.bipush 30, 2) := by decide +kernel
theorem d_Mod_term_29 : decode b_Mod_term 29 = .ok (.iload_n 3, 1) := by decide +kernel
theorem d_Mod_term_30 : decode b_Mod_term 30 = .ok (.invokevirtual 77, 3) := by decide +kernel
theorem d_Mod_term_33 : decode b_Mod_term 33 = .ok (.istore 5, 2) := by decide +kernel
theorem d_Mod_term_35 : decode b_Mod_term 35 = .ok (.iinc 3 2, 3) := by decide +kernel
theorem d_Mod_term_38 : decode b_Mod_term 38 = .ok (.iload 5, 2) := by decide +kernel
theorem d_Mod_term_40 : decode b_Mod_term 40 = .ok (.bipush 116, 2) := by decide +kernel
theorem d_Mod_term_42 : decode b_Mod_term 42 = .ok (.if_icmp .ne 25, 3) := by decide +kernel
theorem d_Mod_term_45 : decode b_Mod_term 45 = .ok (.aload_n 0, 1) := by decide +kernel
theorem d_Mod_term_46 : decode b_Mod_term 46 = .ok (.aload_n 0, 1) := by decide +kernel
theorem d_Mod_term_47 : decode b_Mod_term 47 = .ok (.aload_n 0, 1) := by decide +kernel
theorem d_Mod_term_48 : decode b_Mod_term 48 = .ok (.bipush 30, 2) := by decide +kernel
theorem d_Mod_term_50 : decode b_Mod_term 50 = .ok (.iload_n 3, 1) := by decide +kernel
theorem d_Mod_term_51 : decode b_Mod_term 51 = .ok (.invokevirtual 77, 3) := by decide +kernel
theorem d_Mod_term_54 : decode b_Mod_term 54 = .ok (.bipush 48, 2) := by decide +kernel
theorem d_Mod_term_56 : decode b_Mod_term 56 = .ok (.isub, 1) := by decide +kernel
theorem d_Mod_term_57 : decode b_Mod_term 57 = .ok (.invokevirtual 188, 3) := by decide +kernel
theorem d_Mod_term_60 : decode b_Mod_term 60 = .ok (.invokevirtual 185, 3) := by decide +kernel
theorem d_Mod_term_63 : decode b_Mod_term 63 = .ok (.iload_n 3, 1) := by decide +kernel
theorem d_Mod_term_64 : decode b_Mod_term 64 = .ok (.iconst 1, 1) := by decide +kernel
theorem d_Mod_term_65 : decode b_Mod_term 65 = .ok (.iadd, 1) := by decide +kernel
theorem d_Mod_term_66 : decode b_Mod_term 66 = .ok (.ireturn, 1) := by decide +kernel
theorem d_Mod_term_67 : decode b_Mod_term 67 = .ok (.iload 5, 2) := by decide +kernel
theorem d_Mod_term_69 : decode b_Mod_term 69 = .ok (.bipush 115, 2) := by decide +kernel
theorem d_Mod_term_71 : decode b_Mod_term 71 = .ok (.if_icmp .ne 7, 3) := by decide +kernel
theorem d_Mod_term_74 : decode b_Mod_term 74 = .ok (.iconst 0, 1) := by decide +kernel
theorem d_Mod_term_75 : decode b_Mod_term 75 = .ok (.goto 15, 3) := by decide +kernel
theorem d_Mod_term_78 : decode b_Mod_term 78 = .ok (.iload 5, 2) := by decide +kernel
theorem d_Mod_term_80 : decode b_Mod_term 80 = .ok (.bipush 102, 2) := by decide +kernel
theorem d_Mod_term_82 : decode b_Mod_term 82 = .ok (.if_icmp .ne 7, 3) := by decide +kernel
theorem d_Mod_term_85 : decode b_Mod_term 85 = .ok (.iconst 1, 1) := by decide +kernel
theorem d_Mod_term_86 : decode b_Mod_term 86 = .ok (.goto 4, 3) := by decide +kernel
theorem d_Mod_term_89 : decode b_Mod_term 89 = .ok (.iconst 2, 1) := by decide +kernel
theorem d_Mod_term_90 : decode b_Mod_term 90 = .ok (.istore 4, 2) := by decide +kernel
theorem d_Mod_term_92 : decode b_Mod_term 92 = .ok (.lconst 0, 1) := by decide +kernel
theorem d_Mod_term_93 : decode b_Mod_term 93 = .ok (.lstore 5, 2) := by decide +kernel
theorem d_Mod_term_95 : decode b_Mod_term 95 = .ok (.iconst 0, 1) := by decide +kernel
theorem d_Mod_term_96 : decode b_Mod_term 96 = .ok (.istore 7, 2) := by decide +kernel
theorem d_Mod_term_98 : decode b_Mod_term 98 = .ok (.iload_n 3, 1) := by decide +kernel
theorem d_Mod_term_99 : decode b_Mod_term 99 = .ok (.iload_n 2, 1) := by decide +kernel
theorem d_Mod_term_100 : decode b_Mod_term 100 = .ok (.if_icmp .ge 55, 3) := by decide +kernel
theorem d_Mod_term_103 : decode b_Mod_term 103 = .ok (.aload_n 0, 1) := by decide +kernel
theorem d_Mod_term_104 : decode b_Mod_term 104 = .ok (.bipush 30, 2) := by decide +kernel
theorem d_Mod_term_106 : decode b_Mod_term 106 = .ok (.iload_n 3, 1) := by decide +kernel
theorem d_Mod_term_107 : decode b_Mod_term 107 = .ok (.invokevirtual 77, 3) := by decide +kernel
theorem d_Mod_term_110 : decode b_Mod_term 110 = .ok (.invokestatic 156, 3) := by decide +kernel
theorem d_Mod_term_113 : decode b_Mod_term 113 = .ok (.ifCond .eq 42, 3) := by decide +kernel
theorem d_Mod_term_116 : decode b_Mod_term 116 = .ok (.iload 7, 2) := by decide +kernel
theorem d_Mod_term_118 : decode b_Mod_term 118 = .ok (.bipush 12, 2) := by decide +kernel
theorem d_Mod_term_120 : decode b_Mod_term 120 = .ok (.if_icmp .ge 26, 3) := by decide +kernel
theorem d_Mod_term_123 : decode b_Mod_term 123 = .ok (.ldc2_w 117, 3) := by decide +kernel
theorem d_Mod_term_126 : decode b_Mod_term 126 = .ok (.lload 5, 2) := by decide +kernel
theorem d_Mod_term_128 : decode b_Mod_term 128 = .ok (.lmul, 1) := by decide +kernel
theorem d_Mod_term_129 : decode b_Mod_term 129 = .ok (.aload_n 0, 1) := by decide +kernel
theorem d_Mod_term_130 : decode b_Mod_term 130 = .ok (.bipush 30, 2) := by decide +kernel
theorem d_Mod_term_132 : decode b_Mod_term 132 = .ok (.iload_n 3, 1) := by decide +kernel
theorem d_Mod_term_133 : decode b_Mod_term 133 = .ok (.invokevirtual 77, 3) := by decide +kernel
theorem d_Mod_term_136 : decode b_Mod_term 136 = .ok (.i2l, 1) := by decide +kernel
theorem d_Mod_term_137 : decode b_Mod_term 137 = .ok (.ladd, 1) := by decide +kernel
theorem d_Mod_term_138 : decode b_Mod_term 138 = .ok (.ldc2_w 191, 3) := by decide +kernel
theorem d_Mod_term_141 : decode b_Mod_term 141 = .ok (.lsub, 1) := by decide +kernel
theorem d_Mod_term_142 : decode b_Mod_term 142 = .ok (.lconst 1, 1) := by decide +kernel
theorem d_Mod_term_143 : decode b_Mod_term 143 = .ok (.ladd, 1) := by decide +kernel
theorem d_Mod_term_144 : decode b_Mod_term 144 = .ok (.lstore 5, 2) := by decide +kernel
theorem d_Mod_term_146 : decode b_Mod_term 146 = .ok (.iinc 7 1, 3) := by decide +kernel
theorem d_Mod_term_149 : decode b_Mod_term 149 = .ok (.iinc 3 1, 3) := by decide +kernel
theorem d_Mod_term_152 : decode b_Mod_term 152 = .ok (.goto (-54), 3) := by decide +kernel
theorem d_Mod_term_155 : decode b_Mod_term 155 = .ok (.iload_n 3, 1) := by decide +kernel
theorem d_Mod_term_156 : decode b_Mod_term 156 = .ok (.iload_n 2, 1) := by decide +kernel
theorem d_Mod_term_157 : decode b_Mod_term 157 = .ok (.if_icmp .ge 19, 3) := by decide +kernel
theorem d_Mod_term_160 : decode b_Mod_term 160 = .ok (.aload_n 0, 1) := by decide +kernel
theorem d_Mod_term_161 : decode b_Mod_term 161 = .ok (.bipush 30, 2) := by decide +kernel
theorem d_Mod_term_163 : decode b_Mod_term 163 = .ok (.iload_n 3, 1) := by decide +kernel
theorem d_Mod_term_164 : decode b_Mod_term 164 = .ok (.invokevirtual 77, 3) := by decide +kernel
theorem d_Mod_term_167 : decode b_Mod_term 167 = .ok (.bipush 42, 2) := by decide +kernel
theorem d_Mod_term_169 : decode b_Mod_term 169 = .ok (.if_icmp .ne 7, 3) := by decide +kernel
theorem d_Mod_term_172 : decode b_Mod_term 172 = .ok (.iconst 1, 1) := by decide +kernel
theorem d_Mod_term_173 : decode b_Mod_term 173 = .ok (.goto 4, 3) := by decide +kernel
theorem d_Mod_term_176 : decode b_Mod_term 176 = .ok (.iconst 0, 1) := by decide +kernel
theorem d_Mod_term_177 : decode b_Mod_term 177 = .ok (.istore 8, 2) := by decide +kernel
theorem d_Mod_term_179 : decode b_Mod_term 179 = .ok (.aload_n 0, 1) := by decide +kernel
theorem d_Mod_term_180 : decode b_Mod_term 180 = .ok (.aload_n 0, 1) := by decide +kernel
theorem d_Mod_term_181 : decode b_Mod_term 181 = .ok (.lload 5, 2) := by decide +kernel
theorem d_Mod_term_183 : decode b_Mod_term 183 = .ok (.iload 8, 2) := by decide +kernel
theorem d_Mod_term_185 : decode b_Mod_term 185 = .ok (.iload 4, 2) := by decide +kernel
theorem d_Mod_term_187 : decode b_Mod_term 187 = .ok (.invokevirtual 193, 3) := by decide +kernel
theorem d_Mod_term_190 : decode b_Mod_term 190 = .ok (.invokevirtual 185, 3) := by decide +kernel
theorem d_Mod_term_193 : decode b_Mod_term 193 = .ok (.iload 8, 2) := by decide +kernel
theorem d_Mod_term_195 : decode b_Mod_term 195 = .ok (.ifCond .eq 9, 3) := by decide +kernel
theorem d_Mod_term_198 : decode b_Mod_term 198 = .ok (.iload_n 3, 1) := by decide +kernel
theorem d_Mod_term_199 : decode b_Mod_term 199 = .ok (.iconst 1, 1) := by decide +kernel
theorem d_Mod_term_200 : decode b_Mod_term 200 = .ok (.iadd, 1) := by decide +kernel
theorem d_Mod_term_201 : decode b_Mod_term 201 = .ok (.goto 4, 3) := by decide +kernel
theorem d_Mod_term_204 : decode b_Mod_term 204 = .ok (.iload_n 3, 1) := by decide +kernel
theorem d_Mod_term_205 : decode b_Mod_term 205 = .ok (.ireturn, 1) := by decide +kernel
theorem d_Mod_search_0 : decode b_Mod_search 0 = .ok (.aload_n 0, 1) := by decide +kernel
theorem d_Mod_search_1 : decode b_Mod_search 1 = .ok (.getfield 13, 3) := by decide +kernel
theorem d_Mod_search_4 : decode b_Mod_search 4 = .ok (.bipush 30, 2) := by decide +kernel
theorem d_Mod_search_6 : decode b_Mod_search 6 = .ok (.iaload, 1) := by decide +kernel
theorem d_Mod_search_7 : decode b_Mod_search 7 = .ok (.istore_n 1, 1) := by decide +kernel
theorem d_Mod_search_8 : decode b_Mod_search 8 = .ok (.aload_n 0, 1) := by decide +kernel
theorem d_Mod_search_9 : decode b_Mod_search 9 = .ok (.getfield 13, 3) := by decide +kernel
theorem d_Mod_search_12 : decode b_Mod_search 12 = .ok (.bipush 30, 2) := by decide +kernel
theorem d_Mod_search_14 : decode b_Mod_search 14 = .ok (.iconst 0, 1) := by decide +kernel
theorem d_Mod_search_15 : decode b_Mod_search 15 = .ok (.iastore, 1) := by decide +kernel
theorem d_Mod_search_16 : decode b_Mod_search 16 = .ok (.aload_n 0, 1) := by decide +kernel
theorem d_Mod_search_17 : decode b_Mod_search 17 = .ok (.iload_n 1, 1) := by decide +kernel
theorem d_Mod_search_18 : decode b_Mod_search 18 = .ok (.invokevirtual 197, 3) := by decide +kernel
theorem d_Mod_search_21 : decode b_Mod_search 21 = .ok (.istore_n 2, 1) := by decide +kernel
theorem d_Mod_search_22 : decode b_Mod_search 22 = .ok (.aload_n 0, 1) := by decide +kernel
theorem d_Mod_search_23 : decode b_Mod_search 23 = .ok (.iload_n 2, 1) := by decide +kernel
theorem d_Mod_search_24 : decode b_Mod_search 24 = .ok (.putfield 60, 3) := by decide +kernel
theorem d_Mod_search_27 : decode b_Mod_search 27 = .ok (.iload_n 2, 1) := by decide +kernel
theorem d_Mod_search_28 : decode b_Mod_search 28 = .ok (.ifCond .lt 6, 3) := by decide +kernel
theorem d_Mod_search_31 : decode b_Mod_search 31 = .ok (.bipush (-3), 2) := by decide +kernel
theorem d_Mod_search_33 : decode b_Mod_search 33 = .ok (.ireturn, 1) := by decide +kernel
theorem d_Mod_search_34 : decode b_Mod_search 34 = .ok (.aload_n 0, 1) := by decide +kernel
theorem d_Mod_search_35 : decode b_Mod_search 35 = .ok (.iconst 0, 1) := by decide +kernel
theorem d_Mod_search_36 : decode b_Mod_search 36 = .ok (.putfield 178, 3) := by decide +kernel
theorem d_Mod_search_39 : decode b_Mod_search 39 = .ok (.aload_n 0, 1) := by decide +kernel
theorem d_Mod_search_40 : decode b_Mod_search 40 = .ok (.iconst 0, 1) := by decide +kernel
theorem d_Mod_search_41 : decode b_Mod_search 41 = .ok (.putfield 171, 3) := by decide +kernel
theorem d_Mod_search_44 : decode b_Mod_search 44 = .ok (.iconst 0, 1) := by decide +kernel
theorem d_Mod_search_45 : decode b_Mod_search 45 = .ok (.istore_n 3, 1) := by decide +kernel
theorem d_Mod_search_46 : decode b_Mod_search 46 = .ok (.iload_n 3, 1) := by decide +kernel
theorem d_Mod_search_47 : decode b_Mod_search 47 = .ok (.iload_n 1, 1) := by decide +kernel
theorem d_Mod_search_48 : decode b_Mod_search 48 = .ok (.if_icmp .ge 43, 3) := by decide +kernel
theorem d_Mod_search_51 : decode b_Mod_search 51 = .ok (.aload_n 0, 1) := by decide +kernel
theorem d_Mod_search_52 : decode b_Mod_search 52 = .ok (.bipush 30, 2) := by decide +kernel
theorem d_Mod_search_54 : decode b_Mod_search 54 = .ok (.iload_n 3, 1) := by decide +kernel
theorem d_Mod_search_55 : decode b_Mod_search 55 = .ok (.invokevirtual 77, 3) := by decide +kernel
theorem d_Mod_search_58 : decode b_Mod_search 58 = .ok (.invokestatic 156, 3) := by decide +kernel
theorem d_Mod_search_61 : decode b_Mod_search 61 = .ok (.ifCond .eq 13, 3) := by decide +kernel
theorem d_Mod_search_64 : decode b_Mod_search 64 = .ok (.aload_n 0, 1) := by decide +kernel
theorem d_Mod_search_65 : decode b_Mod_search 65 = .ok (.iload_n 3, 1) := by decide +kernel
theorem d_Mod_search_66 : decode b_Mod_search 66 = .ok (.iload_n 1, 1) := by decide +kernel
theorem d_Mod_search_67 : decode b_Mod_search 67 = .ok (.invokevirtual 200, 3) := by decide +kernel
theorem d_Mod_search_70 : decode b_Mod_search 70 = .ok (.istore_n 3, 1) := by decide +kernel
theorem d_Mod_search_71 : decode b_Mod_search 71 = .ok (.goto (-25), 3) := by decide +kernel
theorem d_Mod_search_74 : decode b_Mod_search 74 = .ok (.aload_n 0, 1) := by decide +kernel
theorem d_Mod_search_75 : decode b_Mod_search 75 = .ok (.aload_n 0, 1) := by decide +kernel
theorem d_Mod_search_76 : decode b_Mod_search 76 = .ok (.bipush 30, 2) := by decide +kernel
theorem d_Mod_search_78 : decode b_Mod_search 78 = .ok (.iload_n 3, 1) := by decide +kernel
theorem d_Mod_search_79 : decode b_Mod_search 79 = .ok (.invokevirtual 77, 3) := by decide +kernel
theorem d_Mod_search_82 : decode b_Mod_search 82 = .ok (.invokevirtual 203, 3) := by decide +kernel
theorem d_Mod_search_85 : decode b_Mod_search 85 = .ok (.iinc 3 1, 3) := by decide +kernel
theorem d_Mod_search_88 : decode b_Mod_search 88 = .ok (.goto (-42), 3) := by decide +kernel
theorem d_Mod_search_91 : decode b_Mod_search 91 = .ok (.aload_n 0, 1) := by decide +kernel
theorem d_Mod_search_92 : decode b_Mod_search 92 = .ok (.iconst 1, 1) := by decide +kernel
theorem d_Mod_search_93 : decode b_Mod_search 93 = .ok (.invokevirtual 181, 3) := by decide +kernel
theorem d_Mod_search_96 : decode b_Mod_search 96 = .ok (.aload_n 0, 1) := by decide +kernel
theorem d_Mod_search_97 : decode b_Mod_search 97 = .ok (.aload_n 0, 1) := by decide +kernel
theorem d_Mod_search_98 : decode b_Mod_search 98 = .ok (.getfield 64, 3) := by decide +kernel
theorem d_Mod_search_101 : decode b_Mod_search 101 = .ok (.iconst 0, 1) := by decide +kernel
theorem d_Mod_search_102 : decode b_Mod_search 102 = .ok (.iaload, 1) := by decide +kernel
theorem d_Mod_search_103 : decode b_Mod_search 103 = .ok (.putfield 206, 3) := by decide +kernel
theorem d_Mod_search_106 : decode b_Mod_search 106 = .ok (.aload_n 0, 1) := by decide +kernel
theorem d_Mod_search_107 : decode b_Mod_search 107 = .ok (.getfield 206, 3) := by decide +kernel
theorem d_Mod_search_110 : decode b_Mod_search 110 = .ok (.invokestatic 209, 3) := by decide +kernel
theorem d_Mod_search_113 : decode b_Mod_search 113 = .ok (.ireturn, 1) := by decide +kernel
theorem d_Mod_errorAt_0 : decode b_Mod_errorAt 0 = .ok (.aload_n 0, 1) := by decide +kernel
theorem d_Mod_errorAt_1 : decode b_Mod_errorAt 1 = .ok (.getfield 60, 3) := by decide +kernel
theorem d_Mod_errorAt_4 : decode b_Mod_errorAt 4 = .ok (.ireturn, 1) := by decide +kernel
theorem d_Mod_pick_0 : decode b_Mod_pick 0 = .ok (.iconst 0, 1) := by decide +kernel
theorem d_Mod_pick_1 : decode b_Mod_pick 1 = .ok (.istore_n 2, 1) := by decide +kernel
theorem d_Mod_pick_2 : decode b_Mod_pick 2 = .ok (.iconst 0, 1) := by decide +kernel
theorem d_Mod_pick_3 : decode b_Mod_pick 3 = .ok (.istore_n 3, 1) := by decide +kernel
theorem d_Mod_pick_4 : decode b_Mod_pick 4 = .ok (.iload_n 3, 1) := by decide +kernel
theorem d_Mod_pick_5 : decode b_Mod_pick 5 = .ok (.bipush 12, 2) := by decide +kernel
theorem d_Mod_pick_7 : decode b_Mod_pick 7 = .ok (.if_icmp .ge 30, 3) := by decide +kernel
theorem d_Mod_pick_10 : decode b_Mod_pick 10 = .ok (.iload_n 0, 1) := by decide +kernel
theorem d_Mod_pick_11 : decode b_Mod_pick 11 = .ok (.iload_n 3, 1) := by decide +kernel
theorem d_Mod_pick_12 : decode b_Mod_pick 12 = .ok (.ishr, 1) := by decide +kernel
theorem d_Mod_pick_13 : decode b_Mod_pick 13 = .ok (.iconst 1, 1) := by decide +kernel
theorem d_Mod_pick_14 : decode b_Mod_pick 14 = .ok (.iand, 1) := by decide +kernel
theorem d_Mod_pick_15 : decode b_Mod_pick 15 = .ok (.ifCond .ne 6, 3) := by decide +kernel
theorem d_Mod_pick_18 : decode b_Mod_pick 18 = .ok (.goto 13, 3) := by decide +kernel
theorem d_Mod_pick_21 : decode b_Mod_pick 21 = .ok (.iload_n 2, 1) := by decide +kernel
theorem d_Mod_pick_22 : decode b_Mod_pick 22 = .ok (.iload_n 1, 1) := by decide +kernel
theorem d_Mod_pick_23 : decode b_Mod_pick 23 = .ok (.if_icmp .ne 5, 3) := by decide +kernel
theorem d_Mod_pick_26 : decode b_Mod_pick 26 = .ok (.iload_n 3, 1) := by decide +kernel
theorem d_Mod_pick_27 : decode b_Mod_pick 27 = .ok (.ireturn, 1) := by decide +kernel
theorem d_Mod_pick_28 : decode b_Mod_pick 28 = .ok (.iinc 2 1, 3) := by decide +kernel
theorem d_Mod_pick_31 : decode b_Mod_pick 31 = .ok (.iinc 3 1, 3) := by decide +kernel
theorem d_Mod_pick_34 : decode b_Mod_pick 34 = .ok (.goto (-30), 3) := by decide +kernel
theorem d_Mod_pick_37 : decode b_Mod_pick 37 = .ok (.bipush (-4), 2) := by decide +kernel
theorem d_Mod_pick_39 : decode b_Mod_pick 39 = .ok (.ireturn, 1) := by decide +kernel
theorem d_Mod_hit_0 : decode b_Mod_hit 0 = .ok (.aload_n 0, 1) := by decide +kernel
theorem d_Mod_hit_1 : decode b_Mod_hit 1 = .ok (.getfield 206, 3) := by decide +kernel
theorem d_Mod_hit_4 : decode b_Mod_hit 4 = .ok (.iload_n 1, 1) := by decide +kernel
theorem d_Mod_hit_5 : decode b_Mod_hit 5 = .ok (.invokestatic 212, 3) := by decide +kernel
theorem d_Mod_hit_8 : decode b_Mod_hit 8 = .ok (.ireturn, 1) := by decide +kernel
theorem d_Mod_addedAfter_0 : decode b_Mod_addedAfter 0 = .ok (.iconst (-1), 1) := by decide +kernel
theorem d_Mod_addedAfter_1 : decode b_Mod_addedAfter 1 = .ok (.istore_n 2, 1) := by decide +kernel
theorem d_Mod_addedAfter_2 : decode b_Mod_addedAfter 2 = .ok (.iconst 0, 1) := by decide +kernel
theorem d_Mod_addedAfter_3 : decode b_Mod_addedAfter 3 = .ok (.istore_n 3, 1) := by decide +kernel
theorem d_Mod_addedAfter_4 : decode b_Mod_addedAfter 4 = .ok (.iload_n 3, 1) := by decide +kernel
theorem d_Mod_addedAfter_5 : decode b_Mod_addedAfter 5 = .ok (.bipush 12, 2) := by decide +kernel
theorem d_Mod_addedAfter_7 : decode b_Mod_addedAfter 7 = .ok (.if_icmp .ge 49, 3) := by decide +kernel
theorem d_Mod_addedAfter_10 : decode b_Mod_addedAfter 10 = .ok (.aload_n 0, 1) := by decide +kernel
theorem d_Mod_addedAfter_11 : decode b_Mod_addedAfter 11 = .ok (.getfield 25, 3) := by decide +kernel
theorem d_Mod_addedAfter_14 : decode b_Mod_addedAfter 14 = .ok (.iload_n 3, 1) := by decide +kernel
theorem d_Mod_addedAfter_15 : decode b_Mod_addedAfter 15 = .ok (.baload, 1) := by decide +kernel
theorem d_Mod_addedAfter_16 : decode b_Mod_addedAfter 16 = .ok (.ifCond .eq 34, 3) := by decide +kernel
theorem d_Mod_addedAfter_19 : decode b_Mod_addedAfter 19 = .ok (.aload_n 0, 1) := by decide +kernel
theorem d_Mod_addedAfter_20 : decode b_Mod_addedAfter 20 = .ok (.getfield 32, 3) := by decide +kernel
theorem d_Mod_addedAfter_23 : decode b_Mod_addedAfter 23 = .ok (.iload_n 3, 1) := by decide +kernel
theorem d_Mod_addedAfter_24 : decode b_Mod_addedAfter 24 = .ok (.iaload, 1) := by decide +kernel
theorem d_Mod_addedAfter_25 : decode b_Mod_addedAfter 25 = .ok (.iload_n 1, 1) := by decide +kernel
theorem d_Mod_addedAfter_26 : decode b_Mod_addedAfter 26 = .ok (.if_icmp .le 24, 3) := by decide +kernel
theorem d_Mod_addedAfter_29 : decode b_Mod_addedAfter 29 = .ok (.iload_n 2, 1) := by decide +kernel
theorem d_Mod_addedAfter_30 : decode b_Mod_addedAfter 30 = .ok (.ifCond .lt 18, 3) := by decide +kernel
theorem d_Mod_addedAfter_33 : decode b_Mod_addedAfter 33 = .ok (.aload_n 0, 1) := by decide +kernel
theorem d_Mod_addedAfter_34 : decode b_Mod_addedAfter 34 = .ok (.getfield 32, 3) := by decide +kernel
theorem d_Mod_addedAfter_37 : decode b_Mod_addedAfter 37 = .ok (.iload_n 3, 1) := by decide +kernel
theorem d_Mod_addedAfter_38 : decode b_Mod_addedAfter 38 = .ok (.iaload, 1) := by decide +kernel
theorem d_Mod_addedAfter_39 : decode b_Mod_addedAfter 39 = .ok (.aload_n 0, 1) := by decide +kernel
theorem d_Mod_addedAfter_40 : decode b_Mod_addedAfter 40 = .ok (.getfield 32, 3) := by decide +kernel
theorem d_Mod_addedAfter_43 : decode b_Mod_addedAfter 43 = .ok (.iload_n 2, 1) := by decide +kernel
theorem d_Mod_addedAfter_44 : decode b_Mod_addedAfter 44 = .ok (.iaload, 1) := by decide +kernel
theorem d_Mod_addedAfter_45 : decode b_Mod_addedAfter 45 = .ok (.if_icmp .ge 5, 3) := by decide +kernel
theorem d_Mod_addedAfter_48 : decode b_Mod_addedAfter 48 = .ok (.iload_n 3, 1) := by decide +kernel
theorem d_Mod_addedAfter_49 : decode b_Mod_addedAfter 49 = .ok (.istore_n 2, 1) := by decide +kernel
theorem d_Mod_addedAfter_50 : decode b_Mod_addedAfter 50 = .ok (.iinc 3 1, 3) := by decide +kernel
theorem d_Mod_addedAfter_53 : decode b_Mod_addedAfter 53 = .ok (.goto (-49), 3) := by decide +kernel
theorem d_Mod_addedAfter_56 : decode b_Mod_addedAfter 56 = .ok (.iload_n 2, 1) := by decide +kernel
theorem d_Mod_addedAfter_57 : decode b_Mod_addedAfter 57 = .ok (.ireturn, 1) := by decide +kernel
theorem d_Mod_ring_0 : decode b_Mod_ring 0 = .ok (.iload_n 2, 1) := by decide +kernel
theorem d_Mod_ring_1 : decode b_Mod_ring 1 = .ok (.istore_n 3, 1) := by decide +kernel
theorem d_Mod_ring_2 : decode b_Mod_ring 2 = .ok (.iload_n 3, 1) := by decide +kernel
theorem d_Mod_ring_3 : decode b_Mod_ring 3 = .ok (.ifCond .lt 18, 3) := by decide +kernel
theorem d_Mod_ring_6 : decode b_Mod_ring 6 = .ok (.iload_n 3, 1) := by decide +kernel
theorem d_Mod_ring_7 : decode b_Mod_ring 7 = .ok (.iload_n 1, 1) := by decide +kernel
theorem d_Mod_ring_8 : decode b_Mod_ring 8 = .ok (.if_icmp .eq 13, 3) := by decide +kernel
theorem d_Mod_ring_11 : decode b_Mod_ring 11 = .ok (.aload_n 0, 1) := by decide +kernel
theorem d_Mod_ring_12 : decode b_Mod_ring 12 = .ok (.getfield 57, 3) := by decide +kernel
theorem d_Mod_ring_15 : decode b_Mod_ring 15 = .ok (.iload_n 3, 1) := by decide +kernel
theorem d_Mod_ring_16 : decode b_Mod_ring 16 = .ok (.iaload, 1) := by decide +kernel
theorem d_Mod_ring_17 : decode b_Mod_ring 17 = .ok (.istore_n 3, 1) := by decide +kernel
theorem d_Mod_ring_18 : decode b_Mod_ring 18 = .ok (.goto (-16), 3) := by decide +kernel
theorem d_Mod_ring_21 : decode b_Mod_ring 21 = .ok (.iload_n 3, 1) := by decide +kernel
theorem d_Mod_ring_22 : decode b_Mod_ring 22 = .ok (.iload_n 1, 1) := by decide +kernel
theorem d_Mod_ring_23 : decode b_Mod_ring 23 = .ok (.if_icmp .ne 7, 3) := by decide +kernel
theorem d_Mod_ring_26 : decode b_Mod_ring 26 = .ok (.iconst 1, 1) := by decide +kernel
theorem d_Mod_ring_27 : decode b_Mod_ring 27 = .ok (.goto 4, 3) := by decide +kernel
theorem d_Mod_ring_30 : decode b_Mod_ring 30 = .ok (.iconst 0, 1) := by decide +kernel
theorem d_Mod_ring_31 : decode b_Mod_ring 31 = .ok (.ireturn, 1) := by decide +kernel
theorem d_Mod_linkAll_0 : decode b_Mod_linkAll 0 = .ok (.iconst 0, 1) := by decide +kernel
theorem d_Mod_linkAll_1 : decode b_Mod_linkAll 1 = .ok (.istore_n 1, 1) := by decide +kernel
theorem d_Mod_linkAll_2 : decode b_Mod_linkAll 2 = .ok (.iload_n 1, 1) := by decide +kernel
theorem d_Mod_linkAll_3 : decode b_Mod_linkAll 3 = .ok (.bipush 64, 2) := by decide +kernel
theorem d_Mod_linkAll_5 : decode b_Mod_linkAll 5 = .ok (.if_icmp .ge 16, 3) := by decide +kernel
theorem d_Mod_linkAll_8 : decode b_Mod_linkAll 8 = .ok (.aload_n 0, 1) := by decide +kernel
theorem d_Mod_linkAll_9 : decode b_Mod_linkAll 9 = .ok (.getfield 57, 3) := by decide +kernel
theorem d_Mod_linkAll_12 : decode b_Mod_linkAll 12 = .ok (.iload_n 1, 1) := by decide +kernel
theorem d_Mod_linkAll_13 : decode b_Mod_linkAll 13 = .ok (.iconst (-1), 1) := by decide +kernel
theorem d_Mod_linkAll_14 : decode b_Mod_linkAll 14 = .ok (.iastore, 1) := by decide +kernel
theorem d_Mod_linkAll_15 : decode b_Mod_linkAll 15 = .ok (.iinc 1 1, 3) := by decide +kernel
theorem d_Mod_linkAll_18 : decode b_Mod_linkAll 18 = .ok (.goto (-16), 3) := by decide +kernel
theorem d_Mod_linkAll_21 : decode b_Mod_linkAll 21 = .ok (.aload_n 0, 1) := by decide +kernel
theorem d_Mod_linkAll_22 : decode b_Mod_linkAll 22 = .ok (.iconst 0, 1) := by decide +kernel
theorem d_Mod_linkAll_23 : decode b_Mod_linkAll 23 = .ok (.invokevirtual 150, 3) := by decide +kernel
theorem d_Mod_linkAll_26 : decode b_Mod_linkAll 26 = .ok (.istore_n 1, 1) := by decide +kernel
theorem d_Mod_linkAll_27 : decode b_Mod_linkAll 27 = .ok (.iload_n 1, 1) := by decide +kernel
theorem d_Mod_linkAll_28 : decode b_Mod_linkAll 28 = .ok (.ifCond .lt 145, 3) := by decide +kernel
theorem d_Mod_linkAll_31 : decode b_Mod_linkAll 31 = .ok (.aload_n 0, 1) := by decide +kernel
theorem d_Mod_linkAll_32 : decode b_Mod_linkAll 32 = .ok (.getfield 38, 3) := by decide +kernel
theorem d_Mod_linkAll_35 : decode b_Mod_linkAll 35 = .ok (.iload_n 1, 1) := by decide +kernel
theorem d_Mod_linkAll_36 : decode b_Mod_linkAll 36 = .ok (.iaload, 1) := by decide +kernel
theorem d_Mod_linkAll_37 : decode b_Mod_linkAll 37 = .ok (.istore_n 2, 1) := by decide +kernel
theorem d_Mod_linkAll_38 : decode b_Mod_linkAll 38 = .ok (.iconst 1, 1) := by decide +kernel
theorem d_Mod_linkAll_39 : decode b_Mod_linkAll 39 = .ok (.istore_n 3, 1) := by decide +kernel
theorem d_Mod_linkAll_40 : decode b_Mod_linkAll 40 = .ok (.iload_n 3, 1) := by decide +kernel
theorem d_Mod_linkAll_41 : decode b_Mod_linkAll 41 = .ok (.iload_n 2, 1) := by decide +kernel
theorem d_Mod_linkAll_42 : decode b_Mod_linkAll 42 = .ok (.if_icmp .ge 65, 3) := by decide +kernel
theorem d_Mod_linkAll_45 : decode b_Mod_linkAll 45 = .ok (.aload_n 0, 1) := by decide +kernel
theorem d_Mod_linkAll_46 : decode b_Mod_linkAll 46 = .ok (.getfield 35, 3) := by decide +kernel
theorem d_Mod_linkAll_49 : decode b_Mod_linkAll 49 = .ok (.iconst 4, 1) := by decide +kernel
theorem d_Mod_linkAll_50 : decode b_Mod_linkAll 50 = .ok (.iload_n 1, 1) := by decide +kernel
theorem d_Mod_linkAll_51 : decode b_Mod_linkAll 51 = .ok (.imul, 1) := by decide +kernel
theorem d_Mod_linkAll_52 : decode b_Mod_linkAll 52 = .ok (.iload_n 3, 1) := by decide +kernel
theorem d_Mod_linkAll_53 : decode b_Mod_linkAll 53 = .ok (.iadd, 1) := by decide +kernel
theorem d_Mod_linkAll_54 : decode b_Mod_linkAll 54 = .ok (.iaload, 1) := by decide +kernel
theorem d_Mod_linkAll_55 : decode b_Mod_linkAll 55 = .ok (.istore 4, 2) := by decide +kernel
theorem d_Mod_linkAll_57 : decode b_Mod_linkAll 57 = .ok (.aload_n 0, 1) := by decide +kernel
theorem d_Mod_linkAll_58 : decode b_Mod_linkAll 58 = .ok (.getfield 35, 3) := by decide +kernel
theorem d_Mod_linkAll_61 : decode b_Mod_linkAll 61 = .ok (.iconst 4, 1) := by decide +kernel
theorem d_Mod_linkAll_62 : decode b_Mod_linkAll 62 = .ok (.iload_n 1, 1) := by decide +kernel
theorem d_Mod_linkAll_63 : decode b_Mod_linkAll 63 = .ok (.imul, 1) := by decide +kernel
theorem d_Mod_linkAll_64 : decode b_Mod_linkAll 64 = .ok (.iload_n 3, 1) := by decide +kernel
theorem d_Mod_linkAll_65 : decode b_Mod_linkAll 65 = .ok (.iadd, 1) := by decide +kernel
theorem d_Mod_linkAll_66 : decode b_Mod_linkAll 66 = .ok (.iconst 1, 1) := by decide +kernel
theorem d_Mod_linkAll_67 : decode b_Mod_linkAll 67 = .ok (.isub, 1) := by decide +kernel
theorem d_Mod_linkAll_68 : decode b_Mod_linkAll 68 = .ok (.iaload, 1) := by decide +kernel
theorem d_Mod_linkAll_69 : decode b_Mod_linkAll 69 = .ok (.istore 5, 2) := by decide +kernel
theorem d_Mod_linkAll_71 : decode b_Mod_linkAll 71 = .ok (.aload_n 0, 1) := by decide +kernel
theorem d_Mod_linkAll_72 : decode b_Mod_linkAll 72 = .ok (.getfield 57, 3) := by decide +kernel
theorem d_Mod_linkAll_75 : decode b_Mod_linkAll 75 = .ok (.iload 4, 2) := by decide +kernel
theorem d_Mod_linkAll_77 : decode b_Mod_linkAll 77 = .ok (.iaload, 1) := by decide +kernel
theorem d_Mod_linkAll_78 : decode b_Mod_linkAll 78 = .ok (.ifCond .ge 23, 3) := by decide +kernel
theorem d_Mod_linkAll_81 : decode b_Mod_linkAll 81 = .ok (.aload_n 0, 1) := by decide +kernel
theorem d_Mod_linkAll_82 : decode b_Mod_linkAll 82 = .ok (.iload 4, 2) := by decide +kernel
theorem d_Mod_linkAll_84 : decode b_Mod_linkAll 84 = .ok (.iload 5, 2) := by decide +kernel
theorem d_Mod_linkAll_86 : decode b_Mod_linkAll 86 = .ok (.invokevirtual 153, 3) := by decide +kernel
theorem d_Mod_linkAll_89 : decode b_Mod_linkAll 89 = .ok (.ifCond .ne 12, 3) := by decide +kernel
theorem d_Mod_linkAll_92 : decode b_Mod_linkAll 92 = .ok (.aload_n 0, 1) := by decide +kernel
theorem d_Mod_linkAll_93 : decode b_Mod_linkAll 93 = .ok (.getfield 57, 3) := by decide +kernel
theorem d_Mod_linkAll_96 : decode b_Mod_linkAll 96 = .ok (.iload 4, 2) := by decide +kernel
theorem d_Mod_linkAll_98 : decode b_Mod_linkAll 98 = .ok (.iload 5, 2) := by decide +kernel
theorem d_Mod_linkAll_100 : decode b_Mod_linkAll 100 = .ok (.iastore, 1) := by decide +kernel
theorem d_Mod_linkAll_101 : decode b_Mod_linkAll 101 = .ok (.iinc 3 1, 3) := by decide +kernel
theorem d_Mod_linkAll_104 : decode b_Mod_linkAll 104 = .ok (.goto (-64), 3) := by decide +kernel
theorem d_Mod_linkAll_107 : decode b_Mod_linkAll 107 = .ok (.iload_n 2, 1) := by decide +kernel
theorem d_Mod_linkAll_108 : decode b_Mod_linkAll 108 = .ok (.ifCond .le 51, 3) := by decide +kernel
theorem d_Mod_linkAll_111 : decode b_Mod_linkAll 111 = .ok (.aload_n 0, 1) := by decide +kernel
theorem d_Mod_linkAll_112 : decode b_Mod_linkAll 112 = .ok (.aload_n 0, 1) := by decide +kernel
theorem d_Mod_linkAll_113 : decode b_Mod_linkAll 113 = .ok (.getfield 29, 3) := by decide +kernel
theorem d_Mod_linkAll_116 : decode b_Mod_linkAll 116 = .ok (.iload_n 1, 1) := by decide +kernel
theorem d_Mod_linkAll_117 : decode b_Mod_linkAll 117 = .ok (.iaload, 1) := by decide +kernel
theorem d_Mod_linkAll_118 : decode b_Mod_linkAll 118 = .ok (.aload_n 0, 1) := by decide +kernel
theorem d_Mod_linkAll_119 : decode b_Mod_linkAll 119 = .ok (.getfield 35, 3) := by decide +kernel
theorem d_Mod_linkAll_122 : decode b_Mod_linkAll 122 = .ok (.iconst 4, 1) := by decide +kernel
theorem d_Mod_linkAll_123 : decode b_Mod_linkAll 123 = .ok (.iload_n 1, 1) := by decide +kernel
theorem d_Mod_linkAll_124 : decode b_Mod_linkAll 124 = .ok (.imul, 1) := by decide +kernel
theorem d_Mod_linkAll_125 : decode b_Mod_linkAll 125 = .ok (.iload_n 2, 1) := by decide +kernel
theorem d_Mod_linkAll_126 : decode b_Mod_linkAll 126 = .ok (.iadd, 1) := by decide +kernel
theorem d_Mod_linkAll_127 : decode b_Mod_linkAll 127 = .ok (.iconst 1, 1) := by decide +kernel
theorem d_Mod_linkAll_128 : decode b_Mod_linkAll 128 = .ok (.isub, 1) := by decide +kernel
theorem d_Mod_linkAll_129 : decode b_Mod_linkAll 129 = .ok (.iaload, 1) := by decide +kernel
theorem d_Mod_linkAll_130 : decode b_Mod_linkAll 130 = .ok (.invokevirtual 153, 3) := by decide +kernel
theorem d_Mod_linkAll_133 : decode b_Mod_linkAll 133 = .ok (.ifCond .ne 26, 3) := by decide +kernel
theorem d_Mod_linkAll_136 : decode b_Mod_linkAll 136 = .ok (.aload_n 0, 1) := by decide +kernel
theorem d_Mod_linkAll_137 : decode b_Mod_linkAll 137 = .ok (.getfield 57, 3) := by decide +kernel
theorem d_Mod_linkAll_140 : decode b_Mod_linkAll 140 = .ok (.aload_n 0, 1) := by decide +kernel
theorem d_Mod_linkAll_141 : decode b_Mod_linkAll 141 = .ok (.getfield 29, 3) := by decide +kernel
theorem d_Mod_linkAll_144 : decode b_Mod_linkAll 144 = .ok (.iload_n 1, 1) := by decide +kernel
theorem d_Mod_linkAll_145 : decode b_Mod_linkAll 145 = .ok (.iaload, 1) := by decide +kernel
theorem d_Mod_linkAll_146 : decode b_Mod_linkAll 146 = .ok (.aload_n 0, 1) := by decide +kernel
theorem d_Mod_linkAll_147 : decode b_Mod_linkAll 147 = .ok (.getfield 35, 3) := by decide +kernel
theorem d_Mod_linkAll_150 : decode b_Mod_linkAll 150 = .ok (.iconst 4, 1) := by decide +kernel
theorem d_Mod_linkAll_151 : decode b_Mod_linkAll 151 = .ok (.iload_n 1, 1) := by decide +kernel
theorem d_Mod_linkAll_152 : decode b_Mod_linkAll 152 = .ok (.imul, 1) := by decide +kernel
theorem d_Mod_linkAll_153 : decode b_Mod_linkAll 153 = .ok (.iload_n 2, 1) := by decide +kernel
theorem d_Mod_linkAll_154 : decode b_Mod_linkAll 154 = .ok (.iadd, 1) := by decide +kernel
theorem d_Mod_linkAll_155 : decode b_Mod_linkAll 155 = .ok (.iconst 1, 1) := by decide +kernel
theorem d_Mod_linkAll_156 : decode b_Mod_linkAll 156 = .ok (.isub, 1) := by decide +kernel
theorem d_Mod_linkAll_157 : decode b_Mod_linkAll 157 = .ok (.iaload, 1) := by decide +kernel
theorem d_Mod_linkAll_158 : decode b_Mod_linkAll 158 = .ok (.iastore, 1) := by decide +kernel
theorem d_Mod_linkAll_159 : decode b_Mod_linkAll 159 = .ok (.aload_n 0, 1) := by decide +kernel
theorem d_Mod_linkAll_160 : decode b_Mod_linkAll 160 = .ok (.aload_n 0, 1) := by decide +kernel
theorem d_Mod_linkAll_161 : decode b_Mod_linkAll 161 = .ok (.getfield 32, 3) := by decide +kernel
theorem d_Mod_linkAll_164 : decode b_Mod_linkAll 164 = .ok (.iload_n 1, 1) := by decide +kernel
theorem d_Mod_linkAll_165 : decode b_Mod_linkAll 165 = .ok (.iaload, 1) := by decide +kernel
theorem d_Mod_linkAll_166 : decode b_Mod_linkAll 166 = .ok (.invokevirtual 150, 3) := by decide +kernel
theorem d_Mod_linkAll_169 : decode b_Mod_linkAll 169 = .ok (.istore_n 1, 1) := by decide +kernel
theorem d_Mod_linkAll_170 : decode b_Mod_linkAll 170 = .ok (.goto (-143), 3) := by decide +kernel
theorem d_Mod_linkAll_173 : decode b_Mod_linkAll 173 = .ok (.return_, 1) := by decide +kernel
theorem d_Mod_top_0 : decode b_Mod_top 0 = .ok (.iload_n 1, 1) := by decide +kernel
theorem d_Mod_top_1 : decode b_Mod_top 1 = .ok (.istore_n 2, 1) := by decide +kernel
theorem d_Mod_top_2 : decode b_Mod_top 2 = .ok (.aload_n 0, 1) := by decide +kernel
theorem d_Mod_top_3 : decode b_Mod_top 3 = .ok (.getfield 57, 3) := by decide +kernel
theorem d_Mod_top_6 : decode b_Mod_top 6 = .ok (.iload_n 2, 1) := by decide +kernel
theorem d_Mod_top_7 : decode b_Mod_top 7 = .ok (.iaload, 1) := by decide +kernel
theorem d_Mod_top_8 : decode b_Mod_top 8 = .ok (.ifCond .lt 13, 3) := by decide +kernel
theorem d_Mod_top_11 : decode b_Mod_top 11 = .ok (.aload_n 0, 1) := by decide +kernel
theorem d_Mod_top_12 : decode b_Mod_top 12 = .ok (.getfield 57, 3) := by decide +kernel
theorem d_Mod_top_15 : decode b_Mod_top 15 = .ok (.iload_n 2, 1) := by decide +kernel
theorem d_Mod_top_16 : decode b_Mod_top 16 = .ok (.iaload, 1) := by decide +kernel
theorem d_Mod_top_17 : decode b_Mod_top 17 = .ok (.istore_n 2, 1) := by decide +kernel
theorem d_Mod_top_18 : decode b_Mod_top 18 = .ok (.goto (-16), 3) := by decide +kernel
theorem d_Mod_top_21 : decode b_Mod_top 21 = .ok (.iload_n 2, 1) := by decide +kernel
theorem d_Mod_top_22 : decode b_Mod_top 22 = .ok (.ireturn, 1) := by decide +kernel
theorem d_Mod_related_0 : decode b_Mod_related 0 = .ok (.aload_n 0, 1) := by decide +kernel
theorem d_Mod_related_1 : decode b_Mod_related 1 = .ok (.invokevirtual 215, 3) := by decide +kernel
theorem d_Mod_related_4 : decode b_Mod_related 4 = .ok (.iconst 0, 1) := by decide +kernel
theorem d_Mod_related_5 : decode b_Mod_related 5 = .ok (.istore_n 2, 1) := by decide +kernel
theorem d_Mod_related_6 : decode b_Mod_related 6 = .ok (.iconst 0, 1) := by decide +kernel
theorem d_Mod_related_7 : decode b_Mod_related 7 = .ok (.istore_n 3, 1) := by decide +kernel
theorem d_Mod_related_8 : decode b_Mod_related 8 = .ok (.iload_n 3, 1) := by decide +kernel
theorem d_Mod_related_9 : decode b_Mod_related 9 = .ok (.bipush 12, 2) := by decide +kernel
theorem d_Mod_related_11 : decode b_Mod_related 11 = .ok (.if_icmp .ge 90, 3) := by decide +kernel
theorem d_Mod_related_14 : decode b_Mod_related 14 = .ok (.aload_n 0, 1) := by decide +kernel
theorem d_Mod_related_15 : decode b_Mod_related 15 = .ok (.getfield 25, 3) := by decide +kernel
theorem d_Mod_related_18 : decode b_Mod_related 18 = .ok (.iload_n 3, 1) := by decide +kernel
theorem d_Mod_related_19 : decode b_Mod_related 19 = .ok (.baload, 1) := by decide +kernel
theorem d_Mod_related_20 : decode b_Mod_related 20 = .ok (.ifCond .ne 6, 3) := by decide +kernel
theorem d_Mod_related_23 : decode b_Mod_related 23 = .ok (.goto 72, 3) := by decide +kernel
theorem d_Mod_related_26 : decode b_Mod_related 26 = .ok (.iconst 0, 1) := by decide +kernel
theorem d_Mod_related_27 : decode b_Mod_related 27 = .ok (.istore 4, 2) := by decide +kernel
theorem d_Mod_related_29 : decode b_Mod_related 29 = .ok (.iload 4, 2) := by decide +kernel
theorem d_Mod_related_31 : decode b_Mod_related 31 = .ok (.bipush 12, 2) := by decide +kernel
theorem d_Mod_related_33 : decode b_Mod_related 33 = .ok (.if_icmp .ge 62, 3) := by decide +kernel
theorem d_Mod_related_36 : decode b_Mod_related 36 = .ok (.aload_n 0, 1) := by decide +kernel
theorem d_Mod_related_37 : decode b_Mod_related 37 = .ok (.getfield 25, 3) := by decide +kernel
theorem d_Mod_related_40 : decode b_Mod_related 40 = .ok (.iload 4, 2) := by decide +kernel
theorem d_Mod_related_42 : decode b_Mod_related 42 = .ok (.baload, 1) := by decide +kernel
theorem d_Mod_related_43 : decode b_Mod_related 43 = .ok (.ifCond .eq 46, 3) := by decide +kernel
theorem d_Mod_related_46 : decode b_Mod_related 46 = .ok (.aload_n 0, 1) := by decide +kernel
theorem d_Mod_related_47 : decode b_Mod_related 47 = .ok (.getfield 206, 3) := by decide +kernel
theorem d_Mod_related_50 : decode b_Mod_related 50 = .ok (.iload 4, 2) := by decide +kernel
theorem d_Mod_related_52 : decode b_Mod_related 52 = .ok (.ishr, 1) := by decide +kernel
theorem d_Mod_related_53 : decode b_Mod_related 53 = .ok (.iconst 1, 1) := by decide +kernel
theorem d_Mod_related_54 : decode b_Mod_related 54 = .ok (.iand, 1) := by decide +kernel
theorem d_Mod_related_55 : decode b_Mod_related 55 = .ok (.iconst 1, 1) := by decide +kernel
theorem d_Mod_related_56 : decode b_Mod_related 56 = .ok (.if_icmp .ne 33, 3) := by decide +kernel
theorem d_Mod_related_59 : decode b_Mod_related 59 = .ok (.aload_n 0, 1) := by decide +kernel
theorem d_Mod_related_60 : decode b_Mod_related 60 = .ok (.aload_n 0, 1) := by decide +kernel
theorem d_Mod_related_61 : decode b_Mod_related 61 = .ok (.getfield 29, 3) := by decide +kernel
theorem d_Mod_related_64 : decode b_Mod_related 64 = .ok (.iload 4, 2) := by decide +kernel
theorem d_Mod_related_66 : decode b_Mod_related 66 = .ok (.iaload, 1) := by decide +kernel
theorem d_Mod_related_67 : decode b_Mod_related 67 = .ok (.invokevirtual 218, 3) := by decide +kernel
theorem d_Mod_related_70 : decode b_Mod_related 70 = .ok (.aload_n 0, 1) := by decide +kernel
theorem d_Mod_related_71 : decode b_Mod_related 71 = .ok (.aload_n 0, 1) := by decide +kernel
theorem d_Mod_related_72 : decode b_Mod_related 72 = .ok (.getfield 29, 3) := by decide +kernel
theorem d_Mod_related_75 : decode b_Mod_related 75 = .ok (.iload_n 3, 1) := by decide +kernel
theorem d_Mod_related_76 : decode b_Mod_related 76 = .ok (.iaload, 1) := by decide +kernel
theorem d_Mod_related_77 : decode b_Mod_related 77 = .ok (.invokevirtual 218, 3) := by decide +kernel
theorem d_Mod_related_80 : decode b_Mod_related 80 = .ok (.if_icmp .ne 9, 3) := by decide +kernel
theorem d_Mod_related_83 : decode b_Mod_related 83 = .ok (.iload_n 2, 1) := by decide +kernel
theorem d_Mod_related_84 : decode b_Mod_related 84 = .ok (.iconst 1, 1) := by decide +kernel
theorem d_Mod_related_85 : decode b_Mod_related 85 = .ok (.iload_n 3, 1) := by decide +kernel
theorem d_Mod_related_86 : decode b_Mod_related 86 = .ok (.ishl, 1) := by decide +kernel
theorem d_Mod_related_87 : decode b_Mod_related 87 = .ok (.ior, 1) := by decide +kernel
theorem d_Mod_related_88 : decode b_Mod_related 88 = .ok (.istore_n 2, 1) := by decide +kernel
theorem d_Mod_related_89 : decode b_Mod_related 89 = .ok (.iinc 4 1, 3) := by decide +kernel
theorem d_Mod_related_92 : decode b_Mod_related 92 = .ok (.goto (-63), 3) := by decide +kernel
theorem d_Mod_related_95 : decode b_Mod_related 95 = .ok (.iinc 3 1, 3) := by decide +kernel
theorem d_Mod_related_98 : decode b_Mod_related 98 = .ok (.goto (-90), 3) := by decide +kernel
theorem d_Mod_related_101 : decode b_Mod_related 101 = .ok (.iload_n 2, 1) := by decide +kernel
theorem d_Mod_related_102 : decode b_Mod_related 102 = .ok (.iload_n 1, 1) := by decide +kernel
theorem d_Mod_related_103 : decode b_Mod_related 103 = .ok (.invokestatic 212, 3) := by decide +kernel
theorem d_Mod_related_106 : decode b_Mod_related 106 = .ok (.ireturn, 1) := by decide +kernel
theorem d_Mod_idOf_0 : decode b_Mod_idOf 0 = .ok (.aload_n 0, 1) := by decide +kernel
theorem d_Mod_idOf_1 : decode b_Mod_idOf 1 = .ok (.iload_n 1, 1) := by decide +kernel
theorem d_Mod_idOf_2 : decode b_Mod_idOf 2 = .ok (.invokevirtual 146, 3) := by decide +kernel
theorem d_Mod_idOf_5 : decode b_Mod_idOf 5 = .ok (.ifCond .eq 7, 3) := by decide +kernel
theorem d_Mod_idOf_8 : decode b_Mod_idOf 8 = .ok (.iconst (-1), 1) := by decide +kernel
theorem d_Mod_idOf_9 : decode b_Mod_idOf 9 = .ok (.goto 9, 3) := by decide +kernel
theorem d_Mod_idOf_12 : decode b_Mod_idOf 12 = .ok (.aload_n 0, 1) := by decide +kernel
theorem d_Mod_idOf_13 : decode b_Mod_idOf 13 = .ok (.getfield 29, 3) := by decide +kernel
theorem d_Mod_idOf_16 : decode b_Mod_idOf 16 = .ok (.iload_n 1, 1) := by decide +kernel
theorem d_Mod_idOf_17 : decode b_Mod_idOf 17 = .ok (.iaload, 1) := by decide +kernel
theorem d_Mod_idOf_18 : decode b_Mod_idOf 18 = .ok (.ireturn, 1) := by decide +kernel
theorem d_Mod_withId_0 : decode b_Mod_withId 0 = .ok (.iconst 0, 1) := by decide +kernel
theorem d_Mod_withId_1 : decode b_Mod_withId 1 = .ok (.istore_n 2, 1) := by decide +kernel
theorem d_Mod_withId_2 : decode b_Mod_withId 2 = .ok (.iload_n 2, 1) := by decide +kernel
theorem d_Mod_withId_3 : decode b_Mod_withId 3 = .ok (.bipush 12, 2) := by decide +kernel
theorem d_Mod_withId_5 : decode b_Mod_withId 5 = .ok (.if_icmp .ge 30, 3) := by decide +kernel
theorem d_Mod_withId_8 : decode b_Mod_withId 8 = .ok (.aload_n 0, 1) := by decide +kernel
theorem d_Mod_withId_9 : decode b_Mod_withId 9 = .ok (.getfield 25, 3) := by decide +kernel
theorem d_Mod_withId_12 : decode b_Mod_withId 12 = .ok (.iload_n 2, 1) := by decide +kernel
theorem d_Mod_withId_13 : decode b_Mod_withId 13 = .ok (.baload, 1) := by decide +kernel
theorem d_Mod_withId_14 : decode b_Mod_withId 14 = .ok (.ifCond .eq 15, 3) := by decide +kernel
theorem d_Mod_withId_17 : decode b_Mod_withId 17 = .ok (.aload_n 0, 1) := by decide +kernel
theorem d_Mod_withId_18 : decode b_Mod_withId 18 = .ok (.getfield 29, 3) := by decide +kernel
theorem d_Mod_withId_21 : decode b_Mod_withId 21 = .ok (.iload_n 2, 1) := by decide +kernel
theorem d_Mod_withId_22 : decode b_Mod_withId 22 = .ok (.iaload, 1) := by decide +kernel
theorem d_Mod_withId_23 : decode b_Mod_withId 23 = .ok (.iload_n 1, 1) := by decide +kernel
theorem d_Mod_withId_24 : decode b_Mod_withId 24 = .ok (.if_icmp .ne 5, 3) := by decide +kernel
theorem d_Mod_withId_27 : decode b_Mod_withId 27 = .ok (.iload_n 2, 1) := by decide +kernel
theorem d_Mod_withId_28 : decode b_Mod_withId 28 = .ok (.ireturn, 1) := by decide +kernel
theorem d_Mod_withId_29 : decode b_Mod_withId 29 = .ok (.iinc 2 1, 3) := by decide +kernel
theorem d_Mod_withId_32 : decode b_Mod_withId 32 = .ok (.goto (-30), 3) := by decide +kernel
theorem d_Mod_withId_35 : decode b_Mod_withId 35 = .ok (.iconst (-1), 1) := by decide +kernel
theorem d_Mod_withId_36 : decode b_Mod_withId 36 = .ok (.ireturn, 1) := by decide +kernel
theorem d_Mod_answers_0 : decode b_Mod_answers 0 = .ok (.aload_n 0, 1) := by decide +kernel
theorem d_Mod_answers_1 : decode b_Mod_answers 1 = .ok (.iload_n 1, 1) := by decide +kernel
theorem d_Mod_answers_2 : decode b_Mod_answers 2 = .ok (.invokevirtual 146, 3) := by decide +kernel
theorem d_Mod_answers_5 : decode b_Mod_answers 5 = .ok (.ifCond .eq 5, 3) := by decide +kernel
theorem d_Mod_answers_8 : decode b_Mod_answers 8 = .ok (.iconst (-1), 1) := by decide +kernel
theorem d_Mod_answers_9 : decode b_Mod_answers 9 = .ok (.ireturn, 1) := by decide +kernel
theorem d_Mod_answers_10 : decode b_Mod_answers 10 = .ok (.aload_n 0, 1) := by decide +kernel
theorem d_Mod_answers_11 : decode b_Mod_answers 11 = .ok (.invokevirtual 215, 3) := by decide +kernel
theorem d_Mod_answers_14 : decode b_Mod_answers 14 = .ok (.aload_n 0, 1) := by decide +kernel
theorem d_Mod_answers_15 : decode b_Mod_answers 15 = .ok (.getfield 57, 3) := by decide +kernel
theorem d_Mod_answers_18 : decode b_Mod_answers 18 = .ok (.aload_n 0, 1) := by decide +kernel
theorem d_Mod_answers_19 : decode b_Mod_answers 19 = .ok (.getfield 29, 3) := by decide +kernel
theorem d_Mod_answers_22 : decode b_Mod_answers 22 = .ok (.iload_n 1, 1) := by decide +kernel
theorem d_Mod_answers_23 : decode b_Mod_answers 23 = .ok (.iaload, 1) := by decide +kernel
theorem d_Mod_answers_24 : decode b_Mod_answers 24 = .ok (.iaload, 1) := by decide +kernel
theorem d_Mod_answers_25 : decode b_Mod_answers 25 = .ok (.istore_n 2, 1) := by decide +kernel
theorem d_Mod_answers_26 : decode b_Mod_answers 26 = .ok (.iload_n 2, 1) := by decide +kernel
theorem d_Mod_answers_27 : decode b_Mod_answers 27 = .ok (.ifCond .lt 21, 3) := by decide +kernel
theorem d_Mod_answers_30 : decode b_Mod_answers 30 = .ok (.aload_n 0, 1) := by decide +kernel
theorem d_Mod_answers_31 : decode b_Mod_answers 31 = .ok (.iload_n 2, 1) := by decide +kernel
theorem d_Mod_answers_32 : decode b_Mod_answers 32 = .ok (.invokevirtual 221, 3) := by decide +kernel
theorem d_Mod_answers_35 : decode b_Mod_answers 35 = .ok (.ifCond .ge 13, 3) := by decide +kernel
theorem d_Mod_answers_38 : decode b_Mod_answers 38 = .ok (.aload_n 0, 1) := by decide +kernel
theorem d_Mod_answers_39 : decode b_Mod_answers 39 = .ok (.getfield 57, 3) := by decide +kernel
theorem d_Mod_answers_42 : decode b_Mod_answers 42 = .ok (.iload_n 2, 1) := by decide +kernel
theorem d_Mod_answers_43 : decode b_Mod_answers 43 = .ok (.iaload, 1) := by decide +kernel
theorem d_Mod_answers_44 : decode b_Mod_answers 44 = .ok (.istore_n 2, 1) := by decide +kernel
theorem d_Mod_answers_45 : decode b_Mod_answers 45 = .ok (.goto (-19), 3) := by decide +kernel
theorem d_Mod_answers_48 : decode b_Mod_answers 48 = .ok (.iload_n 2, 1) := by decide +kernel
theorem d_Mod_answers_49 : decode b_Mod_answers 49 = .ok (.ifCond .ge 8, 3) := by decide +kernel
theorem d_Mod_answers_52 : decode b_Mod_answers 52 = .ok (.bipush (-4), 2) := by decide +kernel
theorem d_Mod_answers_54 : decode b_Mod_answers 54 = .ok (.goto 8, 3) := by decide +kernel
theorem d_Mod_answers_57 : decode b_Mod_answers 57 = .ok (.aload_n 0, 1) := by decide +kernel
theorem d_Mod_answers_58 : decode b_Mod_answers 58 = .ok (.iload_n 2, 1) := by decide +kernel
theorem d_Mod_answers_59 : decode b_Mod_answers 59 = .ok (.invokevirtual 221, 3) := by decide +kernel
theorem d_Mod_answers_62 : decode b_Mod_answers 62 = .ok (.ireturn, 1) := by decide +kernel
theorem d_Mod_root_0 : decode b_Mod_root 0 = .ok (.iload_n 1, 1) := by decide +kernel
theorem d_Mod_root_1 : decode b_Mod_root 1 = .ok (.bipush 64, 2) := by decide +kernel
theorem d_Mod_root_3 : decode b_Mod_root 3 = .ok (.invokestatic 70, 3) := by decide +kernel
theorem d_Mod_root_6 : decode b_Mod_root 6 = .ok (.ifCond .eq 5, 3) := by decide +kernel
theorem d_Mod_root_9 : decode b_Mod_root 9 = .ok (.iconst (-1), 1) := by decide +kernel
theorem d_Mod_root_10 : decode b_Mod_root 10 = .ok (.ireturn, 1) := by decide +kernel
theorem d_Mod_root_11 : decode b_Mod_root 11 = .ok (.aload_n 0, 1) := by decide +kernel
theorem d_Mod_root_12 : decode b_Mod_root 12 = .ok (.invokevirtual 215, 3) := by decide +kernel
theorem d_Mod_root_15 : decode b_Mod_root 15 = .ok (.aload_n 0, 1) := by decide +kernel
theorem d_Mod_root_16 : decode b_Mod_root 16 = .ok (.iload_n 1, 1) := by decide +kernel
theorem d_Mod_root_17 : decode b_Mod_root 17 = .ok (.invokevirtual 218, 3) := by decide +kernel
theorem d_Mod_root_20 : decode b_Mod_root 20 = .ok (.ireturn, 1) := by decide +kernel
theorem d_Mod_word_0 : decode b_Mod_word 0 = .ok (.aload_n 0, 1) := by decide +kernel
theorem d_Mod_word_1 : decode b_Mod_word 1 = .ok (.iload_n 1, 1) := by decide +kernel
theorem d_Mod_word_2 : decode b_Mod_word 2 = .ok (.invokevirtual 146, 3) := by decide +kernel
theorem d_Mod_word_5 : decode b_Mod_word 5 = .ok (.ifCond .ne 16, 3) := by decide +kernel
theorem d_Mod_word_8 : decode b_Mod_word 8 = .ok (.iload_n 2, 1) := by decide +kernel
theorem d_Mod_word_9 : decode b_Mod_word 9 = .ok (.aload_n 0, 1) := by decide +kernel
theorem d_Mod_word_10 : decode b_Mod_word 10 = .ok (.getfield 47, 3) := by decide +kernel
theorem d_Mod_word_13 : decode b_Mod_word 13 = .ok (.iload_n 1, 1) := by decide +kernel
theorem d_Mod_word_14 : decode b_Mod_word 14 = .ok (.iaload, 1) := by decide +kernel
theorem d_Mod_word_15 : decode b_Mod_word 15 = .ok (.invokestatic 70, 3) := by decide +kernel
theorem d_Mod_word_18 : decode b_Mod_word 18 = .ok (.ifCond .eq 9, 3) := by decide +kernel
theorem d_Mod_word_21 : decode b_Mod_word 21 = .ok (.ldc2_w 224, 3) := by decide +kernel
theorem d_Mod_word_24 : decode b_Mod_word 24 = .ok (.goto 14, 3) := by decide +kernel
theorem d_Mod_word_27 : decode b_Mod_word 27 = .ok (.aload_n 0, 1) := by decide +kernel
theorem d_Mod_word_28 : decode b_Mod_word 28 = .ok (.getfield 50, 3) := by decide +kernel
theorem d_Mod_word_31 : decode b_Mod_word 31 = .ok (.bipush 50, 2) := by decide +kernel
theorem d_Mod_word_33 : decode b_Mod_word 33 = .ok (.iload_n 1, 1) := by decide +kernel
theorem d_Mod_word_34 : decode b_Mod_word 34 = .ok (.imul, 1) := by decide +kernel
theorem d_Mod_word_35 : decode b_Mod_word 35 = .ok (.iload_n 2, 1) := by decide +kernel
theorem d_Mod_word_36 : decode b_Mod_word 36 = .ok (.iadd, 1) := by decide +kernel
theorem d_Mod_word_37 : decode b_Mod_word 37 = .ok (.laload, 1) := by decide +kernel
theorem d_Mod_word_38 : decode b_Mod_word 38 = .ok (.lreturn, 1) := by decide +kernel
theorem d_Mod_field_0 : decode b_Mod_field 0 = .ok (.aload_n 0, 1) := by decide +kernel
theorem d_Mod_field_1 : decode b_Mod_field 1 = .ok (.iload_n 1, 1) := by decide +kernel
theorem d_Mod_field_2 : decode b_Mod_field 2 = .ok (.invokevirtual 146, 3) := by decide +kernel
theorem d_Mod_field_5 : decode b_Mod_field 5 = .ok (.ifCond .ne 16, 3) := by decide +kernel
theorem d_Mod_field_8 : decode b_Mod_field 8 = .ok (.iload_n 2, 1) := by decide +kernel
theorem d_Mod_field_9 : decode b_Mod_field 9 = .ok (.aload_n 0, 1) := by decide +kernel
theorem d_Mod_field_10 : decode b_Mod_field 10 = .ok (.getfield 47, 3) := by decide +kernel
theorem d_Mod_field_13 : decode b_Mod_field 13 = .ok (.iload_n 1, 1) := by decide +kernel
theorem d_Mod_field_14 : decode b_Mod_field 14 = .ok (.iaload, 1) := by decide +kernel
theorem d_Mod_field_15 : decode b_Mod_field 15 = .ok (.invokestatic 70, 3) := by decide +kernel
theorem d_Mod_field_18 : decode b_Mod_field 18 = .ok (.ifCond .eq 7, 3) := by decide +kernel
theorem d_Mod_field_21 : decode b_Mod_field 21 = .ok (.iconst (-1), 1) := by decide +kernel
theorem d_Mod_field_22 : decode b_Mod_field 22 = .ok (.goto 14, 3) := by decide +kernel
theorem d_Mod_field_25 : decode b_Mod_field 25 = .ok (.aload_n 0, 1) := by decide +kernel
theorem d_Mod_field_26 : decode b_Mod_field 26 = .ok (.getfield 54, 3) := by decide +kernel
theorem d_Mod_field_29 : decode b_Mod_field 29 = .ok (.bipush 50, 2) := by decide +kernel
theorem d_Mod_field_31 : decode b_Mod_field 31 = .ok (.iload_n 1, 1) := by decide +kernel
theorem d_Mod_field_32 : decode b_Mod_field 32 = .ok (.imul, 1) := by decide +kernel
theorem d_Mod_field_33 : decode b_Mod_field 33 = .ok (.iload_n 2, 1) := by decide +kernel
theorem d_Mod_field_34 : decode b_Mod_field 34 = .ok (.iadd, 1) := by decide +kernel
theorem d_Mod_field_35 : decode b_Mod_field 35 = .ok (.iaload, 1) := by decide +kernel
theorem d_Mod_field_36 : decode b_Mod_field 36 = .ok (.ireturn, 1) := by decide +kernel
theorem d_Mod_fresh_0 : decode b_Mod_fresh 0 = .ok (.iconst 0, 1) := by decide +kernel
theorem d_Mod_fresh_1 : decode b_Mod_fresh 1 = .ok (.istore_n 3, 1) := by decide +kernel
theorem d_Mod_fresh_2 : decode b_Mod_fresh 2 = .ok (.iload_n 3, 1) := by decide +kernel
theorem d_Mod_fresh_3 : decode b_Mod_fresh 3 = .ok (.bipush 50, 2) := by decide +kernel
theorem d_Mod_fresh_5 : decode b_Mod_fresh 5 = .ok (.iload_n 1, 1) := by decide +kernel
theorem d_Mod_fresh_6 : decode b_Mod_fresh 6 = .ok (.imul, 1) := by decide +kernel
theorem d_Mod_fresh_7 : decode b_Mod_fresh 7 = .ok (.iload_n 2, 1) := by decide +kernel
theorem d_Mod_fresh_8 : decode b_Mod_fresh 8 = .ok (.iadd, 1) := by decide +kernel
theorem d_Mod_fresh_9 : decode b_Mod_fresh 9 = .ok (.if_icmp .ge 60, 3) := by decide +kernel
theorem d_Mod_fresh_12 : decode b_Mod_fresh 12 = .ok (.aload_n 0, 1) := by decide +kernel
theorem d_Mod_fresh_13 : decode b_Mod_fresh 13 = .ok (.getfield 25, 3) := by decide +kernel
theorem d_Mod_fresh_16 : decode b_Mod_fresh 16 = .ok (.iload_n 3, 1) := by decide +kernel
theorem d_Mod_fresh_17 : decode b_Mod_fresh 17 = .ok (.bipush 50, 2) := by decide +kernel
theorem d_Mod_fresh_19 : decode b_Mod_fresh 19 = .ok (.idiv, 1) := by decide +kernel
theorem d_Mod_fresh_20 : decode b_Mod_fresh 20 = .ok (.baload, 1) := by decide +kernel
theorem d_Mod_fresh_21 : decode b_Mod_fresh 21 = .ok (.ifCond .eq 42, 3) := by decide +kernel
theorem d_Mod_fresh_24 : decode b_Mod_fresh 24 = .ok (.iload_n 3, 1) := by decide +kernel
theorem d_Mod_fresh_25 : decode b_Mod_fresh 25 = .ok (.bipush 50, 2) := by decide +kernel
theorem d_Mod_fresh_27 : decode b_Mod_fresh 27 = .ok (.irem, 1) := by decide +kernel
theorem d_Mod_fresh_28 : decode b_Mod_fresh 28 = .ok (.aload_n 0, 1) := by decide +kernel
theorem d_Mod_fresh_29 : decode b_Mod_fresh 29 = .ok (.getfield 47, 3) := by decide +kernel
theorem d_Mod_fresh_32 : decode b_Mod_fresh 32 = .ok (.iload_n 3, 1) := by decide +kernel
theorem d_Mod_fresh_33 : decode b_Mod_fresh 33 = .ok (.bipush 50, 2) := by decide +kernel
theorem d_Mod_fresh_35 : decode b_Mod_fresh 35 = .ok (.idiv, 1) := by decide +kernel
theorem d_Mod_fresh_36 : decode b_Mod_fresh 36 = .ok (.iaload, 1) := by decide +kernel
theorem d_Mod_fresh_37 : decode b_Mod_fresh 37 = .ok (.if_icmp .ge 26, 3) := by decide +kernel
theorem d_Mod_fresh_40 : decode b_Mod_fresh 40 = .ok (.aload_n 0, 1) := by decide +kernel
theorem d_Mod_fresh_41 : decode b_Mod_fresh 41 = .ok (.getfield 50, 3) := by decide +kernel
theorem d_Mod_fresh_44 : decode b_Mod_fresh 44 = .ok (.iload_n 3, 1) := by decide +kernel
theorem d_Mod_fresh_45 : decode b_Mod_fresh 45 = .ok (.laload, 1) := by decide +kernel
theorem d_Mod_fresh_46 : decode b_Mod_fresh 46 = .ok (.aload_n 0, 1) := by decide +kernel
theorem d_Mod_fresh_47 : decode b_Mod_fresh 47 = .ok (.getfield 50, 3) := by decide +kernel
theorem d_Mod_fresh_50 : decode b_Mod_fresh 50 = .ok (.bipush 50, 2) := by decide +kernel
theorem d_Mod_fresh_52 : decode b_Mod_fresh 52 = .ok (.iload_n 1, 1) := by decide +kernel
theorem d_Mod_fresh_53 : decode b_Mod_fresh 53 = .ok (.imul, 1) := by decide +kernel
theorem d_Mod_fresh_54 : decode b_Mod_fresh 54 = .ok (.iload_n 2, 1) := by decide +kernel
theorem d_Mod_fresh_55 : decode b_Mod_fresh 55 = .ok (.iadd, 1) := by decide +kernel
theorem d_Mod_fresh_56 : decode b_Mod_fresh 56 = .ok (.laload, 1) := by decide +kernel
theorem d_Mod_fresh_57 : decode b_Mod_fresh 57 = .ok (.lcmp, 1) := by decide +kernel
theorem d_Mod_fresh_58 : decode b_Mod_fresh 58 = .ok (.ifCond .ne 5, 3) := by decide +kernel
theorem d_Mod_fresh_61 : decode b_Mod_fresh 61 = .ok (.iconst 0, 1) := by decide +kernel
theorem d_Mod_fresh_62 : decode b_Mod_fresh 62 = .ok (.ireturn, 1) := by decide +kernel
theorem d_Mod_fresh_63 : decode b_Mod_fresh 63 = .ok (.iinc 3 1, 3) := by decide +kernel
theorem d_Mod_fresh_66 : decode b_Mod_fresh 66 = .ok (.goto (-64), 3) := by decide +kernel
theorem d_Mod_fresh_69 : decode b_Mod_fresh 69 = .ok (.iconst 1, 1) := by decide +kernel
theorem d_Mod_fresh_70 : decode b_Mod_fresh 70 = .ok (.ireturn, 1) := by decide +kernel
theorem d_Mod_different_0 : decode b_Mod_different 0 = .ok (.iconst 0, 1) := by decide +kernel
theorem d_Mod_different_1 : decode b_Mod_different 1 = .ok (.istore_n 1, 1) := by decide +kernel
theorem d_Mod_different_2 : decode b_Mod_different 2 = .ok (.iconst 0, 1) := by decide +kernel
theorem d_Mod_different_3 : decode b_Mod_different 3 = .ok (.istore_n 2, 1) := by decide +kernel
theorem d_Mod_different_4 : decode b_Mod_different 4 = .ok (.iload_n 2, 1) := by decide +kernel
theorem d_Mod_different_5 : decode b_Mod_different 5 = .ok (.bipush 12, 2) := by decide +kernel
theorem d_Mod_different_7 : decode b_Mod_different 7 = .ok (.if_icmp .ge 51, 3) := by decide +kernel
theorem d_Mod_different_10 : decode b_Mod_different 10 = .ok (.aload_n 0, 1) := by decide +kernel
theorem d_Mod_different_11 : decode b_Mod_different 11 = .ok (.getfield 25, 3) := by decide +kernel
theorem d_Mod_different_14 : decode b_Mod_different 14 = .ok (.iload_n 2, 1) := by decide +kernel
theorem d_Mod_different_15 : decode b_Mod_different 15 = .ok (.baload, 1) := by decide +kernel
theorem d_Mod_different_16 : decode b_Mod_different 16 = .ok (.ifCond .ne 6, 3) := by decide +kernel
theorem d_Mod_different_19 : decode b_Mod_different 19 = .ok (.goto 33, 3) := by decide +kernel
theorem d_Mod_different_22 : decode b_Mod_different 22 = .ok (.iconst 0, 1) := by decide +kernel
theorem d_Mod_different_23 : decode b_Mod_different 23 = .ok (.istore_n 3, 1) := by decide +kernel
theorem d_Mod_different_24 : decode b_Mod_different 24 = .ok (.iload_n 3, 1) := by decide +kernel
theorem d_Mod_different_25 : decode b_Mod_different 25 = .ok (.aload_n 0, 1) := by decide +kernel
theorem d_Mod_different_26 : decode b_Mod_different 26 = .ok (.getfield 47, 3) := by decide +kernel
theorem d_Mod_different_29 : decode b_Mod_different 29 = .ok (.iload_n 2, 1) := by decide +kernel
theorem d_Mod_different_30 : decode b_Mod_different 30 = .ok (.iaload, 1) := by decide +kernel
theorem d_Mod_different_31 : decode b_Mod_different 31 = .ok (.if_icmp .ge 21, 3) := by decide +kernel
theorem d_Mod_different_34 : decode b_Mod_different 34 = .ok (.aload_n 0, 1) := by decide +kernel
theorem d_Mod_different_35 : decode b_Mod_different 35 = .ok (.iload_n 2, 1) := by decide +kernel
theorem d_Mod_different_36 : decode b_Mod_different 36 = .ok (.iload_n 3, 1) := by decide +kernel
theorem d_Mod_different_37 : decode b_Mod_different 37 = .ok (.invokevirtual 226, 3) := by decide +kernel
theorem d_Mod_different_40 : decode b_Mod_different 40 = .ok (.ifCond .eq 6, 3) := by decide +kernel
theorem d_Mod_different_43 : decode b_Mod_different 43 = .ok (.iinc 1 1, 3) := by decide +kernel
theorem d_Mod_different_46 : decode b_Mod_different 46 = .ok (.iinc 3 1, 3) := by decide +kernel
theorem d_Mod_different_49 : decode b_Mod_different 49 = .ok (.goto (-25), 3) := by decide +kernel
theorem d_Mod_different_52 : decode b_Mod_different 52 = .ok (.iinc 2 1, 3) := by decide +kernel
theorem d_Mod_different_55 : decode b_Mod_different 55 = .ok (.goto (-51), 3) := by decide +kernel
theorem d_Mod_different_58 : decode b_Mod_different 58 = .ok (.iload_n 1, 1) := by decide +kernel
theorem d_Mod_different_59 : decode b_Mod_different 59 = .ok (.ireturn, 1) := by decide +kernel
theorem d_Mod_roots_0 : decode b_Mod_roots 0 = .ok (.aload_n 0, 1) := by decide +kernel
theorem d_Mod_roots_1 : decode b_Mod_roots 1 = .ok (.invokevirtual 215, 3) := by decide +kernel
theorem d_Mod_roots_4 : decode b_Mod_roots 4 = .ok (.iconst 0, 1) := by decide +kernel
theorem d_Mod_roots_5 : decode b_Mod_roots 5 = .ok (.istore_n 1, 1) := by decide +kernel
theorem d_Mod_roots_6 : decode b_Mod_roots 6 = .ok (.iconst 0, 1) := by decide +kernel
theorem d_Mod_roots_7 : decode b_Mod_roots 7 = .ok (.istore_n 2, 1) := by decide +kernel
theorem d_Mod_roots_8 : decode b_Mod_roots 8 = .ok (.iload_n 2, 1) := by decide +kernel
theorem d_Mod_roots_9 : decode b_Mod_roots 9 = .ok (.bipush 64, 2) := by decide +kernel
theorem d_Mod_roots_11 : decode b_Mod_roots 11 = .ok (.if_icmp .ge 61, 3) := by decide +kernel
theorem d_Mod_roots_14 : decode b_Mod_roots 14 = .ok (.iconst 0, 1) := by decide +kernel
theorem d_Mod_roots_15 : decode b_Mod_roots 15 = .ok (.istore_n 3, 1) := by decide +kernel
theorem d_Mod_roots_16 : decode b_Mod_roots 16 = .ok (.iconst 0, 1) := by decide +kernel
theorem d_Mod_roots_17 : decode b_Mod_roots 17 = .ok (.istore 4, 2) := by decide +kernel
theorem d_Mod_roots_19 : decode b_Mod_roots 19 = .ok (.iload 4, 2) := by decide +kernel
theorem d_Mod_roots_21 : decode b_Mod_roots 21 = .ok (.bipush 12, 2) := by decide +kernel
theorem d_Mod_roots_23 : decode b_Mod_roots 23 = .ok (.if_icmp .ge 36, 3) := by decide +kernel
theorem d_Mod_roots_26 : decode b_Mod_roots 26 = .ok (.aload_n 0, 1) := by decide +kernel
theorem d_Mod_roots_27 : decode b_Mod_roots 27 = .ok (.getfield 25, 3) := by decide +kernel
theorem d_Mod_roots_30 : decode b_Mod_roots 30 = .ok (.iload 4, 2) := by decide +kernel
theorem d_Mod_roots_32 : decode b_Mod_roots 32 = .ok (.baload, 1) := by decide +kernel
theorem d_Mod_roots_33 : decode b_Mod_roots 33 = .ok (.ifCond .eq 20, 3) := by decide +kernel
theorem d_Mod_roots_36 : decode b_Mod_roots 36 = .ok (.aload_n 0, 1) := by decide +kernel
theorem d_Mod_roots_37 : decode b_Mod_roots 37 = .ok (.aload_n 0, 1) := by decide +kernel
theorem d_Mod_roots_38 : decode b_Mod_roots 38 = .ok (.getfield 29, 3) := by decide +kernel
theorem d_Mod_roots_41 : decode b_Mod_roots 41 = .ok (.iload 4, 2) := by decide +kernel
theorem d_Mod_roots_43 : decode b_Mod_roots 43 = .ok (.iaload, 1) := by decide +kernel
theorem d_Mod_roots_44 : decode b_Mod_roots 44 = .ok (.invokevirtual 218, 3) := by decide +kernel
theorem d_Mod_roots_47 : decode b_Mod_roots 47 = .ok (.iload_n 2, 1) := by decide +kernel
theorem d_Mod_roots_48 : decode b_Mod_roots 48 = .ok (.if_icmp .ne 5, 3) := by decide +kernel
theorem d_Mod_roots_51 : decode b_Mod_roots 51 = .ok (.iconst 1, 1) := by decide +kernel
theorem d_Mod_roots_52 : decode b_Mod_roots 52 = .ok (.istore_n 3, 1) := by decide +kernel
theorem d_Mod_roots_53 : decode b_Mod_roots 53 = .ok (.iinc 4 1, 3) := by decide +kernel
theorem d_Mod_roots_56 : decode b_Mod_roots 56 = .ok (.goto (-37), 3) := by decide +kernel
theorem d_Mod_roots_59 : decode b_Mod_roots 59 = .ok (.iload_n 3, 1) := by decide +kernel
theorem d_Mod_roots_60 : decode b_Mod_roots 60 = .ok (.ifCond .eq 6, 3) := by decide +kernel
theorem d_Mod_roots_63 : decode b_Mod_roots 63 = .ok (.iinc 1 1, 3) := by decide +kernel
theorem d_Mod_roots_66 : decode b_Mod_roots 66 = .ok (.iinc 2 1, 3) := by decide +kernel
theorem d_Mod_roots_69 : decode b_Mod_roots 69 = .ok (.goto (-61), 3) := by decide +kernel
theorem d_Mod_roots_72 : decode b_Mod_roots 72 = .ok (.iload_n 1, 1) := by decide +kernel
theorem d_Mod_roots_73 : decode b_Mod_roots 73 = .ok (.ireturn, 1) := by decide +kernel
theorem d_Mod_count_0 : decode b_Mod_count 0 = .ok (.iload_n 1, 1) := by decide +kernel
theorem d_Mod_count_1 : decode b_Mod_count 1 = .ok (.tableswitch 78 0 5 #[39, 47, 55, 60, 68, 73], 39) := by decide +kernel
theorem d_Mod_count_40 : decode b_Mod_count 40 = .ok (.aload_n 0, 1) := by decide +kernel
theorem d_Mod_count_41 : decode b_Mod_count 41 = .ok (.invokevirtual 174, 3) := by decide +kernel
theorem d_Mod_count_44 : decode b_Mod_count 44 = .ok (.invokestatic 209, 3) := by decide +kernel
theorem d_Mod_count_47 : decode b_Mod_count 47 = .ok (.ireturn, 1) := by decide +kernel
theorem d_Mod_count_48 : decode b_Mod_count 48 = .ok (.aload_n 0, 1) := by decide +kernel
theorem d_Mod_count_49 : decode b_Mod_count 49 = .ok (.getfield 13, 3) := by decide +kernel
theorem d_Mod_count_52 : decode b_Mod_count 52 = .ok (.bipush 30, 2) := by decide +kernel
theorem d_Mod_count_54 : decode b_Mod_count 54 = .ok (.iaload, 1) := by decide +kernel
theorem d_Mod_count_55 : decode b_Mod_count 55 = .ok (.ireturn, 1) := by decide +kernel
theorem d_Mod_count_56 : decode b_Mod_count 56 = .ok (.aload_n 0, 1) := by decide +kernel
theorem d_Mod_count_57 : decode b_Mod_count 57 = .ok (.getfield 74, 3) := by decide +kernel
theorem d_Mod_count_60 : decode b_Mod_count 60 = .ok (.ireturn, 1) := by decide +kernel
theorem d_Mod_count_61 : decode b_Mod_count 61 = .ok (.aload_n 0, 1) := by decide +kernel
theorem d_Mod_count_62 : decode b_Mod_count 62 = .ok (.getfield 206, 3) := by decide +kernel
theorem d_Mod_count_65 : decode b_Mod_count 65 = .ok (.invokestatic 209, 3) := by decide +kernel
theorem d_Mod_count_68 : decode b_Mod_count 68 = .ok (.ireturn, 1) := by decide +kernel
theorem d_Mod_count_69 : decode b_Mod_count 69 = .ok (.aload_n 0, 1) := by decide +kernel
theorem d_Mod_count_70 : decode b_Mod_count 70 = .ok (.invokevirtual 229, 3) := by decide +kernel
theorem d_Mod_count_73 : decode b_Mod_count 73 = .ok (.ireturn, 1) := by decide +kernel
theorem d_Mod_count_74 : decode b_Mod_count 74 = .ok (.aload_n 0, 1) := by decide +kernel
theorem d_Mod_count_75 : decode b_Mod_count 75 = .ok (.invokevirtual 232, 3) := by decide +kernel
theorem d_Mod_count_78 : decode b_Mod_count 78 = .ok (.ireturn, 1) := by decide +kernel
theorem d_Mod_count_79 : decode b_Mod_count 79 = .ok (.iload_n 1, 1) := by decide +kernel
theorem d_Mod_count_80 : decode b_Mod_count 80 = .ok (.bipush 6, 2) := by decide +kernel
theorem d_Mod_count_82 : decode b_Mod_count 82 = .ok (.if_icmp .lt 14, 3) := by decide +kernel
theorem d_Mod_count_85 : decode b_Mod_count 85 = .ok (.aload_n 0, 1) := by decide +kernel
theorem d_Mod_count_86 : decode b_Mod_count 86 = .ok (.iload_n 1, 1) := by decide +kernel
theorem d_Mod_count_87 : decode b_Mod_count 87 = .ok (.bipush 6, 2) := by decide +kernel
theorem d_Mod_count_89 : decode b_Mod_count 89 = .ok (.isub, 1) := by decide +kernel
theorem d_Mod_count_90 : decode b_Mod_count 90 = .ok (.invokevirtual 146, 3) := by decide +kernel
theorem d_Mod_count_93 : decode b_Mod_count 93 = .ok (.ifCond .eq 7, 3) := by decide +kernel
theorem d_Mod_count_96 : decode b_Mod_count 96 = .ok (.iconst (-1), 1) := by decide +kernel
theorem d_Mod_count_97 : decode b_Mod_count 97 = .ok (.goto 12, 3) := by decide +kernel
theorem d_Mod_count_100 : decode b_Mod_count 100 = .ok (.aload_n 0, 1) := by decide +kernel
theorem d_Mod_count_101 : decode b_Mod_count 101 = .ok (.getfield 44, 3) := by decide +kernel
theorem d_Mod_count_104 : decode b_Mod_count 104 = .ok (.iload_n 1, 1) := by decide +kernel
theorem d_Mod_count_105 : decode b_Mod_count 105 = .ok (.bipush 6, 2) := by decide +kernel
theorem d_Mod_count_107 : decode b_Mod_count 107 = .ok (.isub, 1) := by decide +kernel
theorem d_Mod_count_108 : decode b_Mod_count 108 = .ok (.iaload, 1) := by decide +kernel
theorem d_Mod_count_109 : decode b_Mod_count 109 = .ok (.ireturn, 1) := by decide +kernel
