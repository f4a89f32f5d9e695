theorem d_Line_init_0 : decode b_Line_init 0 = .ok (.aload_n 0, 1) := by decide +kernel
theorem d_Line_init_1 : decode b_Line_init 1 = .ok (.invokespecial 3, 3) := by decide +kernel
theorem d_Line_init_4 : decode b_Line_init 4 = .ok (.aload_n 0, 1) := by decide +kernel
theorem d_Line_init_5 : decode b_Line_init 5 = .ok (.bipush 40, 2) := by decide +kernel
theorem d_Line_init_7 : decode b_Line_init 7 = .ok (.newarray .char, 2) := by decide +kernel
theorem d_Line_init_9 : decode b_Line_init 9 = .ok (.putfield 9, 3) := by decide +kernel
theorem d_Line_init_12 : decode b_Line_init 12 = .ok (.aload_n 0, 1) := by decide +kernel
theorem d_Line_init_13 : decode b_Line_init 13 = .ok (.iconst 0, 1) := by decide +kernel
theorem d_Line_init_14 : decode b_Line_init 14 = .ok (.putfield 15, 3) := by decide +kernel
theorem d_Line_init_17 : decode b_Line_init 17 = .ok (.return_, 1) := by decide +kernel
theorem d_Draft_init_0 : decode b_Draft_init 0 = .ok (.aload_n 0, 1) := by decide +kernel
theorem d_Draft_init_1 : decode b_Draft_init 1 = .ok (.invokespecial 3, 3) := by decide +kernel
theorem d_Draft_init_4 : decode b_Draft_init 4 = .ok (.aload_n 0, 1) := by decide +kernel
theorem d_Draft_init_5 : decode b_Draft_init 5 = .ok (.bipush 30, 2) := by decide +kernel
theorem d_Draft_init_7 : decode b_Draft_init 7 = .ok (.anewarray 9, 3) := by decide +kernel
theorem d_Draft_init_10 : decode b_Draft_init 10 = .ok (.putfield 11, 3) := by decide +kernel
theorem d_Draft_init_13 : decode b_Draft_init 13 = .ok (.aload_n 0, 1) := by decide +kernel
theorem d_Draft_init_14 : decode b_Draft_init 14 = .ok (.iconst 0, 1) := by decide +kernel
theorem d_Draft_init_15 : decode b_Draft_init 15 = .ok (.putfield 17, 3) := by decide +kernel
theorem d_Draft_init_18 : decode b_Draft_init 18 = .ok (.iconst 0, 1) := by decide +kernel
theorem d_Draft_init_19 : decode b_Draft_init 19 = .ok (.istore_n 1, 1) := by decide +kernel
theorem d_Draft_init_20 : decode b_Draft_init 20 = .ok (.iload_n 1, 1) := by decide +kernel
theorem d_Draft_init_21 : decode b_Draft_init 21 = .ok (.bipush 30, 2) := by decide +kernel
theorem d_Draft_init_23 : decode b_Draft_init 23 = .ok (.if_icmp .ge 22, 3) := by decide +kernel
theorem d_Draft_init_26 : decode b_Draft_init 26 = .ok (.aload_n 0, 1) := by decide +kernel
theorem d_Draft_init_27 : decode b_Draft_init 27 = .ok (.getfield 11, 3) := by decide +kernel
theorem d_Draft_init_30 : decode b_Draft_init 30 = .ok (.iload_n 1, 1) := by decide +kernel
theorem d_Draft_init_31 : decode b_Draft_init 31 = .ok (.new 9, 3) := by decide +kernel
theorem d_Draft_init_34 : decode b_Draft_init 34 = .ok (.dup, 1) := by decide +kernel
theorem d_Draft_init_35 : decode b_Draft_init 35 = .ok (.invokespecial 21, 3) := by decide +kernel
theorem d_Draft_init_38 : decode b_Draft_init 38 = .ok (.aastore, 1) := by decide +kernel
theorem d_Draft_init_39 : decode b_Draft_init 39 = .ok (.iinc 1 1, 3) := by decide +kernel
theorem d_Draft_init_42 : decode b_Draft_init 42 = .ok (.goto (-22), 3) := by decide +kernel
theorem d_Draft_init_45 : decode b_Draft_init 45 = .ok (.return_, 1) := by decide +kernel
theorem d_Message_init_0 : decode b_Message_init 0 = .ok (.aload_n 0, 1) := by decide +kernel
theorem d_Message_init_1 : decode b_Message_init 1 = .ok (.invokespecial 3, 3) := by decide +kernel
theorem d_Message_init_4 : decode b_Message_init 4 = .ok (.aload_n 0, 1) := by decide +kernel
theorem d_Message_init_5 : decode b_Message_init 5 = .ok (.iconst 4, 1) := by decide +kernel
theorem d_Message_init_6 : decode b_Message_init 6 = .ok (.newarray .int, 2) := by decide +kernel
theorem d_Message_init_8 : decode b_Message_init 8 = .ok (.putfield 9, 3) := by decide +kernel
theorem d_Message_init_11 : decode b_Message_init 11 = .ok (.aload_n 0, 1) := by decide +kernel
theorem d_Message_init_12 : decode b_Message_init 12 = .ok (.bipush 50, 2) := by decide +kernel
theorem d_Message_init_14 : decode b_Message_init 14 = .ok (.newarray .long, 2) := by decide +kernel
theorem d_Message_init_16 : decode b_Message_init 16 = .ok (.putfield 15, 3) := by decide +kernel
theorem d_Message_init_19 : decode b_Message_init 19 = .ok (.aload_n 0, 1) := by decide +kernel
theorem d_Message_init_20 : decode b_Message_init 20 = .ok (.bipush 50, 2) := by decide +kernel
theorem d_Message_init_22 : decode b_Message_init 22 = .ok (.newarray .int, 2) := by decide +kernel
theorem d_Message_init_24 : decode b_Message_init 24 = .ok (.putfield 19, 3) := by decide +kernel
theorem d_Message_init_27 : decode b_Message_init 27 = .ok (.aload_n 0, 1) := by decide +kernel
theorem d_Message_init_28 : decode b_Message_init 28 = .ok (.iconst 0, 1) := by decide +kernel
theorem d_Message_init_29 : decode b_Message_init 29 = .ok (.putfield 22, 3) := by decide +kernel
theorem d_Message_init_32 : decode b_Message_init 32 = .ok (.aload_n 0, 1) := by decide +kernel
theorem d_Message_init_33 : decode b_Message_init 33 = .ok (.iconst 0, 1) := by decide +kernel
theorem d_Message_init_34 : decode b_Message_init 34 = .ok (.putfield 26, 3) := by decide +kernel
theorem d_Message_init_37 : decode b_Message_init 37 = .ok (.aload_n 0, 1) := by decide +kernel
theorem d_Message_init_38 : decode b_Message_init 38 = .ok (.iconst 0, 1) := by decide +kernel
theorem d_Message_init_39 : decode b_Message_init 39 = .ok (.putfield 30, 3) := by decide +kernel
theorem d_Message_init_42 : decode b_Message_init 42 = .ok (.aload_n 0, 1) := by decide +kernel
theorem d_Message_init_43 : decode b_Message_init 43 = .ok (.iconst 0, 1) := by decide +kernel
theorem d_Message_init_44 : decode b_Message_init 44 = .ok (.putfield 33, 3) := by decide +kernel
theorem d_Message_init_47 : decode b_Message_init 47 = .ok (.aload_n 0, 1) := by decide +kernel
theorem d_Message_init_48 : decode b_Message_init 48 = .ok (.iconst 0, 1) := by decide +kernel
theorem d_Message_init_49 : decode b_Message_init 49 = .ok (.putfield 36, 3) := by decide +kernel
theorem d_Message_init_52 : decode b_Message_init 52 = .ok (.aload_n 0, 1) := by decide +kernel
theorem d_Message_init_53 : decode b_Message_init 53 = .ok (.iconst 0, 1) := by decide +kernel
theorem d_Message_init_54 : decode b_Message_init 54 = .ok (.putfield 39, 3) := by decide +kernel
theorem d_Message_init_57 : decode b_Message_init 57 = .ok (.return_, 1) := by decide +kernel
theorem d_Letters_init_0 : decode b_Letters_init 0 = .ok (.aload_n 0, 1) := by decide +kernel
theorem d_Letters_init_1 : decode b_Letters_init 1 = .ok (.invokespecial 3, 3) := by decide +kernel
theorem d_Letters_init_4 : decode b_Letters_init 4 = .ok (.aload_n 0, 1) := by decide +kernel
theorem d_Letters_init_5 : decode b_Letters_init 5 = .ok (.lconst 0, 1) := by decide +kernel
theorem d_Letters_init_6 : decode b_Letters_init 6 = .ok (.putfield 9, 3) := by decide +kernel
theorem d_Letters_init_9 : decode b_Letters_init 9 = .ok (.aload_n 0, 1) := by decide +kernel
theorem d_Letters_init_10 : decode b_Letters_init 10 = .ok (.iconst 0, 1) := by decide +kernel
theorem d_Letters_init_11 : decode b_Letters_init 11 = .ok (.putfield 15, 3) := by decide +kernel
theorem d_Letters_init_14 : decode b_Letters_init 14 = .ok (.return_, 1) := by decide +kernel
theorem d_Reader_init_0 : decode b_Reader_init 0 = .ok (.aload_n 0, 1) := by decide +kernel
theorem d_Reader_init_1 : decode b_Reader_init 1 = .ok (.invokespecial 3, 3) := by decide +kernel
theorem d_Reader_init_4 : decode b_Reader_init 4 = .ok (.aload_n 0, 1) := by decide +kernel
theorem d_Reader_init_5 : decode b_Reader_init 5 = .ok (.new 9, 3) := by decide +kernel
theorem d_Reader_init_8 : decode b_Reader_init 8 = .ok (.dup, 1) := by decide +kernel
theorem d_Reader_init_9 : decode b_Reader_init 9 = .ok (.invokespecial 11, 3) := by decide +kernel
theorem d_Reader_init_12 : decode b_Reader_init 12 = .ok (.putfield 12, 3) := by decide +kernel
theorem d_Reader_init_15 : decode b_Reader_init 15 = .ok (.aload_n 0, 1) := by decide +kernel
theorem d_Reader_init_16 : decode b_Reader_init 16 = .ok (.new 18, 3) := by decide +kernel
theorem d_Reader_init_19 : decode b_Reader_init 19 = .ok (.dup, 1) := by decide +kernel
theorem d_Reader_init_20 : decode b_Reader_init 20 = .ok (.invokespecial 20, 3) := by decide +kernel
theorem d_Reader_init_23 : decode b_Reader_init 23 = .ok (.putfield 21, 3) := by decide +kernel
theorem d_Reader_init_26 : decode b_Reader_init 26 = .ok (.return_, 1) := by decide +kernel
theorem d_Query_init_0 : decode b_Query_init 0 = .ok (.aload_n 0, 1) := by decide +kernel
theorem d_Query_init_1 : decode b_Query_init 1 = .ok (.invokespecial 3, 3) := by decide +kernel
theorem d_Query_init_4 : decode b_Query_init 4 = .ok (.aload_n 0, 1) := by decide +kernel
theorem d_Query_init_5 : decode b_Query_init 5 = .ok (.bipush 7, 2) := by decide +kernel
theorem d_Query_init_7 : decode b_Query_init 7 = .ok (.newarray .int, 2) := by decide +kernel
theorem d_Query_init_9 : decode b_Query_init 9 = .ok (.putfield 11, 3) := by decide +kernel
theorem d_Query_init_12 : decode b_Query_init 12 = .ok (.aload_n 0, 1) := by decide +kernel
theorem d_Query_init_13 : decode b_Query_init 13 = .ok (.bipush 7, 2) := by decide +kernel
theorem d_Query_init_15 : decode b_Query_init 15 = .ok (.newarray .int, 2) := by decide +kernel
theorem d_Query_init_17 : decode b_Query_init 17 = .ok (.putfield 15, 3) := by decide +kernel
theorem d_Query_init_20 : decode b_Query_init 20 = .ok (.aload_n 0, 1) := by decide +kernel
theorem d_Query_init_21 : decode b_Query_init 21 = .ok (.bipush 7, 2) := by decide +kernel
theorem d_Query_init_23 : decode b_Query_init 23 = .ok (.newarray .boolean, 2) := by decide +kernel
theorem d_Query_init_25 : decode b_Query_init 25 = .ok (.putfield 18, 3) := by decide +kernel
theorem d_Query_init_28 : decode b_Query_init 28 = .ok (.aload_n 0, 1) := by decide +kernel
theorem d_Query_init_29 : decode b_Query_init 29 = .ok (.new 22, 3) := by decide +kernel
theorem d_Query_init_32 : decode b_Query_init 32 = .ok (.dup, 1) := by decide +kernel
theorem d_Query_init_33 : decode b_Query_init 33 = .ok (.invokespecial 24, 3) := by decide +kernel
theorem d_Query_init_36 : decode b_Query_init 36 = .ok (.putfield 25, 3) := by decide +kernel
theorem d_Query_init_39 : decode b_Query_init 39 = .ok (.aload_n 0, 1) := by decide +kernel
theorem d_Query_init_40 : decode b_Query_init 40 = .ok (.iconst 0, 1) := by decide +kernel
theorem d_Query_init_41 : decode b_Query_init 41 = .ok (.putfield 29, 3) := by decide +kernel
theorem d_Query_init_44 : decode b_Query_init 44 = .ok (.aload_n 0, 1) := by decide +kernel
theorem d_Query_init_45 : decode b_Query_init 45 = .ok (.iconst 0, 1) := by decide +kernel
theorem d_Query_init_46 : decode b_Query_init 46 = .ok (.putfield 33, 3) := by decide +kernel
theorem d_Query_init_49 : decode b_Query_init 49 = .ok (.aload_n 0, 1) := by decide +kernel
theorem d_Query_init_50 : decode b_Query_init 50 = .ok (.iconst (-1), 1) := by decide +kernel
theorem d_Query_init_51 : decode b_Query_init 51 = .ok (.putfield 36, 3) := by decide +kernel
theorem d_Query_init_54 : decode b_Query_init 54 = .ok (.return_, 1) := by decide +kernel
theorem d_Threads_clear_0 : decode b_Threads_clear 0 = .ok (.iconst 0, 1) := by decide +kernel
theorem d_Threads_clear_1 : decode b_Threads_clear 1 = .ok (.istore_n 1, 1) := by decide +kernel
theorem d_Threads_clear_2 : decode b_Threads_clear 2 = .ok (.iload_n 1, 1) := by decide +kernel
theorem d_Threads_clear_3 : decode b_Threads_clear 3 = .ok (.bipush 64, 2) := by decide +kernel
theorem d_Threads_clear_5 : decode b_Threads_clear 5 = .ok (.if_icmp .ge 16, 3) := by decide +kernel
theorem d_Threads_clear_8 : decode b_Threads_clear 8 = .ok (.aload_n 0, 1) := by decide +kernel
theorem d_Threads_clear_9 : decode b_Threads_clear 9 = .ok (.getfield 9, 3) := by decide +kernel
theorem d_Threads_clear_12 : decode b_Threads_clear 12 = .ok (.iload_n 1, 1) := by decide +kernel
theorem d_Threads_clear_13 : decode b_Threads_clear 13 = .ok (.iconst (-1), 1) := by decide +kernel
theorem d_Threads_clear_14 : decode b_Threads_clear 14 = .ok (.iastore, 1) := by decide +kernel
theorem d_Threads_clear_15 : decode b_Threads_clear 15 = .ok (.iinc 1 1, 3) := by decide +kernel
theorem d_Threads_clear_18 : decode b_Threads_clear 18 = .ok (.goto (-16), 3) := by decide +kernel
theorem d_Threads_clear_21 : decode b_Threads_clear 21 = .ok (.return_, 1) := by decide +kernel
theorem d_Threads_init_0 : decode b_Threads_init 0 = .ok (.aload_n 0, 1) := by decide +kernel
theorem d_Threads_init_1 : decode b_Threads_init 1 = .ok (.invokespecial 3, 3) := by decide +kernel
theorem d_Threads_init_4 : decode b_Threads_init 4 = .ok (.aload_n 0, 1) := by decide +kernel
theorem d_Threads_init_5 : decode b_Threads_init 5 = .ok (.bipush 64, 2) := by decide +kernel
theorem d_Threads_init_7 : decode b_Threads_init 7 = .ok (.newarray .int, 2) := by decide +kernel
theorem d_Threads_init_9 : decode b_Threads_init 9 = .ok (.putfield 9, 3) := by decide +kernel
theorem d_Threads_init_12 : decode b_Threads_init 12 = .ok (.aload_n 0, 1) := by decide +kernel
theorem d_Threads_init_13 : decode b_Threads_init 13 = .ok (.invokevirtual 15, 3) := by decide +kernel
theorem d_Threads_init_16 : decode b_Threads_init 16 = .ok (.return_, 1) := by decide +kernel
theorem d_Line_put_0 : decode b_Line_put 0 = .ok (.aload_n 0, 1) := by decide +kernel
theorem d_Line_put_1 : decode b_Line_put 1 = .ok (.getfield 15, 3) := by decide +kernel
theorem d_Line_put_4 : decode b_Line_put 4 = .ok (.bipush 40, 2) := by decide +kernel
theorem d_Line_put_6 : decode b_Line_put 6 = .ok (.if_icmp .lt 5, 3) := by decide +kernel
theorem d_Line_put_9 : decode b_Line_put 9 = .ok (.iconst 0, 1) := by decide +kernel
theorem d_Line_put_10 : decode b_Line_put 10 = .ok (.ireturn, 1) := by decide +kernel
theorem d_Line_put_11 : decode b_Line_put 11 = .ok (.aload_n 0, 1) := by decide +kernel
theorem d_Line_put_12 : decode b_Line_put 12 = .ok (.getfield 9, 3) := by decide +kernel
theorem d_Line_put_15 : decode b_Line_put 15 = .ok (.aload_n 0, 1) := by decide +kernel
theorem d_Line_put_16 : decode b_Line_put 16 = .ok (.getfield 15, 3) := by decide +kernel
theorem d_Line_put_19 : decode b_Line_put 19 = .ok (.iload_n 1, 1) := by decide +kernel
theorem d_Line_put_20 : decode b_Line_put 20 = .ok (.castore, 1) := by decide +kernel
theorem d_Line_put_21 : decode b_Line_put 21 = .ok (.aload_n 0, 1) := by decide +kernel
theorem d_Line_put_22 : decode b_Line_put 22 = .ok (.dup, 1) := by decide +kernel
theorem d_Line_put_23 : decode b_Line_put 23 = .ok (.getfield 15, 3) := by decide +kernel
theorem d_Line_put_26 : decode b_Line_put 26 = .ok (.iconst 1, 1) := by decide +kernel
theorem d_Line_put_27 : decode b_Line_put 27 = .ok (.iadd, 1) := by decide +kernel
theorem d_Line_put_28 : decode b_Line_put 28 = .ok (.putfield 15, 3) := by decide +kernel
theorem d_Line_put_31 : decode b_Line_put 31 = .ok (.iconst 1, 1) := by decide +kernel
theorem d_Line_put_32 : decode b_Line_put 32 = .ok (.ireturn, 1) := by decide +kernel
theorem d_Line_copyFrom_0 : decode b_Line_copyFrom 0 = .ok (.aload_n 1, 1) := by decide +kernel
theorem d_Line_copyFrom_1 : decode b_Line_copyFrom 1 = .ok (.getfield 9, 3) := by decide +kernel
theorem d_Line_copyFrom_4 : decode b_Line_copyFrom 4 = .ok (.iconst 0, 1) := by decide +kernel
theorem d_Line_copyFrom_5 : decode b_Line_copyFrom 5 = .ok (.aload_n 0, 1) := by decide +kernel
theorem d_Line_copyFrom_6 : decode b_Line_copyFrom 6 = .ok (.getfield 9, 3) := by decide +kernel
theorem d_Line_copyFrom_9 : decode b_Line_copyFrom 9 = .ok (.iconst 0, 1) := by decide +kernel
theorem d_Line_copyFrom_10 : decode b_Line_copyFrom 10 = .ok (.bipush 40, 2) := by decide +kernel
theorem d_Line_copyFrom_12 : decode b_Line_copyFrom 12 = .ok (.invokestatic 19, 3) := by decide +kernel
theorem d_Line_copyFrom_15 : decode b_Line_copyFrom 15 = .ok (.aload_n 0, 1) := by decide +kernel
theorem d_Line_copyFrom_16 : decode b_Line_copyFrom 16 = .ok (.aload_n 1, 1) := by decide +kernel
theorem d_Line_copyFrom_17 : decode b_Line_copyFrom 17 = .ok (.getfield 15, 3) := by decide +kernel
theorem d_Line_copyFrom_20 : decode b_Line_copyFrom 20 = .ok (.putfield 15, 3) := by decide +kernel
theorem d_Line_copyFrom_23 : decode b_Line_copyFrom 23 = .ok (.return_, 1) := by decide +kernel
theorem d_Draft_take_0 : decode b_Draft_take 0 = .ok (.aload_n 0, 1) := by decide +kernel
theorem d_Draft_take_1 : decode b_Draft_take 1 = .ok (.getfield 17, 3) := by decide +kernel
theorem d_Draft_take_4 : decode b_Draft_take 4 = .ok (.bipush 30, 2) := by decide +kernel
theorem d_Draft_take_6 : decode b_Draft_take 6 = .ok (.if_icmp .lt 5, 3) := by decide +kernel
theorem d_Draft_take_9 : decode b_Draft_take 9 = .ok (.iconst 0, 1) := by decide +kernel
theorem d_Draft_take_10 : decode b_Draft_take 10 = .ok (.ireturn, 1) := by decide +kernel
theorem d_Draft_take_11 : decode b_Draft_take 11 = .ok (.aload_n 0, 1) := by decide +kernel
theorem d_Draft_take_12 : decode b_Draft_take 12 = .ok (.getfield 11, 3) := by decide +kernel
theorem d_Draft_take_15 : decode b_Draft_take 15 = .ok (.aload_n 0, 1) := by decide +kernel
theorem d_Draft_take_16 : decode b_Draft_take 16 = .ok (.getfield 17, 3) := by decide +kernel
theorem d_Draft_take_19 : decode b_Draft_take 19 = .ok (.aaload, 1) := by decide +kernel
theorem d_Draft_take_20 : decode b_Draft_take 20 = .ok (.aload_n 1, 1) := by decide +kernel
theorem d_Draft_take_21 : decode b_Draft_take 21 = .ok (.invokevirtual 22, 3) := by decide +kernel
theorem d_Draft_take_24 : decode b_Draft_take 24 = .ok (.aload_n 0, 1) := by decide +kernel
theorem d_Draft_take_25 : decode b_Draft_take 25 = .ok (.dup, 1) := by decide +kernel
theorem d_Draft_take_26 : decode b_Draft_take 26 = .ok (.getfield 17, 3) := by decide +kernel
theorem d_Draft_take_29 : decode b_Draft_take 29 = .ok (.iconst 1, 1) := by decide +kernel
theorem d_Draft_take_30 : decode b_Draft_take 30 = .ok (.iadd, 1) := by decide +kernel
theorem d_Draft_take_31 : decode b_Draft_take 31 = .ok (.putfield 17, 3) := by decide +kernel
theorem d_Draft_take_34 : decode b_Draft_take 34 = .ok (.iconst 1, 1) := by decide +kernel
theorem d_Draft_take_35 : decode b_Draft_take 35 = .ok (.ireturn, 1) := by decide +kernel
theorem d_Line_clear_0 : decode b_Line_clear 0 = .ok (.aload_n 0, 1) := by decide +kernel
theorem d_Line_clear_1 : decode b_Line_clear 1 = .ok (.iconst 0, 1) := by decide +kernel
theorem d_Line_clear_2 : decode b_Line_clear 2 = .ok (.putfield 15, 3) := by decide +kernel
theorem d_Line_clear_5 : decode b_Line_clear 5 = .ok (.return_, 1) := by decide +kernel
theorem d_Draft_clear_0 : decode b_Draft_clear 0 = .ok (.aload_n 0, 1) := by decide +kernel
theorem d_Draft_clear_1 : decode b_Draft_clear 1 = .ok (.iconst 0, 1) := by decide +kernel
theorem d_Draft_clear_2 : decode b_Draft_clear 2 = .ok (.putfield 17, 3) := by decide +kernel
theorem d_Draft_clear_5 : decode b_Draft_clear 5 = .ok (.return_, 1) := by decide +kernel
theorem d_Draft_headersEnd_0 : decode b_Draft_headersEnd 0 = .ok (.iload_n 1, 1) := by decide +kernel
theorem d_Draft_headersEnd_1 : decode b_Draft_headersEnd 1 = .ok (.istore_n 3, 1) := by decide +kernel
theorem d_Draft_headersEnd_2 : decode b_Draft_headersEnd 2 = .ok (.iload_n 3, 1) := by decide +kernel
theorem d_Draft_headersEnd_3 : decode b_Draft_headersEnd 3 = .ok (.iload_n 2, 1) := by decide +kernel
theorem d_Draft_headersEnd_4 : decode b_Draft_headersEnd 4 = .ok (.if_icmp .ge 23, 3) := by decide +kernel
theorem d_Draft_headersEnd_7 : decode b_Draft_headersEnd 7 = .ok (.aload_n 0, 1) := by decide +kernel
theorem d_Draft_headersEnd_8 : decode b_Draft_headersEnd 8 = .ok (.getfield 11, 3) := by decide +kernel
theorem d_Draft_headersEnd_11 : decode b_Draft_headersEnd 11 = .ok (.iload_n 3, 1) := by decide +kernel
theorem d_Draft_headersEnd_12 : decode b_Draft_headersEnd 12 = .ok (.aaload, 1) := by decide +kernel
theorem d_Draft_headersEnd_13 : decode b_Draft_headersEnd 13 = .ok (.getfield 26, 3) := by decide +kernel
theorem d_Draft_headersEnd_16 : decode b_Draft_headersEnd 16 = .ok (.ifCond .ne 5, 3) := by decide +kernel
theorem d_Draft_headersEnd_19 : decode b_Draft_headersEnd 19 = .ok (.iload_n 3, 1) := by decide +kernel
theorem d_Draft_headersEnd_20 : decode b_Draft_headersEnd 20 = .ok (.ireturn, 1) := by decide +kernel
theorem d_Draft_headersEnd_21 : decode b_Draft_headersEnd 21 = .ok (.iinc 3 1, 3) := by decide +kernel
theorem d_Draft_headersEnd_24 : decode b_Draft_headersEnd 24 = .ok (.goto (-22), 3) := by decide +kernel
theorem d_Draft_headersEnd_27 : decode b_Draft_headersEnd 27 = .ok (.iload_n 2, 1) := by decide +kernel
theorem d_Draft_headersEnd_28 : decode b_Draft_headersEnd 28 = .ok (.ireturn, 1) := by decide +kernel
theorem d_Line_at_0 : decode b_Line_at 0 = .ok (.iload_n 1, 1) := by decide +kernel
theorem d_Line_at_1 : decode b_Line_at 1 = .ok (.ifCond .lt 11, 3) := by decide +kernel
theorem d_Line_at_4 : decode b_Line_at 4 = .ok (.iload_n 1, 1) := by decide +kernel
theorem d_Line_at_5 : decode b_Line_at 5 = .ok (.aload_n 0, 1) := by decide +kernel
theorem d_Line_at_6 : decode b_Line_at 6 = .ok (.getfield 15, 3) := by decide +kernel
theorem d_Line_at_9 : decode b_Line_at 9 = .ok (.if_icmp .lt 7, 3) := by decide +kernel
theorem d_Line_at_12 : decode b_Line_at 12 = .ok (.iconst (-1), 1) := by decide +kernel
theorem d_Line_at_13 : decode b_Line_at 13 = .ok (.goto 9, 3) := by decide +kernel
theorem d_Line_at_16 : decode b_Line_at 16 = .ok (.aload_n 0, 1) := by decide +kernel
theorem d_Line_at_17 : decode b_Line_at 17 = .ok (.getfield 9, 3) := by decide +kernel
theorem d_Line_at_20 : decode b_Line_at 20 = .ok (.iload_n 1, 1) := by decide +kernel
theorem d_Line_at_21 : decode b_Line_at 21 = .ok (.caload, 1) := by decide +kernel
theorem d_Line_at_22 : decode b_Line_at 22 = .ok (.ireturn, 1) := by decide +kernel
theorem d_Line_isHeader_0 : decode b_Line_isHeader 0 = .ok (.aload_n 0, 1) := by decide +kernel
theorem d_Line_isHeader_1 : decode b_Line_isHeader 1 = .ok (.iconst 0, 1) := by decide +kernel
theorem d_Line_isHeader_2 : decode b_Line_isHeader 2 = .ok (.invokevirtual 25, 3) := by decide +kernel
theorem d_Line_isHeader_5 : decode b_Line_isHeader 5 = .ok (.iload_n 1, 1) := by decide +kernel
theorem d_Line_isHeader_6 : decode b_Line_isHeader 6 = .ok (.if_icmp .ne 17, 3) := by decide +kernel
theorem d_Line_isHeader_9 : decode b_Line_isHeader 9 = .ok (.aload_n 0, 1) := by decide +kernel
theorem d_Line_isHeader_10 : decode b_Line_isHeader 10 = .ok (.iconst 1, 1) := by decide +kernel
theorem d_Line_isHeader_11 : decode b_Line_isHeader 11 = .ok (.invokevirtual 25, 3) := by decide +kernel
theorem d_Line_isHeader_14 : decode b_Line_isHeader 14 = .ok (.bipush 58, 2) := by decide +kernel
theorem d_Line_isHeader_16 : decode b_Line_isHeader 16 = .ok (.if_icmp .ne 7, 3) := by decide +kernel
theorem d_Line_isHeader_19 : decode b_Line_isHeader 19 = .ok (.iconst 1, 1) := by decide +kernel
theorem d_Line_isHeader_20 : decode b_Line_isHeader 20 = .ok (.goto 4, 3) := by decide +kernel
theorem d_Line_isHeader_23 : decode b_Line_isHeader 23 = .ok (.iconst 0, 1) := by decide +kernel
theorem d_Line_isHeader_24 : decode b_Line_isHeader 24 = .ok (.ireturn, 1) := by decide +kernel
theorem d_Draft_header_0 : decode b_Draft_header 0 = .ok (.aload_n 0, 1) := by decide +kernel
theorem d_Draft_header_1 : decode b_Draft_header 1 = .ok (.iload_n 1, 1) := by decide +kernel
theorem d_Draft_header_2 : decode b_Draft_header 2 = .ok (.iload_n 2, 1) := by decide +kernel
theorem d_Draft_header_3 : decode b_Draft_header 3 = .ok (.invokevirtual 29, 3) := by decide +kernel
theorem d_Draft_header_6 : decode b_Draft_header 6 = .ok (.iconst 1, 1) := by decide +kernel
theorem d_Draft_header_7 : decode b_Draft_header 7 = .ok (.isub, 1) := by decide +kernel
theorem d_Draft_header_8 : decode b_Draft_header 8 = .ok (.istore 4, 2) := by decide +kernel
theorem d_Draft_header_10 : decode b_Draft_header 10 = .ok (.iload 4, 2) := by decide +kernel
theorem d_Draft_header_12 : decode b_Draft_header 12 = .ok (.iload_n 1, 1) := by decide +kernel
theorem d_Draft_header_13 : decode b_Draft_header 13 = .ok (.if_icmp .lt 31, 3) := by decide +kernel
theorem d_Draft_header_16 : decode b_Draft_header 16 = .ok (.aload_n 0, 1) := by decide +kernel
theorem d_Draft_header_17 : decode b_Draft_header 17 = .ok (.getfield 11, 3) := by decide +kernel
theorem d_Draft_header_20 : decode b_Draft_header 20 = .ok (.iload 4, 2) := by decide +kernel
theorem d_Draft_header_22 : decode b_Draft_header 22 = .ok (.aaload, 1) := by decide +kernel
theorem d_Draft_header_23 : decode b_Draft_header 23 = .ok (.iload_n 3, 1) := by decide +kernel
theorem d_Draft_header_24 : decode b_Draft_header 24 = .ok (.invokevirtual 38, 3) := by decide +kernel
theorem d_Draft_header_27 : decode b_Draft_header 27 = .ok (.ifCond .eq 11, 3) := by decide +kernel
theorem d_Draft_header_30 : decode b_Draft_header 30 = .ok (.aload_n 0, 1) := by decide +kernel
theorem d_Draft_header_31 : decode b_Draft_header 31 = .ok (.getfield 11, 3) := by decide +kernel
theorem d_Draft_header_34 : decode b_Draft_header 34 = .ok (.iload 4, 2) := by decide +kernel
theorem d_Draft_header_36 : decode b_Draft_header 36 = .ok (.aaload, 1) := by decide +kernel
theorem d_Draft_header_37 : decode b_Draft_header 37 = .ok (.areturn, 1) := by decide +kernel
theorem d_Draft_header_38 : decode b_Draft_header 38 = .ok (.iinc 4 (-1), 3) := by decide +kernel
theorem d_Draft_header_41 : decode b_Draft_header 41 = .ok (.goto (-31), 3) := by decide +kernel
theorem d_Draft_header_44 : decode b_Draft_header 44 = .ok (.aconst_null, 1) := by decide +kernel
theorem d_Draft_header_45 : decode b_Draft_header 45 = .ok (.areturn, 1) := by decide +kernel
theorem d_Line_idBetween_0 : decode b_Line_idBetween 0 = .ok (.aload_n 0, 1) := by decide +kernel
theorem d_Line_idBetween_1 : decode b_Line_idBetween 1 = .ok (.iload_n 1, 1) := by decide +kernel
theorem d_Line_idBetween_2 : decode b_Line_idBetween 2 = .ok (.invokevirtual 25, 3) := by decide +kernel
theorem d_Line_idBetween_5 : decode b_Line_idBetween 5 = .ok (.invokestatic 29, 3) := by decide +kernel
theorem d_Line_idBetween_8 : decode b_Line_idBetween 8 = .ok (.istore_n 3, 1) := by decide +kernel
theorem d_Line_idBetween_9 : decode b_Line_idBetween 9 = .ok (.iload_n 3, 1) := by decide +kernel
theorem d_Line_idBetween_10 : decode b_Line_idBetween 10 = .ok (.ifCond .ge 5, 3) := by decide +kernel
theorem d_Line_idBetween_13 : decode b_Line_idBetween 13 = .ok (.iconst (-1), 1) := by decide +kernel
theorem d_Line_idBetween_14 : decode b_Line_idBetween 14 = .ok (.ireturn, 1) := by decide +kernel
theorem d_Line_idBetween_15 : decode b_Line_idBetween 15 = .ok (.iload_n 2, 1) := by decide +kernel
theorem d_Line_idBetween_16 : decode b_Line_idBetween 16 = .ok (.iload_n 1, 1) := by decide +kernel
theorem d_Line_idBetween_17 : decode b_Line_idBetween 17 = .ok (.isub, 1) := by decide +kernel
theorem d_Line_idBetween_18 : decode b_Line_idBetween 18 = .ok (.iconst 1, 1) := by decide +kernel
theorem d_Line_idBetween_19 : decode b_Line_idBetween 19 = .ok (.if_icmp .ne 5, 3) := by decide +kernel
theorem d_Line_idBetween_22 : decode b_Line_idBetween 22 = .ok (.iload_n 3, 1) := by decide +kernel
theorem d_Line_idBetween_23 : decode b_Line_idBetween 23 = .ok (.ireturn, 1) := by decide +kernel
theorem d_Line_idBetween_24 : decode b_Line_idBetween 24 = .ok (.aload_n 0, 1) := by decide +kernel
theorem d_Line_idBetween_25 : decode b_Line_idBetween 25 = .ok (.iload_n 1, 1) := by decide +kernel
theorem d_Line_idBetween_26 : decode b_Line_idBetween 26 = .ok (.iconst 1, 1) := by decide +kernel
theorem d_Line_idBetween_27 : decode b_Line_idBetween 27 = .ok (.iadd, 1) := by decide +kernel
theorem d_Line_idBetween_28 : decode b_Line_idBetween 28 = .ok (.invokevirtual 25, 3) := by decide +kernel
theorem d_Line_idBetween_31 : decode b_Line_idBetween 31 = .ok (.invokestatic 29, 3) := by decide +kernel
theorem d_Line_idBetween_34 : decode b_Line_idBetween 34 = .ok (.istore 4, 2) := by decide +kernel
theorem d_Line_idBetween_36 : decode b_Line_idBetween 36 = .ok (.iload_n 3, 1) := by decide +kernel
theorem d_Line_idBetween_37 : decode b_Line_idBetween 37 = .ok (.bipush 10, 2) := by decide +kernel
theorem d_Line_idBetween_39 : decode b_Line_idBetween 39 = .ok (.imul, 1) := by decide +kernel
theorem d_Line_idBetween_40 : decode b_Line_idBetween 40 = .ok (.iload 4, 2) := by decide +kernel
theorem d_Line_idBetween_42 : decode b_Line_idBetween 42 = .ok (.iadd, 1) := by decide +kernel
theorem d_Line_idBetween_43 : decode b_Line_idBetween 43 = .ok (.istore 5, 2) := by decide +kernel
theorem d_Line_idBetween_45 : decode b_Line_idBetween 45 = .ok (.iload_n 2, 1) := by decide +kernel
theorem d_Line_idBetween_46 : decode b_Line_idBetween 46 = .ok (.iload_n 1, 1) := by decide +kernel
theorem d_Line_idBetween_47 : decode b_Line_idBetween 47 = .ok (.isub, 1) := by decide +kernel
theorem d_Line_idBetween_48 : decode b_Line_idBetween 48 = .ok (.iconst 2, 1) := by decide +kernel
theorem d_Line_idBetween_49 : decode b_Line_idBetween 49 = .ok (.if_icmp .ne 20, 3) := by decide +kernel
theorem d_Line_idBetween_52 : decode b_Line_idBetween 52 = .ok (.iload 4, 2) := by decide +kernel
theorem d_Line_idBetween_54 : decode b_Line_idBetween 54 = .ok (.ifCond .lt 15, 3) := by decide +kernel
theorem d_Line_idBetween_57 : decode b_Line_idBetween 57 = .ok (.iload 5, 2) := by decide +kernel
theorem d_Line_idBetween_59 : decode b_Line_idBetween 59 = .ok (.bipush 64, 2) := by decide +kernel
theorem d_Line_idBetween_61 : decode b_Line_idBetween 61 = .ok (.if_icmp .ge 8, 3) := by decide +kernel
theorem d_Line_idBetween_64 : decode b_Line_idBetween 64 = .ok (.iload 5, 2) := by decide +kernel
theorem d_Line_idBetween_66 : decode b_Line_idBetween 66 = .ok (.goto 4, 3) := by decide +kernel
theorem d_Line_idBetween_69 : decode b_Line_idBetween 69 = .ok (.iconst (-1), 1) := by decide +kernel
theorem d_Line_idBetween_70 : decode b_Line_idBetween 70 = .ok (.ireturn, 1) := by decide +kernel
theorem d_Draft_id_0 : decode b_Draft_id 0 = .ok (.aload_n 0, 1) := by decide +kernel
theorem d_Draft_id_1 : decode b_Draft_id 1 = .ok (.iconst 0, 1) := by decide +kernel
theorem d_Draft_id_2 : decode b_Draft_id 2 = .ok (.aload_n 0, 1) := by decide +kernel
theorem d_Draft_id_3 : decode b_Draft_id 3 = .ok (.getfield 17, 3) := by decide +kernel
theorem d_Draft_id_6 : decode b_Draft_id 6 = .ok (.bipush 105, 2) := by decide +kernel
theorem d_Draft_id_8 : decode b_Draft_id 8 = .ok (.invokevirtual 42, 3) := by decide +kernel
theorem d_Draft_id_11 : decode b_Draft_id 11 = .ok (.astore_n 1, 1) := by decide +kernel
theorem d_Draft_id_12 : decode b_Draft_id 12 = .ok (.aload_n 1, 1) := by decide +kernel
theorem d_Draft_id_13 : decode b_Draft_id 13 = .ok (.ifnonnull 7, 3) := by decide +kernel
theorem d_Draft_id_16 : decode b_Draft_id 16 = .ok (.iconst (-1), 1) := by decide +kernel
theorem d_Draft_id_17 : decode b_Draft_id 17 = .ok (.goto 12, 3) := by decide +kernel
theorem d_Draft_id_20 : decode b_Draft_id 20 = .ok (.aload_n 1, 1) := by decide +kernel
theorem d_Draft_id_21 : decode b_Draft_id 21 = .ok (.iconst 2, 1) := by decide +kernel
theorem d_Draft_id_22 : decode b_Draft_id 22 = .ok (.aload_n 1, 1) := by decide +kernel
theorem d_Draft_id_23 : decode b_Draft_id 23 = .ok (.getfield 26, 3) := by decide +kernel
theorem d_Draft_id_26 : decode b_Draft_id 26 = .ok (.invokevirtual 46, 3) := by decide +kernel
theorem d_Draft_id_29 : decode b_Draft_id 29 = .ok (.ireturn, 1) := by decide +kernel
theorem d_Threads_makesRing_0 : decode b_Threads_makesRing 0 = .ok (.iload_n 2, 1) := by decide +kernel
theorem d_Threads_makesRing_1 : decode b_Threads_makesRing 1 = .ok (.istore_n 3, 1) := by decide +kernel
theorem d_Threads_makesRing_2 : decode b_Threads_makesRing 2 = .ok (.iconst 0, 1) := by decide +kernel
theorem d_Threads_makesRing_3 : decode b_Threads_makesRing 3 = .ok (.istore 4, 2) := by decide +kernel
theorem d_Threads_makesRing_5 : decode b_Threads_makesRing 5 = .ok (.iload 4, 2) := by decide +kernel
theorem d_Threads_makesRing_7 : decode b_Threads_makesRing 7 = .ok (.bipush 64, 2) := by decide +kernel
theorem d_Threads_makesRing_9 : decode b_Threads_makesRing 9 = .ok (.if_icmp .ge 28, 3) := by decide +kernel
theorem d_Threads_makesRing_12 : decode b_Threads_makesRing 12 = .ok (.iload_n 3, 1) := by decide +kernel
theorem d_Threads_makesRing_13 : decode b_Threads_makesRing 13 = .ok (.iconst (-1), 1) := by decide +kernel
theorem d_Threads_makesRing_14 : decode b_Threads_makesRing 14 = .ok (.if_icmp .eq 23, 3) := by decide +kernel
theorem d_Threads_makesRing_17 : decode b_Threads_makesRing 17 = .ok (.iload_n 3, 1) := by decide +kernel
theorem d_Threads_makesRing_18 : decode b_Threads_makesRing 18 = .ok (.iload_n 1, 1) := by decide +kernel
theorem d_Threads_makesRing_19 : decode b_Threads_makesRing 19 = .ok (.if_icmp .ne 5, 3) := by decide +kernel
theorem d_Threads_makesRing_22 : decode b_Threads_makesRing 22 = .ok (.iconst 1, 1) := by decide +kernel
theorem d_Threads_makesRing_23 : decode b_Threads_makesRing 23 = .ok (.ireturn, 1) := by decide +kernel
theorem d_Threads_makesRing_24 : decode b_Threads_makesRing 24 = .ok (.aload_n 0, 1) := by decide +kernel
theorem d_Threads_makesRing_25 : decode b_Threads_makesRing 25 = .ok (.getfield 9, 3) := by decide +kernel
theorem d_Threads_makesRing_28 : decode b_Threads_makesRing 28 = .ok (.iload_n 3, 1) := by decide +kernel
theorem d_Threads_makesRing_29 : decode b_Threads_makesRing 29 = .ok (.iaload, 1) := by decide +kernel
theorem d_Threads_makesRing_30 : decode b_Threads_makesRing 30 = .ok (.istore_n 3, 1) := by decide +kernel
theorem d_Threads_makesRing_31 : decode b_Threads_makesRing 31 = .ok (.iinc 4 1, 3) := by decide +kernel
theorem d_Threads_makesRing_34 : decode b_Threads_makesRing 34 = .ok (.goto (-29), 3) := by decide +kernel
theorem d_Threads_makesRing_37 : decode b_Threads_makesRing 37 = .ok (.iconst 0, 1) := by decide +kernel
theorem d_Threads_makesRing_38 : decode b_Threads_makesRing 38 = .ok (.ireturn, 1) := by decide +kernel
theorem d_Threads_setParent_0 : decode b_Threads_setParent 0 = .ok (.aload_n 0, 1) := by decide +kernel
theorem d_Threads_setParent_1 : decode b_Threads_setParent 1 = .ok (.iload_n 1, 1) := by decide +kernel
theorem d_Threads_setParent_2 : decode b_Threads_setParent 2 = .ok (.iload_n 2, 1) := by decide +kernel
theorem d_Threads_setParent_3 : decode b_Threads_setParent 3 = .ok (.invokevirtual 34, 3) := by decide +kernel
theorem d_Threads_setParent_6 : decode b_Threads_setParent 6 = .ok (.ifCond .ne 10, 3) := by decide +kernel
theorem d_Threads_setParent_9 : decode b_Threads_setParent 9 = .ok (.aload_n 0, 1) := by decide +kernel
theorem d_Threads_setParent_10 : decode b_Threads_setParent 10 = .ok (.getfield 9, 3) := by decide +kernel
theorem d_Threads_setParent_13 : decode b_Threads_setParent 13 = .ok (.iload_n 1, 1) := by decide +kernel
theorem d_Threads_setParent_14 : decode b_Threads_setParent 14 = .ok (.iload_n 2, 1) := by decide +kernel
theorem d_Threads_setParent_15 : decode b_Threads_setParent 15 = .ok (.iastore, 1) := by decide +kernel
theorem d_Threads_setParent_16 : decode b_Threads_setParent 16 = .ok (.return_, 1) := by decide +kernel
theorem d_Threads_join_0 : decode b_Threads_join 0 = .ok (.iconst 1, 1) := by decide +kernel
theorem d_Threads_join_1 : decode b_Threads_join 1 = .ok (.istore_n 2, 1) := by decide +kernel
theorem d_Threads_join_2 : decode b_Threads_join 2 = .ok (.iload_n 2, 1) := by decide +kernel
theorem d_Threads_join_3 : decode b_Threads_join 3 = .ok (.aload_n 1, 1) := by decide +kernel
theorem d_Threads_join_4 : decode b_Threads_join 4 = .ok (.getfield 18, 3) := by decide +kernel
theorem d_Threads_join_7 : decode b_Threads_join 7 = .ok (.if_icmp .ge 39, 3) := by decide +kernel
theorem d_Threads_join_10 : decode b_Threads_join 10 = .ok (.aload_n 1, 1) := by decide +kernel
theorem d_Threads_join_11 : decode b_Threads_join 11 = .ok (.getfield 24, 3) := by decide +kernel
theorem d_Threads_join_14 : decode b_Threads_join 14 = .ok (.iload_n 2, 1) := by decide +kernel
theorem d_Threads_join_15 : decode b_Threads_join 15 = .ok (.iaload, 1) := by decide +kernel
theorem d_Threads_join_16 : decode b_Threads_join 16 = .ok (.istore_n 3, 1) := by decide +kernel
theorem d_Threads_join_17 : decode b_Threads_join 17 = .ok (.aload_n 0, 1) := by decide +kernel
theorem d_Threads_join_18 : decode b_Threads_join 18 = .ok (.getfield 9, 3) := by decide +kernel
theorem d_Threads_join_21 : decode b_Threads_join 21 = .ok (.iload_n 3, 1) := by decide +kernel
theorem d_Threads_join_22 : decode b_Threads_join 22 = .ok (.iaload, 1) := by decide +kernel
theorem d_Threads_join_23 : decode b_Threads_join 23 = .ok (.iconst (-1), 1) := by decide +kernel
theorem d_Threads_join_24 : decode b_Threads_join 24 = .ok (.if_icmp .ne 16, 3) := by decide +kernel
theorem d_Threads_join_27 : decode b_Threads_join 27 = .ok (.aload_n 0, 1) := by decide +kernel
theorem d_Threads_join_28 : decode b_Threads_join 28 = .ok (.iload_n 3, 1) := by decide +kernel
theorem d_Threads_join_29 : decode b_Threads_join 29 = .ok (.aload_n 1, 1) := by decide +kernel
theorem d_Threads_join_30 : decode b_Threads_join 30 = .ok (.getfield 24, 3) := by decide +kernel
theorem d_Threads_join_33 : decode b_Threads_join 33 = .ok (.iload_n 2, 1) := by decide +kernel
theorem d_Threads_join_34 : decode b_Threads_join 34 = .ok (.iconst 1, 1) := by decide +kernel
theorem d_Threads_join_35 : decode b_Threads_join 35 = .ok (.isub, 1) := by decide +kernel
theorem d_Threads_join_36 : decode b_Threads_join 36 = .ok (.iaload, 1) := by decide +kernel
theorem d_Threads_join_37 : decode b_Threads_join 37 = .ok (.invokevirtual 27, 3) := by decide +kernel
theorem d_Threads_join_40 : decode b_Threads_join 40 = .ok (.iinc 2 1, 3) := by decide +kernel
theorem d_Threads_join_43 : decode b_Threads_join 43 = .ok (.goto (-41), 3) := by decide +kernel
theorem d_Threads_join_46 : decode b_Threads_join 46 = .ok (.aload_n 1, 1) := by decide +kernel
theorem d_Threads_join_47 : decode b_Threads_join 47 = .ok (.getfield 18, 3) := by decide +kernel
theorem d_Threads_join_50 : decode b_Threads_join 50 = .ok (.ifCond .le 22, 3) := by decide +kernel
theorem d_Threads_join_53 : decode b_Threads_join 53 = .ok (.aload_n 0, 1) := by decide +kernel
theorem d_Threads_join_54 : decode b_Threads_join 54 = .ok (.aload_n 1, 1) := by decide +kernel
theorem d_Threads_join_55 : decode b_Threads_join 55 = .ok (.getfield 31, 3) := by decide +kernel
theorem d_Threads_join_58 : decode b_Threads_join 58 = .ok (.aload_n 1, 1) := by decide +kernel
theorem d_Threads_join_59 : decode b_Threads_join 59 = .ok (.getfield 24, 3) := by decide +kernel
theorem d_Threads_join_62 : decode b_Threads_join 62 = .ok (.aload_n 1, 1) := by decide +kernel
theorem d_Threads_join_63 : decode b_Threads_join 63 = .ok (.getfield 18, 3) := by decide +kernel
theorem d_Threads_join_66 : decode b_Threads_join 66 = .ok (.iconst 1, 1) := by decide +kernel
theorem d_Threads_join_67 : decode b_Threads_join 67 = .ok (.isub, 1) := by decide +kernel
theorem d_Threads_join_68 : decode b_Threads_join 68 = .ok (.iaload, 1) := by decide +kernel
theorem d_Threads_join_69 : decode b_Threads_join 69 = .ok (.invokevirtual 27, 3) := by decide +kernel
theorem d_Threads_join_72 : decode b_Threads_join 72 = .ok (.return_, 1) := by decide +kernel
theorem d_Message_begin_0 : decode b_Message_begin 0 = .ok (.aload_n 0, 1) := by decide +kernel
theorem d_Message_begin_1 : decode b_Message_begin 1 = .ok (.iconst 1, 1) := by decide +kernel
theorem d_Message_begin_2 : decode b_Message_begin 2 = .ok (.putfield 22, 3) := by decide +kernel
theorem d_Message_begin_5 : decode b_Message_begin 5 = .ok (.aload_n 0, 1) := by decide +kernel
theorem d_Message_begin_6 : decode b_Message_begin 6 = .ok (.iload_n 1, 1) := by decide +kernel
theorem d_Message_begin_7 : decode b_Message_begin 7 = .ok (.putfield 26, 3) := by decide +kernel
theorem d_Message_begin_10 : decode b_Message_begin 10 = .ok (.aload_n 0, 1) := by decide +kernel
theorem d_Message_begin_11 : decode b_Message_begin 11 = .ok (.iconst 0, 1) := by decide +kernel
theorem d_Message_begin_12 : decode b_Message_begin 12 = .ok (.putfield 33, 3) := by decide +kernel
theorem d_Message_begin_15 : decode b_Message_begin 15 = .ok (.aload_n 0, 1) := by decide +kernel
theorem d_Message_begin_16 : decode b_Message_begin 16 = .ok (.iconst 0, 1) := by decide +kernel
theorem d_Message_begin_17 : decode b_Message_begin 17 = .ok (.putfield 36, 3) := by decide +kernel
theorem d_Message_begin_20 : decode b_Message_begin 20 = .ok (.aload_n 0, 1) := by decide +kernel
theorem d_Message_begin_21 : decode b_Message_begin 21 = .ok (.iconst 0, 1) := by decide +kernel
theorem d_Message_begin_22 : decode b_Message_begin 22 = .ok (.putfield 39, 3) := by decide +kernel
theorem d_Message_begin_25 : decode b_Message_begin 25 = .ok (.return_, 1) := by decide +kernel
theorem d_Line_blankFrom_0 : decode b_Line_blankFrom 0 = .ok (.iload_n 1, 1) := by decide +kernel
theorem d_Line_blankFrom_1 : decode b_Line_blankFrom 1 = .ok (.istore_n 2, 1) := by decide +kernel
theorem d_Line_blankFrom_2 : decode b_Line_blankFrom 2 = .ok (.iload_n 2, 1) := by decide +kernel
theorem d_Line_blankFrom_3 : decode b_Line_blankFrom 3 = .ok (.aload_n 0, 1) := by decide +kernel
theorem d_Line_blankFrom_4 : decode b_Line_blankFrom 4 = .ok (.getfield 15, 3) := by decide +kernel
theorem d_Line_blankFrom_7 : decode b_Line_blankFrom 7 = .ok (.if_icmp .ge 21, 3) := by decide +kernel
theorem d_Line_blankFrom_10 : decode b_Line_blankFrom 10 = .ok (.aload_n 0, 1) := by decide +kernel
theorem d_Line_blankFrom_11 : decode b_Line_blankFrom 11 = .ok (.iload_n 2, 1) := by decide +kernel
theorem d_Line_blankFrom_12 : decode b_Line_blankFrom 12 = .ok (.invokevirtual 25, 3) := by decide +kernel
theorem d_Line_blankFrom_15 : decode b_Line_blankFrom 15 = .ok (.bipush 32, 2) := by decide +kernel
theorem d_Line_blankFrom_17 : decode b_Line_blankFrom 17 = .ok (.if_icmp .ne 5, 3) := by decide +kernel
theorem d_Line_blankFrom_20 : decode b_Line_blankFrom 20 = .ok (.iload_n 2, 1) := by decide +kernel
theorem d_Line_blankFrom_21 : decode b_Line_blankFrom 21 = .ok (.ireturn, 1) := by decide +kernel
theorem d_Line_blankFrom_22 : decode b_Line_blankFrom 22 = .ok (.iinc 2 1, 3) := by decide +kernel
theorem d_Line_blankFrom_25 : decode b_Line_blankFrom 25 = .ok (.goto (-23), 3) := by decide +kernel
theorem d_Line_blankFrom_28 : decode b_Line_blankFrom 28 = .ok (.aload_n 0, 1) := by decide +kernel
theorem d_Line_blankFrom_29 : decode b_Line_blankFrom 29 = .ok (.getfield 15, 3) := by decide +kernel
theorem d_Line_blankFrom_32 : decode b_Line_blankFrom 32 = .ok (.ireturn, 1) := by decide +kernel
theorem d_Message_readReferences_0 : decode b_Message_readReferences 0 = .ok (.iconst 2, 1) := by decide +kernel
theorem d_Message_readReferences_1 : decode b_Message_readReferences 1 = .ok (.istore_n 2, 1) := by decide +kernel
theorem d_Message_readReferences_2 : decode b_Message_readReferences 2 = .ok (.iconst 0, 1) := by decide +kernel
theorem d_Message_readReferences_3 : decode b_Message_readReferences 3 = .ok (.istore_n 3, 1) := by decide +kernel
theorem d_Message_readReferences_4 : decode b_Message_readReferences 4 = .ok (.iload_n 3, 1) := by decide +kernel
theorem d_Message_readReferences_5 : decode b_Message_readReferences 5 = .ok (.iconst 4, 1) := by decide +kernel
theorem d_Message_readReferences_6 : decode b_Message_readReferences 6 = .ok (.if_icmp .ge 58, 3) := by decide +kernel
theorem d_Message_readReferences_9 : decode b_Message_readReferences 9 = .ok (.aload_n 1, 1) := by decide +kernel
theorem d_Message_readReferences_10 : decode b_Message_readReferences 10 = .ok (.iload_n 2, 1) := by decide +kernel
theorem d_Message_readReferences_11 : decode b_Message_readReferences 11 = .ok (.invokevirtual 46, 3) := by decide +kernel
theorem d_Message_readReferences_14 : decode b_Message_readReferences 14 = .ok (.istore 4, 2) := by decide +kernel
theorem d_Message_readReferences_16 : decode b_Message_readReferences 16 = .ok (.aload_n 1, 1) := by decide +kernel
theorem d_Message_readReferences_17 : decode b_Message_readReferences 17 = .ok (.iload_n 2, 1) := by decide +kernel
theorem d_Message_readReferences_18 : decode b_Message_readReferences 18 = .ok (.iload 4, 2) := by decide +kernel
theorem d_Message_readReferences_20 : decode b_Message_readReferences 20 = .ok (.invokevirtual 52, 3) := by decide +kernel
theorem d_Message_readReferences_23 : decode b_Message_readReferences 23 = .ok (.istore 5, 2) := by decide +kernel
theorem d_Message_readReferences_25 : decode b_Message_readReferences 25 = .ok (.iload 5, 2) := by decide +kernel
theorem d_Message_readReferences_27 : decode b_Message_readReferences 27 = .ok (.ifCond .ge 5, 3) := by decide +kernel
theorem d_Message_readReferences_30 : decode b_Message_readReferences 30 = .ok (.iconst 0, 1) := by decide +kernel
theorem d_Message_readReferences_31 : decode b_Message_readReferences 31 = .ok (.ireturn, 1) := by decide +kernel
theorem d_Message_readReferences_32 : decode b_Message_readReferences 32 = .ok (.aload_n 0, 1) := by decide +kernel
theorem d_Message_readReferences_33 : decode b_Message_readReferences 33 = .ok (.getfield 9, 3) := by decide +kernel
theorem d_Message_readReferences_36 : decode b_Message_readReferences 36 = .ok (.iload_n 3, 1) := by decide +kernel
theorem d_Message_readReferences_37 : decode b_Message_readReferences 37 = .ok (.iload 5, 2) := by decide +kernel
theorem d_Message_readReferences_39 : decode b_Message_readReferences 39 = .ok (.iastore, 1) := by decide +kernel
theorem d_Message_readReferences_40 : decode b_Message_readReferences 40 = .ok (.iload 4, 2) := by decide +kernel
theorem d_Message_readReferences_42 : decode b_Message_readReferences 42 = .ok (.aload_n 1, 1) := by decide +kernel
theorem d_Message_readReferences_43 : decode b_Message_readReferences 43 = .ok (.getfield 56, 3) := by decide +kernel
theorem d_Message_readReferences_46 : decode b_Message_readReferences 46 = .ok (.if_icmp .ne 7, 3) := by decide +kernel
theorem d_Message_readReferences_49 : decode b_Message_readReferences 49 = .ok (.iload_n 3, 1) := by decide +kernel
theorem d_Message_readReferences_50 : decode b_Message_readReferences 50 = .ok (.iconst 1, 1) := by decide +kernel
theorem d_Message_readReferences_51 : decode b_Message_readReferences 51 = .ok (.iadd, 1) := by decide +kernel
theorem d_Message_readReferences_52 : decode b_Message_readReferences 52 = .ok (.ireturn, 1) := by decide +kernel
theorem d_Message_readReferences_53 : decode b_Message_readReferences 53 = .ok (.iload 4, 2) := by decide +kernel
theorem d_Message_readReferences_55 : decode b_Message_readReferences 55 = .ok (.iconst 1, 1) := by decide +kernel
theorem d_Message_readReferences_56 : decode b_Message_readReferences 56 = .ok (.iadd, 1) := by decide +kernel
theorem d_Message_readReferences_57 : decode b_Message_readReferences 57 = .ok (.istore_n 2, 1) := by decide +kernel
theorem d_Message_readReferences_58 : decode b_Message_readReferences 58 = .ok (.iinc 3 1, 3) := by decide +kernel
theorem d_Message_readReferences_61 : decode b_Message_readReferences 61 = .ok (.goto (-57), 3) := by decide +kernel
theorem d_Message_readReferences_64 : decode b_Message_readReferences 64 = .ok (.iconst 0, 1) := by decide +kernel
theorem d_Message_readReferences_65 : decode b_Message_readReferences 65 = .ok (.ireturn, 1) := by decide +kernel
theorem d_Message_setReferences_0 : decode b_Message_setReferences 0 = .ok (.aload_n 0, 1) := by decide +kernel
theorem d_Message_setReferences_1 : decode b_Message_setReferences 1 = .ok (.aload_n 1, 1) := by decide +kernel
theorem d_Message_setReferences_2 : decode b_Message_setReferences 2 = .ok (.ifnonnull 7, 3) := by decide +kernel
theorem d_Message_setReferences_5 : decode b_Message_setReferences 5 = .ok (.iconst 0, 1) := by decide +kernel
theorem d_Message_setReferences_6 : decode b_Message_setReferences 6 = .ok (.goto 8, 3) := by decide +kernel
theorem d_Message_setReferences_9 : decode b_Message_setReferences 9 = .ok (.aload_n 0, 1) := by decide +kernel
theorem d_Message_setReferences_10 : decode b_Message_setReferences 10 = .ok (.aload_n 1, 1) := by decide +kernel
theorem d_Message_setReferences_11 : decode b_Message_setReferences 11 = .ok (.invokevirtual 42, 3) := by decide +kernel
theorem d_Message_setReferences_14 : decode b_Message_setReferences 14 = .ok (.putfield 30, 3) := by decide +kernel
theorem d_Message_setReferences_17 : decode b_Message_setReferences 17 = .ok (.return_, 1) := by decide +kernel
theorem d_Letters_put_0 : decode b_Letters_put 0 = .ok (.aload_n 0, 1) := by decide +kernel
theorem d_Letters_put_1 : decode b_Letters_put 1 = .ok (.getfield 15, 3) := by decide +kernel
theorem d_Letters_put_4 : decode b_Letters_put 4 = .ok (.bipush 12, 2) := by decide +kernel
theorem d_Letters_put_6 : decode b_Letters_put 6 = .ok (.if_icmp .ge 28, 3) := by decide +kernel
theorem d_Letters_put_9 : decode b_Letters_put 9 = .ok (.aload_n 0, 1) := by decide +kernel
theorem d_Letters_put_10 : decode b_Letters_put 10 = .ok (.aload_n 0, 1) := by decide +kernel
theorem d_Letters_put_11 : decode b_Letters_put 11 = .ok (.getfield 9, 3) := by decide +kernel
theorem d_Letters_put_14 : decode b_Letters_put 14 = .ok (.ldc2_w 19, 3) := by decide +kernel
theorem d_Letters_put_17 : decode b_Letters_put 17 = .ok (.lmul, 1) := by decide +kernel
theorem d_Letters_put_18 : decode b_Letters_put 18 = .ok (.iload_n 1, 1) := by decide +kernel
theorem d_Letters_put_19 : decode b_Letters_put 19 = .ok (.i2l, 1) := by decide +kernel
theorem d_Letters_put_20 : decode b_Letters_put 20 = .ok (.ladd, 1) := by decide +kernel
theorem d_Letters_put_21 : decode b_Letters_put 21 = .ok (.putfield 9, 3) := by decide +kernel
theorem d_Letters_put_24 : decode b_Letters_put 24 = .ok (.aload_n 0, 1) := by decide +kernel
theorem d_Letters_put_25 : decode b_Letters_put 25 = .ok (.dup, 1) := by decide +kernel
theorem d_Letters_put_26 : decode b_Letters_put 26 = .ok (.getfield 15, 3) := by decide +kernel
theorem d_Letters_put_29 : decode b_Letters_put 29 = .ok (.iconst 1, 1) := by decide +kernel
theorem d_Letters_put_30 : decode b_Letters_put 30 = .ok (.iadd, 1) := by decide +kernel
theorem d_Letters_put_31 : decode b_Letters_put 31 = .ok (.putfield 15, 3) := by decide +kernel
theorem d_Letters_put_34 : decode b_Letters_put 34 = .ok (.return_, 1) := by decide +kernel
theorem d_Letters_clear_0 : decode b_Letters_clear 0 = .ok (.aload_n 0, 1) := by decide +kernel
theorem d_Letters_clear_1 : decode b_Letters_clear 1 = .ok (.lconst 0, 1) := by decide +kernel
theorem d_Letters_clear_2 : decode b_Letters_clear 2 = .ok (.putfield 9, 3) := by decide +kernel
theorem d_Letters_clear_5 : decode b_Letters_clear 5 = .ok (.aload_n 0, 1) := by decide +kernel
theorem d_Letters_clear_6 : decode b_Letters_clear 6 = .ok (.iconst 0, 1) := by decide +kernel
theorem d_Letters_clear_7 : decode b_Letters_clear 7 = .ok (.putfield 15, 3) := by decide +kernel
theorem d_Letters_clear_10 : decode b_Letters_clear 10 = .ok (.return_, 1) := by decide +kernel
theorem d_Message_takeWord_0 : decode b_Message_takeWord 0 = .ok (.aload_n 1, 1) := by decide +kernel
theorem d_Message_takeWord_1 : decode b_Message_takeWord 1 = .ok (.getfield 59, 3) := by decide +kernel
theorem d_Message_takeWord_4 : decode b_Message_takeWord 4 = .ok (.ifCond .le 45, 3) := by decide +kernel
theorem d_Message_takeWord_7 : decode b_Message_takeWord 7 = .ok (.aload_n 0, 1) := by decide +kernel
theorem d_Message_takeWord_8 : decode b_Message_takeWord 8 = .ok (.getfield 33, 3) := by decide +kernel
theorem d_Message_takeWord_11 : decode b_Message_takeWord 11 = .ok (.bipush 50, 2) := by decide +kernel
theorem d_Message_takeWord_13 : decode b_Message_takeWord 13 = .ok (.if_icmp .ge 36, 3) := by decide +kernel
theorem d_Message_takeWord_16 : decode b_Message_takeWord 16 = .ok (.aload_n 0, 1) := by decide +kernel
theorem d_Message_takeWord_17 : decode b_Message_takeWord 17 = .ok (.getfield 15, 3) := by decide +kernel
theorem d_Message_takeWord_20 : decode b_Message_takeWord 20 = .ok (.aload_n 0, 1) := by decide +kernel
theorem d_Message_takeWord_21 : decode b_Message_takeWord 21 = .ok (.getfield 33, 3) := by decide +kernel
theorem d_Message_takeWord_24 : decode b_Message_takeWord 24 = .ok (.aload_n 1, 1) := by decide +kernel
theorem d_Message_takeWord_25 : decode b_Message_takeWord 25 = .ok (.getfield 64, 3) := by decide +kernel
theorem d_Message_takeWord_28 : decode b_Message_takeWord 28 = .ok (.lastore, 1) := by decide +kernel
theorem d_Message_takeWord_29 : decode b_Message_takeWord 29 = .ok (.aload_n 0, 1) := by decide +kernel
theorem d_Message_takeWord_30 : decode b_Message_takeWord 30 = .ok (.getfield 19, 3) := by decide +kernel
theorem d_Message_takeWord_33 : decode b_Message_takeWord 33 = .ok (.aload_n 0, 1) := by decide +kernel
theorem d_Message_takeWord_34 : decode b_Message_takeWord 34 = .ok (.getfield 33, 3) := by decide +kernel
theorem d_Message_takeWord_37 : decode b_Message_takeWord 37 = .ok (.iload_n 2, 1) := by decide +kernel
theorem d_Message_takeWord_38 : decode b_Message_takeWord 38 = .ok (.iastore, 1) := by decide +kernel
theorem d_Message_takeWord_39 : decode b_Message_takeWord 39 = .ok (.aload_n 0, 1) := by decide +kernel
theorem d_Message_takeWord_40 : decode b_Message_takeWord 40 = .ok (.dup, 1) := by decide +kernel
theorem d_Message_takeWord_41 : decode b_Message_takeWord 41 = .ok (.getfield 33, 3) := by decide +kernel
theorem d_Message_takeWord_44 : decode b_Message_takeWord 44 = .ok (.iconst 1, 1) := by decide +kernel
theorem d_Message_takeWord_45 : decode b_Message_takeWord 45 = .ok (.iadd, 1) := by decide +kernel
theorem d_Message_takeWord_46 : decode b_Message_takeWord 46 = .ok (.putfield 33, 3) := by decide +kernel
theorem d_Message_takeWord_49 : decode b_Message_takeWord 49 = .ok (.aload_n 1, 1) := by decide +kernel
theorem d_Message_takeWord_50 : decode b_Message_takeWord 50 = .ok (.invokevirtual 68, 3) := by decide +kernel
theorem d_Message_takeWord_53 : decode b_Message_takeWord 53 = .ok (.return_, 1) := by decide +kernel
theorem d_Reader_readLine_0 : decode b_Reader_readLine 0 = .ok (.iload_n 2, 1) := by decide +kernel
theorem d_Reader_readLine_1 : decode b_Reader_readLine 1 = .ok (.istore 5, 2) := by decide +kernel
theorem d_Reader_readLine_3 : decode b_Reader_readLine 3 = .ok (.iload 5, 2) := by decide +kernel
theorem d_Reader_readLine_5 : decode b_Reader_readLine 5 = .ok (.aload_n 1, 1) := by decide +kernel
theorem d_Reader_readLine_6 : decode b_Reader_readLine 6 = .ok (.getfield 65, 3) := by decide +kernel
theorem d_Reader_readLine_9 : decode b_Reader_readLine 9 = .ok (.if_icmp .ge 47, 3) := by decide +kernel
theorem d_Reader_readLine_12 : decode b_Reader_readLine 12 = .ok (.aload_n 1, 1) := by decide +kernel
theorem d_Reader_readLine_13 : decode b_Reader_readLine 13 = .ok (.iload 5, 2) := by decide +kernel
theorem d_Reader_readLine_15 : decode b_Reader_readLine 15 = .ok (.invokevirtual 68, 3) := by decide +kernel
theorem d_Reader_readLine_18 : decode b_Reader_readLine 18 = .ok (.invokestatic 99, 3) := by decide +kernel
theorem d_Reader_readLine_21 : decode b_Reader_readLine 21 = .ok (.istore 6, 2) := by decide +kernel
theorem d_Reader_readLine_23 : decode b_Reader_readLine 23 = .ok (.iload 6, 2) := by decide +kernel
theorem d_Reader_readLine_25 : decode b_Reader_readLine 25 = .ok (.ifCond .le 15, 3) := by decide +kernel
theorem d_Reader_readLine_28 : decode b_Reader_readLine 28 = .ok (.aload_n 0, 1) := by decide +kernel
theorem d_Reader_readLine_29 : decode b_Reader_readLine 29 = .ok (.getfield 12, 3) := by decide +kernel
theorem d_Reader_readLine_32 : decode b_Reader_readLine 32 = .ok (.iload 6, 2) := by decide +kernel
theorem d_Reader_readLine_34 : decode b_Reader_readLine 34 = .ok (.invokevirtual 102, 3) := by decide +kernel
theorem d_Reader_readLine_37 : decode b_Reader_readLine 37 = .ok (.goto 13, 3) := by decide +kernel
theorem d_Reader_readLine_40 : decode b_Reader_readLine 40 = .ok (.aload_n 3, 1) := by decide +kernel
theorem d_Reader_readLine_41 : decode b_Reader_readLine 41 = .ok (.aload_n 0, 1) := by decide +kernel
theorem d_Reader_readLine_42 : decode b_Reader_readLine 42 = .ok (.getfield 12, 3) := by decide +kernel
theorem d_Reader_readLine_45 : decode b_Reader_readLine 45 = .ok (.iload 4, 2) := by decide +kernel
theorem d_Reader_readLine_47 : decode b_Reader_readLine 47 = .ok (.invokevirtual 105, 3) := by decide +kernel
theorem d_Reader_readLine_50 : decode b_Reader_readLine 50 = .ok (.iinc 5 1, 3) := by decide +kernel
theorem d_Reader_readLine_53 : decode b_Reader_readLine 53 = .ok (.goto (-50), 3) := by decide +kernel
theorem d_Reader_readLine_56 : decode b_Reader_readLine 56 = .ok (.aload_n 3, 1) := by decide +kernel
theorem d_Reader_readLine_57 : decode b_Reader_readLine 57 = .ok (.aload_n 0, 1) := by decide +kernel
theorem d_Reader_readLine_58 : decode b_Reader_readLine 58 = .ok (.getfield 12, 3) := by decide +kernel
theorem d_Reader_readLine_61 : decode b_Reader_readLine 61 = .ok (.iload 4, 2) := by decide +kernel
theorem d_Reader_readLine_63 : decode b_Reader_readLine 63 = .ok (.invokevirtual 105, 3) := by decide +kernel
theorem d_Reader_readLine_66 : decode b_Reader_readLine 66 = .ok (.return_, 1) := by decide +kernel
theorem d_Reader_readHeader_0 : decode b_Reader_readHeader 0 = .ok (.aload_n 1, 1) := by decide +kernel
theorem d_Reader_readHeader_1 : decode b_Reader_readHeader 1 = .ok (.ifnull 11, 3) := by decide +kernel
theorem d_Reader_readHeader_4 : decode b_Reader_readHeader 4 = .ok (.aload_n 0, 1) := by decide +kernel
theorem d_Reader_readHeader_5 : decode b_Reader_readHeader 5 = .ok (.aload_n 1, 1) := by decide +kernel
theorem d_Reader_readHeader_6 : decode b_Reader_readHeader 6 = .ok (.iconst 2, 1) := by decide +kernel
theorem d_Reader_readHeader_7 : decode b_Reader_readHeader 7 = .ok (.aload_n 2, 1) := by decide +kernel
theorem d_Reader_readHeader_8 : decode b_Reader_readHeader 8 = .ok (.iload_n 3, 1) := by decide +kernel
theorem d_Reader_readHeader_9 : decode b_Reader_readHeader 9 = .ok (.invokevirtual 57, 3) := by decide +kernel
theorem d_Reader_readHeader_12 : decode b_Reader_readHeader 12 = .ok (.return_, 1) := by decide +kernel
theorem d_Math_min_0 : decode b_Math_min 0 = .ok (.iload_n 0, 1) := by decide +kernel
theorem d_Math_min_1 : decode b_Math_min 1 = .ok (.iload_n 1, 1) := by decide +kernel
theorem d_Math_min_2 : decode b_Math_min 2 = .ok (.if_icmp .gt 7, 3) := by decide +kernel
theorem d_Math_min_5 : decode b_Math_min 5 = .ok (.iload_n 0, 1) := by decide +kernel
theorem d_Math_min_6 : decode b_Math_min 6 = .ok (.goto 4, 3) := by decide +kernel
theorem d_Math_min_9 : decode b_Math_min 9 = .ok (.iload_n 1, 1) := by decide +kernel
theorem d_Math_min_10 : decode b_Math_min 10 = .ok (.ireturn, 1) := by decide +kernel
theorem d_Draft_bodyStart_0 : decode b_Draft_bodyStart 0 = .ok (.aload_n 0, 1) := by decide +kernel
theorem d_Draft_bodyStart_1 : decode b_Draft_bodyStart 1 = .ok (.iload_n 1, 1) := by decide +kernel
theorem d_Draft_bodyStart_2 : decode b_Draft_bodyStart 2 = .ok (.iload_n 2, 1) := by decide +kernel
theorem d_Draft_bodyStart_3 : decode b_Draft_bodyStart 3 = .ok (.invokevirtual 29, 3) := by decide +kernel
theorem d_Draft_bodyStart_6 : decode b_Draft_bodyStart 6 = .ok (.iconst 1, 1) := by decide +kernel
theorem d_Draft_bodyStart_7 : decode b_Draft_bodyStart 7 = .ok (.iadd, 1) := by decide +kernel
theorem d_Draft_bodyStart_8 : decode b_Draft_bodyStart 8 = .ok (.iload_n 2, 1) := by decide +kernel
theorem d_Draft_bodyStart_9 : decode b_Draft_bodyStart 9 = .ok (.invokestatic 33, 3) := by decide +kernel
theorem d_Draft_bodyStart_12 : decode b_Draft_bodyStart 12 = .ok (.ireturn, 1) := by decide +kernel
theorem d_Reader_decode_0 : decode b_Reader_decode 0 = .ok (.aload_n 0, 1) := by decide +kernel
theorem d_Reader_decode_1 : decode b_Reader_decode 1 = .ok (.getfield 21, 3) := by decide +kernel
theorem d_Reader_decode_4 : decode b_Reader_decode 4 = .ok (.invokevirtual 109, 3) := by decide +kernel
theorem d_Reader_decode_7 : decode b_Reader_decode 7 = .ok (.iconst (-1), 1) := by decide +kernel
theorem d_Reader_decode_8 : decode b_Reader_decode 8 = .ok (.istore_n 2, 1) := by decide +kernel
theorem d_Reader_decode_9 : decode b_Reader_decode 9 = .ok (.iconst 0, 1) := by decide +kernel
theorem d_Reader_decode_10 : decode b_Reader_decode 10 = .ok (.istore_n 3, 1) := by decide +kernel
theorem d_Reader_decode_11 : decode b_Reader_decode 11 = .ok (.iload_n 3, 1) := by decide +kernel
theorem d_Reader_decode_12 : decode b_Reader_decode 12 = .ok (.aload_n 1, 1) := by decide +kernel
theorem d_Reader_decode_13 : decode b_Reader_decode 13 = .ok (.getfield 65, 3) := by decide +kernel
theorem d_Reader_decode_16 : decode b_Reader_decode 16 = .ok (.if_icmp .ge 57, 3) := by decide +kernel
theorem d_Reader_decode_19 : decode b_Reader_decode 19 = .ok (.aload_n 1, 1) := by decide +kernel
theorem d_Reader_decode_20 : decode b_Reader_decode 20 = .ok (.iload_n 3, 1) := by decide +kernel
theorem d_Reader_decode_21 : decode b_Reader_decode 21 = .ok (.invokevirtual 68, 3) := by decide +kernel
theorem d_Reader_decode_24 : decode b_Reader_decode 24 = .ok (.invokestatic 112, 3) := by decide +kernel
theorem d_Reader_decode_27 : decode b_Reader_decode 27 = .ok (.istore 4, 2) := by decide +kernel
theorem d_Reader_decode_29 : decode b_Reader_decode 29 = .ok (.iload 4, 2) := by decide +kernel
theorem d_Reader_decode_31 : decode b_Reader_decode 31 = .ok (.ifCond .lt 13, 3) := by decide +kernel
theorem d_Reader_decode_34 : decode b_Reader_decode 34 = .ok (.iload_n 2, 1) := by decide +kernel
theorem d_Reader_decode_35 : decode b_Reader_decode 35 = .ok (.ifCond .ge 9, 3) := by decide +kernel
theorem d_Reader_decode_38 : decode b_Reader_decode 38 = .ok (.iload 4, 2) := by decide +kernel
theorem d_Reader_decode_40 : decode b_Reader_decode 40 = .ok (.istore_n 2, 1) := by decide +kernel
theorem d_Reader_decode_41 : decode b_Reader_decode 41 = .ok (.goto 26, 3) := by decide +kernel
theorem d_Reader_decode_44 : decode b_Reader_decode 44 = .ok (.iload 4, 2) := by decide +kernel
theorem d_Reader_decode_46 : decode b_Reader_decode 46 = .ok (.ifCond .lt 21, 3) := by decide +kernel
theorem d_Reader_decode_49 : decode b_Reader_decode 49 = .ok (.aload_n 0, 1) := by decide +kernel
theorem d_Reader_decode_50 : decode b_Reader_decode 50 = .ok (.getfield 21, 3) := by decide +kernel
theorem d_Reader_decode_53 : decode b_Reader_decode 53 = .ok (.iload_n 2, 1) := by decide +kernel
theorem d_Reader_decode_54 : decode b_Reader_decode 54 = .ok (.bipush 16, 2) := by decide +kernel
theorem d_Reader_decode_56 : decode b_Reader_decode 56 = .ok (.imul, 1) := by decide +kernel
theorem d_Reader_decode_57 : decode b_Reader_decode 57 = .ok (.iload 4, 2) := by decide +kernel
theorem d_Reader_decode_59 : decode b_Reader_decode 59 = .ok (.iadd, 1) := by decide +kernel
theorem d_Reader_decode_60 : decode b_Reader_decode 60 = .ok (.i2c, 1) := by decide +kernel
theorem d_Reader_decode_61 : decode b_Reader_decode 61 = .ok (.invokevirtual 115, 3) := by decide +kernel
theorem d_Reader_decode_64 : decode b_Reader_decode 64 = .ok (.pop, 1) := by decide +kernel
theorem d_Reader_decode_65 : decode b_Reader_decode 65 = .ok (.iconst (-1), 1) := by decide +kernel
theorem d_Reader_decode_66 : decode b_Reader_decode 66 = .ok (.istore_n 2, 1) := by decide +kernel
theorem d_Reader_decode_67 : decode b_Reader_decode 67 = .ok (.iinc 3 1, 3) := by decide +kernel
theorem d_Reader_decode_70 : decode b_Reader_decode 70 = .ok (.goto (-59), 3) := by decide +kernel
theorem d_Reader_decode_73 : decode b_Reader_decode 73 = .ok (.aload_n 0, 1) := by decide +kernel
theorem d_Reader_decode_74 : decode b_Reader_decode 74 = .ok (.getfield 21, 3) := by decide +kernel
theorem d_Reader_decode_77 : decode b_Reader_decode 77 = .ok (.areturn, 1) := by decide +kernel
theorem d_Reader_readLeaf_0 : decode b_Reader_readLeaf 0 = .ok (.aload 5, 2) := by decide +kernel
theorem d_Reader_readLeaf_2 : decode b_Reader_readLeaf 2 = .ok (.dup, 1) := by decide +kernel
theorem d_Reader_readLeaf_3 : decode b_Reader_readLeaf 3 = .ok (.getfield 92, 3) := by decide +kernel
theorem d_Reader_readLeaf_6 : decode b_Reader_readLeaf 6 = .ok (.iconst 1, 1) := by decide +kernel
theorem d_Reader_readLeaf_7 : decode b_Reader_readLeaf 7 = .ok (.iadd, 1) := by decide +kernel
theorem d_Reader_readLeaf_8 : decode b_Reader_readLeaf 8 = .ok (.putfield 92, 3) := by decide +kernel
theorem d_Reader_readLeaf_11 : decode b_Reader_readLeaf 11 = .ok (.aload 4, 2) := by decide +kernel
theorem d_Reader_readLeaf_13 : decode b_Reader_readLeaf 13 = .ok (.ifnull 27, 3) := by decide +kernel
theorem d_Reader_readLeaf_16 : decode b_Reader_readLeaf 16 = .ok (.aload 4, 2) := by decide +kernel
theorem d_Reader_readLeaf_18 : decode b_Reader_readLeaf 18 = .ok (.getfield 65, 3) := by decide +kernel
theorem d_Reader_readLeaf_21 : decode b_Reader_readLeaf 21 = .ok (.iconst 3, 1) := by decide +kernel
theorem d_Reader_readLeaf_22 : decode b_Reader_readLeaf 22 = .ok (.if_icmp .ne 18, 3) := by decide +kernel
theorem d_Reader_readLeaf_25 : decode b_Reader_readLeaf 25 = .ok (.aload 4, 2) := by decide +kernel
theorem d_Reader_readLeaf_27 : decode b_Reader_readLeaf 27 = .ok (.iconst 2, 1) := by decide +kernel
theorem d_Reader_readLeaf_28 : decode b_Reader_readLeaf 28 = .ok (.invokevirtual 68, 3) := by decide +kernel
theorem d_Reader_readLeaf_31 : decode b_Reader_readLeaf 31 = .ok (.bipush 104, 2) := by decide +kernel
theorem d_Reader_readLeaf_33 : decode b_Reader_readLeaf 33 = .ok (.if_icmp .ne 7, 3) := by decide +kernel
theorem d_Reader_readLeaf_36 : decode b_Reader_readLeaf 36 = .ok (.iconst 1, 1) := by decide +kernel
theorem d_Reader_readLeaf_37 : decode b_Reader_readLeaf 37 = .ok (.goto 4, 3) := by decide +kernel
theorem d_Reader_readLeaf_40 : decode b_Reader_readLeaf 40 = .ok (.iconst 0, 1) := by decide +kernel
theorem d_Reader_readLeaf_41 : decode b_Reader_readLeaf 41 = .ok (.istore 6, 2) := by decide +kernel
theorem d_Reader_readLeaf_43 : decode b_Reader_readLeaf 43 = .ok (.iload_n 2, 1) := by decide +kernel
theorem d_Reader_readLeaf_44 : decode b_Reader_readLeaf 44 = .ok (.istore 7, 2) := by decide +kernel
theorem d_Reader_readLeaf_46 : decode b_Reader_readLeaf 46 = .ok (.iload 7, 2) := by decide +kernel
theorem d_Reader_readLeaf_48 : decode b_Reader_readLeaf 48 = .ok (.iload_n 3, 1) := by decide +kernel
theorem d_Reader_readLeaf_49 : decode b_Reader_readLeaf 49 = .ok (.if_icmp .ge 47, 3) := by decide +kernel
theorem d_Reader_readLeaf_52 : decode b_Reader_readLeaf 52 = .ok (.iload 6, 2) := by decide +kernel
theorem d_Reader_readLeaf_54 : decode b_Reader_readLeaf 54 = .ok (.ifCond .eq 17, 3) := by decide +kernel
theorem d_Reader_readLeaf_57 : decode b_Reader_readLeaf 57 = .ok (.aload_n 0, 1) := by decide +kernel
theorem d_Reader_readLeaf_58 : decode b_Reader_readLeaf 58 = .ok (.aload_n 1, 1) := by decide +kernel
theorem d_Reader_readLeaf_59 : decode b_Reader_readLeaf 59 = .ok (.getfield 84, 3) := by decide +kernel
theorem d_Reader_readLeaf_62 : decode b_Reader_readLeaf 62 = .ok (.iload 7, 2) := by decide +kernel
theorem d_Reader_readLeaf_64 : decode b_Reader_readLeaf 64 = .ok (.aaload, 1) := by decide +kernel
theorem d_Reader_readLeaf_65 : decode b_Reader_readLeaf 65 = .ok (.invokevirtual 95, 3) := by decide +kernel
theorem d_Reader_readLeaf_68 : decode b_Reader_readLeaf 68 = .ok (.goto 10, 3) := by decide +kernel
theorem d_Reader_readLeaf_71 : decode b_Reader_readLeaf 71 = .ok (.aload_n 1, 1) := by decide +kernel
theorem d_Reader_readLeaf_72 : decode b_Reader_readLeaf 72 = .ok (.getfield 84, 3) := by decide +kernel
theorem d_Reader_readLeaf_75 : decode b_Reader_readLeaf 75 = .ok (.iload 7, 2) := by decide +kernel
theorem d_Reader_readLeaf_77 : decode b_Reader_readLeaf 77 = .ok (.aaload, 1) := by decide +kernel
theorem d_Reader_readLeaf_78 : decode b_Reader_readLeaf 78 = .ok (.astore 8, 2) := by decide +kernel
theorem d_Reader_readLeaf_80 : decode b_Reader_readLeaf 80 = .ok (.aload_n 0, 1) := by decide +kernel
theorem d_Reader_readLeaf_81 : decode b_Reader_readLeaf 81 = .ok (.aload 8, 2) := by decide +kernel
theorem d_Reader_readLeaf_83 : decode b_Reader_readLeaf 83 = .ok (.iconst 0, 1) := by decide +kernel
theorem d_Reader_readLeaf_84 : decode b_Reader_readLeaf 84 = .ok (.aload 5, 2) := by decide +kernel
theorem d_Reader_readLeaf_86 : decode b_Reader_readLeaf 86 = .ok (.iconst 2, 1) := by decide +kernel
theorem d_Reader_readLeaf_87 : decode b_Reader_readLeaf 87 = .ok (.invokevirtual 57, 3) := by decide +kernel
theorem d_Reader_readLeaf_90 : decode b_Reader_readLeaf 90 = .ok (.iinc 7 1, 3) := by decide +kernel
theorem d_Reader_readLeaf_93 : decode b_Reader_readLeaf 93 = .ok (.goto (-47), 3) := by decide +kernel
theorem d_Reader_readLeaf_96 : decode b_Reader_readLeaf 96 = .ok (.return_, 1) := by decide +kernel
theorem d_Line_isClosing_0 : decode b_Line_isClosing 0 = .ok (.aload_n 0, 1) := by decide +kernel
theorem d_Line_isClosing_1 : decode b_Line_isClosing 1 = .ok (.getfield 15, 3) := by decide +kernel
theorem d_Line_isClosing_4 : decode b_Line_isClosing 4 = .ok (.iconst 3, 1) := by decide +kernel
theorem d_Line_isClosing_5 : decode b_Line_isClosing 5 = .ok (.if_icmp .ne 36, 3) := by decide +kernel
theorem d_Line_isClosing_8 : decode b_Line_isClosing 8 = .ok (.aload_n 0, 1) := by decide +kernel
theorem d_Line_isClosing_9 : decode b_Line_isClosing 9 = .ok (.iconst 0, 1) := by decide +kernel
theorem d_Line_isClosing_10 : decode b_Line_isClosing 10 = .ok (.invokevirtual 25, 3) := by decide +kernel
theorem d_Line_isClosing_13 : decode b_Line_isClosing 13 = .ok (.bipush 45, 2) := by decide +kernel
theorem d_Line_isClosing_15 : decode b_Line_isClosing 15 = .ok (.if_icmp .ne 26, 3) := by decide +kernel
theorem d_Line_isClosing_18 : decode b_Line_isClosing 18 = .ok (.aload_n 0, 1) := by decide +kernel
theorem d_Line_isClosing_19 : decode b_Line_isClosing 19 = .ok (.iconst 1, 1) := by decide +kernel
theorem d_Line_isClosing_20 : decode b_Line_isClosing 20 = .ok (.invokevirtual 25, 3) := by decide +kernel
theorem d_Line_isClosing_23 : decode b_Line_isClosing 23 = .ok (.iload_n 1, 1) := by decide +kernel
theorem d_Line_isClosing_24 : decode b_Line_isClosing 24 = .ok (.if_icmp .ne 17, 3) := by decide +kernel
theorem d_Line_isClosing_27 : decode b_Line_isClosing 27 = .ok (.aload_n 0, 1) := by decide +kernel
theorem d_Line_isClosing_28 : decode b_Line_isClosing 28 = .ok (.iconst 2, 1) := by decide +kernel
theorem d_Line_isClosing_29 : decode b_Line_isClosing 29 = .ok (.invokevirtual 25, 3) := by decide +kernel
theorem d_Line_isClosing_32 : decode b_Line_isClosing 32 = .ok (.bipush 46, 2) := by decide +kernel
theorem d_Line_isClosing_34 : decode b_Line_isClosing 34 = .ok (.if_icmp .ne 7, 3) := by decide +kernel
theorem d_Line_isClosing_37 : decode b_Line_isClosing 37 = .ok (.iconst 1, 1) := by decide +kernel
theorem d_Line_isClosing_38 : decode b_Line_isClosing 38 = .ok (.goto 4, 3) := by decide +kernel
theorem d_Line_isClosing_41 : decode b_Line_isClosing 41 = .ok (.iconst 0, 1) := by decide +kernel
theorem d_Line_isClosing_42 : decode b_Line_isClosing 42 = .ok (.ireturn, 1) := by decide +kernel
theorem d_Draft_closingPlace_0 : decode b_Draft_closingPlace 0 = .ok (.iload_n 1, 1) := by decide +kernel
theorem d_Draft_closingPlace_1 : decode b_Draft_closingPlace 1 = .ok (.istore 4, 2) := by decide +kernel
theorem d_Draft_closingPlace_3 : decode b_Draft_closingPlace 3 = .ok (.iload 4, 2) := by decide +kernel
theorem d_Draft_closingPlace_5 : decode b_Draft_closingPlace 5 = .ok (.iload_n 2, 1) := by decide +kernel
theorem d_Draft_closingPlace_6 : decode b_Draft_closingPlace 6 = .ok (.if_icmp .ge 26, 3) := by decide +kernel
theorem d_Draft_closingPlace_9 : decode b_Draft_closingPlace 9 = .ok (.aload_n 0, 1) := by decide +kernel
theorem d_Draft_closingPlace_10 : decode b_Draft_closingPlace 10 = .ok (.getfield 11, 3) := by decide +kernel
theorem d_Draft_closingPlace_13 : decode b_Draft_closingPlace 13 = .ok (.iload 4, 2) := by decide +kernel
theorem d_Draft_closingPlace_15 : decode b_Draft_closingPlace 15 = .ok (.aaload, 1) := by decide +kernel
theorem d_Draft_closingPlace_16 : decode b_Draft_closingPlace 16 = .ok (.iload_n 3, 1) := by decide +kernel
theorem d_Draft_closingPlace_17 : decode b_Draft_closingPlace 17 = .ok (.invokevirtual 49, 3) := by decide +kernel
theorem d_Draft_closingPlace_20 : decode b_Draft_closingPlace 20 = .ok (.ifCond .eq 6, 3) := by decide +kernel
theorem d_Draft_closingPlace_23 : decode b_Draft_closingPlace 23 = .ok (.iload 4, 2) := by decide +kernel
theorem d_Draft_closingPlace_25 : decode b_Draft_closingPlace 25 = .ok (.ireturn, 1) := by decide +kernel
theorem d_Draft_closingPlace_26 : decode b_Draft_closingPlace 26 = .ok (.iinc 4 1, 3) := by decide +kernel
theorem d_Draft_closingPlace_29 : decode b_Draft_closingPlace 29 = .ok (.goto (-26), 3) := by decide +kernel
theorem d_Draft_closingPlace_32 : decode b_Draft_closingPlace 32 = .ok (.iload_n 2, 1) := by decide +kernel
theorem d_Draft_closingPlace_33 : decode b_Draft_closingPlace 33 = .ok (.ireturn, 1) := by decide +kernel
theorem d_Line_isCut_0 : decode b_Line_isCut 0 = .ok (.aload_n 0, 1) := by decide +kernel
theorem d_Line_isCut_1 : decode b_Line_isCut 1 = .ok (.getfield 15, 3) := by decide +kernel
theorem d_Line_isCut_4 : decode b_Line_isCut 4 = .ok (.iconst 2, 1) := by decide +kernel
theorem d_Line_isCut_5 : decode b_Line_isCut 5 = .ok (.if_icmp .ne 26, 3) := by decide +kernel
theorem d_Line_isCut_8 : decode b_Line_isCut 8 = .ok (.aload_n 0, 1) := by decide +kernel
theorem d_Line_isCut_9 : decode b_Line_isCut 9 = .ok (.iconst 0, 1) := by decide +kernel
theorem d_Line_isCut_10 : decode b_Line_isCut 10 = .ok (.invokevirtual 25, 3) := by decide +kernel
theorem d_Line_isCut_13 : decode b_Line_isCut 13 = .ok (.bipush 45, 2) := by decide +kernel
theorem d_Line_isCut_15 : decode b_Line_isCut 15 = .ok (.if_icmp .ne 16, 3) := by decide +kernel
theorem d_Line_isCut_18 : decode b_Line_isCut 18 = .ok (.aload_n 0, 1) := by decide +kernel
theorem d_Line_isCut_19 : decode b_Line_isCut 19 = .ok (.iconst 1, 1) := by decide +kernel
theorem d_Line_isCut_20 : decode b_Line_isCut 20 = .ok (.invokevirtual 25, 3) := by decide +kernel
theorem d_Line_isCut_23 : decode b_Line_isCut 23 = .ok (.iload_n 1, 1) := by decide +kernel
theorem d_Line_isCut_24 : decode b_Line_isCut 24 = .ok (.if_icmp .ne 7, 3) := by decide +kernel
theorem d_Line_isCut_27 : decode b_Line_isCut 27 = .ok (.iconst 1, 1) := by decide +kernel
theorem d_Line_isCut_28 : decode b_Line_isCut 28 = .ok (.goto 4, 3) := by decide +kernel
theorem d_Line_isCut_31 : decode b_Line_isCut 31 = .ok (.iconst 0, 1) := by decide +kernel
theorem d_Line_isCut_32 : decode b_Line_isCut 32 = .ok (.ireturn, 1) := by decide +kernel
theorem d_Reader_readMulti_0 : decode b_Reader_readMulti 0 = .ok (.aload_n 1, 1) := by decide +kernel
theorem d_Reader_readMulti_1 : decode b_Reader_readMulti 1 = .ok (.iload_n 2, 1) := by decide +kernel
theorem d_Reader_readMulti_2 : decode b_Reader_readMulti 2 = .ok (.iload_n 3, 1) := by decide +kernel
theorem d_Reader_readMulti_3 : decode b_Reader_readMulti 3 = .ok (.iload 6, 2) := by decide +kernel
theorem d_Reader_readMulti_5 : decode b_Reader_readMulti 5 = .ok (.invokevirtual 80, 3) := by decide +kernel
theorem d_Reader_readMulti_8 : decode b_Reader_readMulti 8 = .ok (.istore 7, 2) := by decide +kernel
theorem d_Reader_readMulti_10 : decode b_Reader_readMulti 10 = .ok (.iconst (-1), 1) := by decide +kernel
theorem d_Reader_readMulti_11 : decode b_Reader_readMulti 11 = .ok (.istore 8, 2) := by decide +kernel
theorem d_Reader_readMulti_13 : decode b_Reader_readMulti 13 = .ok (.iload_n 2, 1) := by decide +kernel
theorem d_Reader_readMulti_14 : decode b_Reader_readMulti 14 = .ok (.istore 9, 2) := by decide +kernel
theorem d_Reader_readMulti_16 : decode b_Reader_readMulti 16 = .ok (.iload 9, 2) := by decide +kernel
theorem d_Reader_readMulti_18 : decode b_Reader_readMulti 18 = .ok (.iload 7, 2) := by decide +kernel
theorem d_Reader_readMulti_20 : decode b_Reader_readMulti 20 = .ok (.if_icmp .ge 50, 3) := by decide +kernel
theorem d_Reader_readMulti_23 : decode b_Reader_readMulti 23 = .ok (.aload_n 1, 1) := by decide +kernel
theorem d_Reader_readMulti_24 : decode b_Reader_readMulti 24 = .ok (.getfield 84, 3) := by decide +kernel
theorem d_Reader_readMulti_27 : decode b_Reader_readMulti 27 = .ok (.iload 9, 2) := by decide +kernel
theorem d_Reader_readMulti_29 : decode b_Reader_readMulti 29 = .ok (.aaload, 1) := by decide +kernel
theorem d_Reader_readMulti_30 : decode b_Reader_readMulti 30 = .ok (.iload 6, 2) := by decide +kernel
theorem d_Reader_readMulti_32 : decode b_Reader_readMulti 32 = .ok (.invokevirtual 88, 3) := by decide +kernel
theorem d_Reader_readMulti_35 : decode b_Reader_readMulti 35 = .ok (.ifCond .eq 29, 3) := by decide +kernel
theorem d_Reader_readMulti_38 : decode b_Reader_readMulti 38 = .ok (.iload 8, 2) := by decide +kernel
theorem d_Reader_readMulti_40 : decode b_Reader_readMulti 40 = .ok (.ifCond .lt 18, 3) := by decide +kernel
theorem d_Reader_readMulti_43 : decode b_Reader_readMulti 43 = .ok (.aload_n 0, 1) := by decide +kernel
theorem d_Reader_readMulti_44 : decode b_Reader_readMulti 44 = .ok (.aload_n 1, 1) := by decide +kernel
theorem d_Reader_readMulti_45 : decode b_Reader_readMulti 45 = .ok (.iload 8, 2) := by decide +kernel
theorem d_Reader_readMulti_47 : decode b_Reader_readMulti 47 = .ok (.iload 9, 2) := by decide +kernel
theorem d_Reader_readMulti_49 : decode b_Reader_readMulti 49 = .ok (.iload 4, 2) := by decide +kernel
theorem d_Reader_readMulti_51 : decode b_Reader_readMulti 51 = .ok (.iconst 1, 1) := by decide +kernel
theorem d_Reader_readMulti_52 : decode b_Reader_readMulti 52 = .ok (.iadd, 1) := by decide +kernel
theorem d_Reader_readMulti_53 : decode b_Reader_readMulti 53 = .ok (.aload 5, 2) := by decide +kernel
theorem d_Reader_readMulti_55 : decode b_Reader_readMulti 55 = .ok (.invokevirtual 53, 3) := by decide +kernel
theorem d_Reader_readMulti_58 : decode b_Reader_readMulti 58 = .ok (.iload 9, 2) := by decide +kernel
theorem d_Reader_readMulti_60 : decode b_Reader_readMulti 60 = .ok (.iconst 1, 1) := by decide +kernel
theorem d_Reader_readMulti_61 : decode b_Reader_readMulti 61 = .ok (.iadd, 1) := by decide +kernel
theorem d_Reader_readMulti_62 : decode b_Reader_readMulti 62 = .ok (.istore 8, 2) := by decide +kernel
theorem d_Reader_readMulti_64 : decode b_Reader_readMulti 64 = .ok (.iinc 9 1, 3) := by decide +kernel
theorem d_Reader_readMulti_67 : decode b_Reader_readMulti 67 = .ok (.goto (-51), 3) := by decide +kernel
theorem d_Reader_readMulti_70 : decode b_Reader_readMulti 70 = .ok (.iload 8, 2) := by decide +kernel
theorem d_Reader_readMulti_72 : decode b_Reader_readMulti 72 = .ok (.ifCond .lt 18, 3) := by decide +kernel
theorem d_Reader_readMulti_75 : decode b_Reader_readMulti 75 = .ok (.aload_n 0, 1) := by decide +kernel
theorem d_Reader_readMulti_76 : decode b_Reader_readMulti 76 = .ok (.aload_n 1, 1) := by decide +kernel
theorem d_Reader_readMulti_77 : decode b_Reader_readMulti 77 = .ok (.iload 8, 2) := by decide +kernel
theorem d_Reader_readMulti_79 : decode b_Reader_readMulti 79 = .ok (.iload 7, 2) := by decide +kernel
theorem d_Reader_readMulti_81 : decode b_Reader_readMulti 81 = .ok (.iload 4, 2) := by decide +kernel
theorem d_Reader_readMulti_83 : decode b_Reader_readMulti 83 = .ok (.iconst 1, 1) := by decide +kernel
theorem d_Reader_readMulti_84 : decode b_Reader_readMulti 84 = .ok (.iadd, 1) := by decide +kernel
theorem d_Reader_readMulti_85 : decode b_Reader_readMulti 85 = .ok (.aload 5, 2) := by decide +kernel
theorem d_Reader_readMulti_87 : decode b_Reader_readMulti 87 = .ok (.invokevirtual 53, 3) := by decide +kernel
theorem d_Reader_readMulti_90 : decode b_Reader_readMulti 90 = .ok (.return_, 1) := by decide +kernel
theorem d_Reader_readPart_0 : decode b_Reader_readPart 0 = .ok (.iload 4, 2) := by decide +kernel
theorem d_Reader_readPart_2 : decode b_Reader_readPart 2 = .ok (.iconst 4, 1) := by decide +kernel
theorem d_Reader_readPart_3 : decode b_Reader_readPart 3 = .ok (.if_icmp .ge 14, 3) := by decide +kernel
theorem d_Reader_readPart_6 : decode b_Reader_readPart 6 = .ok (.aload_n 1, 1) := by decide +kernel
theorem d_Reader_readPart_7 : decode b_Reader_readPart 7 = .ok (.iload_n 2, 1) := by decide +kernel
theorem d_Reader_readPart_8 : decode b_Reader_readPart 8 = .ok (.iload_n 3, 1) := by decide +kernel
theorem d_Reader_readPart_9 : decode b_Reader_readPart 9 = .ok (.bipush 109, 2) := by decide +kernel
theorem d_Reader_readPart_11 : decode b_Reader_readPart 11 = .ok (.invokevirtual 41, 3) := by decide +kernel
theorem d_Reader_readPart_14 : decode b_Reader_readPart 14 = .ok (.goto 4, 3) := by decide +kernel
theorem d_Reader_readPart_17 : decode b_Reader_readPart 17 = .ok (.aconst_null, 1) := by decide +kernel
theorem d_Reader_readPart_18 : decode b_Reader_readPart 18 = .ok (.astore 6, 2) := by decide +kernel
theorem d_Reader_readPart_20 : decode b_Reader_readPart 20 = .ok (.aload_n 1, 1) := by decide +kernel
theorem d_Reader_readPart_21 : decode b_Reader_readPart 21 = .ok (.iload_n 2, 1) := by decide +kernel
theorem d_Reader_readPart_22 : decode b_Reader_readPart 22 = .ok (.iload_n 3, 1) := by decide +kernel
theorem d_Reader_readPart_23 : decode b_Reader_readPart 23 = .ok (.invokevirtual 61, 3) := by decide +kernel
theorem d_Reader_readPart_26 : decode b_Reader_readPart 26 = .ok (.istore 7, 2) := by decide +kernel
theorem d_Reader_readPart_28 : decode b_Reader_readPart 28 = .ok (.aload 6, 2) := by decide +kernel
theorem d_Reader_readPart_30 : decode b_Reader_readPart 30 = .ok (.ifnull 33, 3) := by decide +kernel
theorem d_Reader_readPart_33 : decode b_Reader_readPart 33 = .ok (.aload 6, 2) := by decide +kernel
theorem d_Reader_readPart_35 : decode b_Reader_readPart 35 = .ok (.getfield 65, 3) := by decide +kernel
theorem d_Reader_readPart_38 : decode b_Reader_readPart 38 = .ok (.iconst 3, 1) := by decide +kernel
theorem d_Reader_readPart_39 : decode b_Reader_readPart 39 = .ok (.if_icmp .ne 24, 3) := by decide +kernel
theorem d_Reader_readPart_42 : decode b_Reader_readPart 42 = .ok (.aload_n 0, 1) := by decide +kernel
theorem d_Reader_readPart_43 : decode b_Reader_readPart 43 = .ok (.aload_n 1, 1) := by decide +kernel
theorem d_Reader_readPart_44 : decode b_Reader_readPart 44 = .ok (.iload 7, 2) := by decide +kernel
theorem d_Reader_readPart_46 : decode b_Reader_readPart 46 = .ok (.iload_n 3, 1) := by decide +kernel
theorem d_Reader_readPart_47 : decode b_Reader_readPart 47 = .ok (.iload 4, 2) := by decide +kernel
theorem d_Reader_readPart_49 : decode b_Reader_readPart 49 = .ok (.aload 5, 2) := by decide +kernel
theorem d_Reader_readPart_51 : decode b_Reader_readPart 51 = .ok (.aload 6, 2) := by decide +kernel
theorem d_Reader_readPart_53 : decode b_Reader_readPart 53 = .ok (.iconst 2, 1) := by decide +kernel
theorem d_Reader_readPart_54 : decode b_Reader_readPart 54 = .ok (.invokevirtual 68, 3) := by decide +kernel
theorem d_Reader_readPart_57 : decode b_Reader_readPart 57 = .ok (.invokevirtual 72, 3) := by decide +kernel
theorem d_Reader_readPart_60 : decode b_Reader_readPart 60 = .ok (.goto 21, 3) := by decide +kernel
theorem d_Reader_readPart_63 : decode b_Reader_readPart 63 = .ok (.aload_n 0, 1) := by decide +kernel
theorem d_Reader_readPart_64 : decode b_Reader_readPart 64 = .ok (.aload_n 1, 1) := by decide +kernel
theorem d_Reader_readPart_65 : decode b_Reader_readPart 65 = .ok (.iload 7, 2) := by decide +kernel
theorem d_Reader_readPart_67 : decode b_Reader_readPart 67 = .ok (.iload_n 3, 1) := by decide +kernel
theorem d_Reader_readPart_68 : decode b_Reader_readPart 68 = .ok (.aload_n 1, 1) := by decide +kernel
theorem d_Reader_readPart_69 : decode b_Reader_readPart 69 = .ok (.iload_n 2, 1) := by decide +kernel
theorem d_Reader_readPart_70 : decode b_Reader_readPart 70 = .ok (.iload_n 3, 1) := by decide +kernel
theorem d_Reader_readPart_71 : decode b_Reader_readPart 71 = .ok (.bipush 101, 2) := by decide +kernel
theorem d_Reader_readPart_73 : decode b_Reader_readPart 73 = .ok (.invokevirtual 41, 3) := by decide +kernel
theorem d_Reader_readPart_76 : decode b_Reader_readPart 76 = .ok (.aload 5, 2) := by decide +kernel
theorem d_Reader_readPart_78 : decode b_Reader_readPart 78 = .ok (.invokevirtual 76, 3) := by decide +kernel
theorem d_Reader_readPart_81 : decode b_Reader_readPart 81 = .ok (.return_, 1) := by decide +kernel
theorem d_Reader_readDraft_0 : decode b_Reader_readDraft 0 = .ok (.aload_n 2, 1) := by decide +kernel
theorem d_Reader_readDraft_1 : decode b_Reader_readDraft 1 = .ok (.aload_n 1, 1) := by decide +kernel
theorem d_Reader_readDraft_2 : decode b_Reader_readDraft 2 = .ok (.invokevirtual 25, 3) := by decide +kernel
theorem d_Reader_readDraft_5 : decode b_Reader_readDraft 5 = .ok (.invokevirtual 31, 3) := by decide +kernel
theorem d_Reader_readDraft_8 : decode b_Reader_readDraft 8 = .ok (.aload_n 2, 1) := by decide +kernel
theorem d_Reader_readDraft_9 : decode b_Reader_readDraft 9 = .ok (.aload_n 1, 1) := by decide +kernel
theorem d_Reader_readDraft_10 : decode b_Reader_readDraft 10 = .ok (.iconst 0, 1) := by decide +kernel
theorem d_Reader_readDraft_11 : decode b_Reader_readDraft 11 = .ok (.aload_n 1, 1) := by decide +kernel
theorem d_Reader_readDraft_12 : decode b_Reader_readDraft 12 = .ok (.getfield 37, 3) := by decide +kernel
theorem d_Reader_readDraft_15 : decode b_Reader_readDraft 15 = .ok (.bipush 114, 2) := by decide +kernel
theorem d_Reader_readDraft_17 : decode b_Reader_readDraft 17 = .ok (.invokevirtual 41, 3) := by decide +kernel
theorem d_Reader_readDraft_20 : decode b_Reader_readDraft 20 = .ok (.invokevirtual 45, 3) := by decide +kernel
theorem d_Reader_readDraft_23 : decode b_Reader_readDraft 23 = .ok (.aload_n 0, 1) := by decide +kernel
theorem d_Reader_readDraft_24 : decode b_Reader_readDraft 24 = .ok (.aload_n 1, 1) := by decide +kernel
theorem d_Reader_readDraft_25 : decode b_Reader_readDraft 25 = .ok (.iconst 0, 1) := by decide +kernel
theorem d_Reader_readDraft_26 : decode b_Reader_readDraft 26 = .ok (.aload_n 1, 1) := by decide +kernel
theorem d_Reader_readDraft_27 : decode b_Reader_readDraft 27 = .ok (.getfield 37, 3) := by decide +kernel
theorem d_Reader_readDraft_30 : decode b_Reader_readDraft 30 = .ok (.bipush 115, 2) := by decide +kernel
theorem d_Reader_readDraft_32 : decode b_Reader_readDraft 32 = .ok (.invokevirtual 41, 3) := by decide +kernel
theorem d_Reader_readDraft_35 : decode b_Reader_readDraft 35 = .ok (.aload_n 2, 1) := by decide +kernel
theorem d_Reader_readDraft_36 : decode b_Reader_readDraft 36 = .ok (.iconst 0, 1) := by decide +kernel
theorem d_Reader_readDraft_37 : decode b_Reader_readDraft 37 = .ok (.invokevirtual 49, 3) := by decide +kernel
theorem d_Reader_readDraft_40 : decode b_Reader_readDraft 40 = .ok (.aload_n 0, 1) := by decide +kernel
theorem d_Reader_readDraft_41 : decode b_Reader_readDraft 41 = .ok (.aload_n 1, 1) := by decide +kernel
theorem d_Reader_readDraft_42 : decode b_Reader_readDraft 42 = .ok (.iconst 0, 1) := by decide +kernel
theorem d_Reader_readDraft_43 : decode b_Reader_readDraft 43 = .ok (.aload_n 1, 1) := by decide +kernel
theorem d_Reader_readDraft_44 : decode b_Reader_readDraft 44 = .ok (.getfield 37, 3) := by decide +kernel
theorem d_Reader_readDraft_47 : decode b_Reader_readDraft 47 = .ok (.bipush 102, 2) := by decide +kernel
theorem d_Reader_readDraft_49 : decode b_Reader_readDraft 49 = .ok (.invokevirtual 41, 3) := by decide +kernel
theorem d_Reader_readDraft_52 : decode b_Reader_readDraft 52 = .ok (.aload_n 2, 1) := by decide +kernel
theorem d_Reader_readDraft_53 : decode b_Reader_readDraft 53 = .ok (.iconst 1, 1) := by decide +kernel
theorem d_Reader_readDraft_54 : decode b_Reader_readDraft 54 = .ok (.invokevirtual 49, 3) := by decide +kernel
theorem d_Reader_readDraft_57 : decode b_Reader_readDraft 57 = .ok (.aload_n 0, 1) := by decide +kernel
theorem d_Reader_readDraft_58 : decode b_Reader_readDraft 58 = .ok (.aload_n 1, 1) := by decide +kernel
theorem d_Reader_readDraft_59 : decode b_Reader_readDraft 59 = .ok (.iconst 0, 1) := by decide +kernel
theorem d_Reader_readDraft_60 : decode b_Reader_readDraft 60 = .ok (.aload_n 1, 1) := by decide +kernel
theorem d_Reader_readDraft_61 : decode b_Reader_readDraft 61 = .ok (.getfield 37, 3) := by decide +kernel
theorem d_Reader_readDraft_64 : decode b_Reader_readDraft 64 = .ok (.iconst 1, 1) := by decide +kernel
theorem d_Reader_readDraft_65 : decode b_Reader_readDraft 65 = .ok (.aload_n 2, 1) := by decide +kernel
theorem d_Reader_readDraft_66 : decode b_Reader_readDraft 66 = .ok (.invokevirtual 53, 3) := by decide +kernel
theorem d_Reader_readDraft_69 : decode b_Reader_readDraft 69 = .ok (.return_, 1) := by decide +kernel
theorem d_Message_setTag_0 : decode b_Message_setTag 0 = .ok (.iconst 1, 1) := by decide +kernel
theorem d_Message_setTag_1 : decode b_Message_setTag 1 = .ok (.iload_n 1, 1) := by decide +kernel
theorem d_Message_setTag_2 : decode b_Message_setTag 2 = .ok (.ishl, 1) := by decide +kernel
theorem d_Message_setTag_3 : decode b_Message_setTag 3 = .ok (.istore_n 3, 1) := by decide +kernel
theorem d_Message_setTag_4 : decode b_Message_setTag 4 = .ok (.aload_n 0, 1) := by decide +kernel
theorem d_Message_setTag_5 : decode b_Message_setTag 5 = .ok (.iload_n 2, 1) := by decide +kernel
theorem d_Message_setTag_6 : decode b_Message_setTag 6 = .ok (.ifCond .eq 12, 3) := by decide +kernel
theorem d_Message_setTag_9 : decode b_Message_setTag 9 = .ok (.aload_n 0, 1) := by decide +kernel
theorem d_Message_setTag_10 : decode b_Message_setTag 10 = .ok (.getfield 39, 3) := by decide +kernel
theorem d_Message_setTag_13 : decode b_Message_setTag 13 = .ok (.iload_n 3, 1) := by decide +kernel
theorem d_Message_setTag_14 : decode b_Message_setTag 14 = .ok (.ior, 1) := by decide +kernel
theorem d_Message_setTag_15 : decode b_Message_setTag 15 = .ok (.goto 11, 3) := by decide +kernel
theorem d_Message_setTag_18 : decode b_Message_setTag 18 = .ok (.aload_n 0, 1) := by decide +kernel
theorem d_Message_setTag_19 : decode b_Message_setTag 19 = .ok (.getfield 39, 3) := by decide +kernel
theorem d_Message_setTag_22 : decode b_Message_setTag 22 = .ok (.iload_n 3, 1) := by decide +kernel
theorem d_Message_setTag_23 : decode b_Message_setTag 23 = .ok (.iconst (-1), 1) := by decide +kernel
theorem d_Message_setTag_24 : decode b_Message_setTag 24 = .ok (.ixor, 1) := by decide +kernel
theorem d_Message_setTag_25 : decode b_Message_setTag 25 = .ok (.iand, 1) := by decide +kernel
theorem d_Message_setTag_26 : decode b_Message_setTag 26 = .ok (.putfield 39, 3) := by decide +kernel
theorem d_Message_setTag_29 : decode b_Message_setTag 29 = .ok (.return_, 1) := by decide +kernel
theorem d_Query_holding_0 : decode b_Query_holding 0 = .ok (.aload_n 0, 1) := by decide +kernel
theorem d_Query_holding_1 : decode b_Query_holding 1 = .ok (.getfield 11, 3) := by decide +kernel
theorem d_Query_holding_4 : decode b_Query_holding 4 = .ok (.iconst 0, 1) := by decide +kernel
theorem d_Query_holding_5 : decode b_Query_holding 5 = .ok (.iaload, 1) := by decide +kernel
theorem d_Query_holding_6 : decode b_Query_holding 6 = .ok (.aload_n 0, 1) := by decide +kernel
theorem d_Query_holding_7 : decode b_Query_holding 7 = .ok (.getfield 15, 3) := by decide +kernel
theorem d_Query_holding_10 : decode b_Query_holding 10 = .ok (.iconst 0, 1) := by decide +kernel
theorem d_Query_holding_11 : decode b_Query_holding 11 = .ok (.iaload, 1) := by decide +kernel
theorem d_Query_holding_12 : decode b_Query_holding 12 = .ok (.ior, 1) := by decide +kernel
theorem d_Query_holding_13 : decode b_Query_holding 13 = .ok (.ireturn, 1) := by decide +kernel
theorem d_Query_beginOne_0 : decode b_Query_beginOne 0 = .ok (.aload_n 0, 1) := by decide +kernel
theorem d_Query_beginOne_1 : decode b_Query_beginOne 1 = .ok (.iconst 0, 1) := by decide +kernel
theorem d_Query_beginOne_2 : decode b_Query_beginOne 2 = .ok (.putfield 33, 3) := by decide +kernel
theorem d_Query_beginOne_5 : decode b_Query_beginOne 5 = .ok (.aload_n 0, 1) := by decide +kernel
theorem d_Query_beginOne_6 : decode b_Query_beginOne 6 = .ok (.iconst (-1), 1) := by decide +kernel
theorem d_Query_beginOne_7 : decode b_Query_beginOne 7 = .ok (.putfield 36, 3) := by decide +kernel
theorem d_Query_beginOne_10 : decode b_Query_beginOne 10 = .ok (.aload_n 0, 1) := by decide +kernel
theorem d_Query_beginOne_11 : decode b_Query_beginOne 11 = .ok (.getfield 25, 3) := by decide +kernel
theorem d_Query_beginOne_14 : decode b_Query_beginOne 14 = .ok (.invokevirtual 62, 3) := by decide +kernel
theorem d_Query_beginOne_17 : decode b_Query_beginOne 17 = .ok (.return_, 1) := by decide +kernel
theorem d_Query_beginLevel_0 : decode b_Query_beginLevel 0 = .ok (.aload_n 0, 1) := by decide +kernel
theorem d_Query_beginLevel_1 : decode b_Query_beginLevel 1 = .ok (.getfield 11, 3) := by decide +kernel
theorem d_Query_beginLevel_4 : decode b_Query_beginLevel 4 = .ok (.aload_n 0, 1) := by decide +kernel
theorem d_Query_beginLevel_5 : decode b_Query_beginLevel 5 = .ok (.getfield 29, 3) := by decide +kernel
theorem d_Query_beginLevel_8 : decode b_Query_beginLevel 8 = .ok (.iconst 0, 1) := by decide +kernel
theorem d_Query_beginLevel_9 : decode b_Query_beginLevel 9 = .ok (.iastore, 1) := by decide +kernel
theorem d_Query_beginLevel_10 : decode b_Query_beginLevel 10 = .ok (.aload_n 0, 1) := by decide +kernel
theorem d_Query_beginLevel_11 : decode b_Query_beginLevel 11 = .ok (.getfield 15, 3) := by decide +kernel
theorem d_Query_beginLevel_14 : decode b_Query_beginLevel 14 = .ok (.aload_n 0, 1) := by decide +kernel
theorem d_Query_beginLevel_15 : decode b_Query_beginLevel 15 = .ok (.getfield 29, 3) := by decide +kernel
theorem d_Query_beginLevel_18 : decode b_Query_beginLevel 18 = .ok (.iconst (-1), 1) := by decide +kernel
theorem d_Query_beginLevel_19 : decode b_Query_beginLevel 19 = .ok (.iastore, 1) := by decide +kernel
theorem d_Query_beginLevel_20 : decode b_Query_beginLevel 20 = .ok (.aload_n 0, 1) := by decide +kernel
theorem d_Query_beginLevel_21 : decode b_Query_beginLevel 21 = .ok (.getfield 18, 3) := by decide +kernel
theorem d_Query_beginLevel_24 : decode b_Query_beginLevel 24 = .ok (.aload_n 0, 1) := by decide +kernel
theorem d_Query_beginLevel_25 : decode b_Query_beginLevel 25 = .ok (.getfield 29, 3) := by decide +kernel
theorem d_Query_beginLevel_28 : decode b_Query_beginLevel 28 = .ok (.iconst 0, 1) := by decide +kernel
theorem d_Query_beginLevel_29 : decode b_Query_beginLevel 29 = .ok (.bastore, 1) := by decide +kernel
theorem d_Query_beginLevel_30 : decode b_Query_beginLevel 30 = .ok (.aload_n 0, 1) := by decide +kernel
theorem d_Query_beginLevel_31 : decode b_Query_beginLevel 31 = .ok (.invokevirtual 59, 3) := by decide +kernel
theorem d_Query_beginLevel_34 : decode b_Query_beginLevel 34 = .ok (.return_, 1) := by decide +kernel
theorem d_Message_beginsWith_0 : decode b_Message_beginsWith 0 = .ok (.lload_n 0, 1) := by decide +kernel
theorem d_Message_beginsWith_1 : decode b_Message_beginsWith 1 = .ok (.lstore 4, 2) := by decide +kernel
theorem d_Message_beginsWith_3 : decode b_Message_beginsWith 3 = .ok (.iconst 0, 1) := by decide +kernel
theorem d_Message_beginsWith_4 : decode b_Message_beginsWith 4 = .ok (.istore 6, 2) := by decide +kernel
theorem d_Message_beginsWith_6 : decode b_Message_beginsWith 6 = .ok (.iload 6, 2) := by decide +kernel
theorem d_Message_beginsWith_8 : decode b_Message_beginsWith 8 = .ok (.bipush 12, 2) := by decide +kernel
theorem d_Message_beginsWith_10 : decode b_Message_beginsWith 10 = .ok (.if_icmp .ge 24, 3) := by decide +kernel
theorem d_Message_beginsWith_13 : decode b_Message_beginsWith 13 = .ok (.lload 4, 2) := by decide +kernel
theorem d_Message_beginsWith_15 : decode b_Message_beginsWith 15 = .ok (.lload_n 2, 1) := by decide +kernel
theorem d_Message_beginsWith_16 : decode b_Message_beginsWith 16 = .ok (.lcmp, 1) := by decide +kernel
theorem d_Message_beginsWith_17 : decode b_Message_beginsWith 17 = .ok (.ifCond .ne 5, 3) := by decide +kernel
theorem d_Message_beginsWith_20 : decode b_Message_beginsWith 20 = .ok (.iconst 1, 1) := by decide +kernel
theorem d_Message_beginsWith_21 : decode b_Message_beginsWith 21 = .ok (.ireturn, 1) := by decide +kernel
theorem d_Message_beginsWith_22 : decode b_Message_beginsWith 22 = .ok (.lload 4, 2) := by decide +kernel
theorem d_Message_beginsWith_24 : decode b_Message_beginsWith 24 = .ok (.iconst 5, 1) := by decide +kernel
theorem d_Message_beginsWith_25 : decode b_Message_beginsWith 25 = .ok (.lshr, 1) := by decide +kernel
theorem d_Message_beginsWith_26 : decode b_Message_beginsWith 26 = .ok (.lstore 4, 2) := by decide +kernel
theorem d_Message_beginsWith_28 : decode b_Message_beginsWith 28 = .ok (.iinc 6 1, 3) := by decide +kernel
theorem d_Message_beginsWith_31 : decode b_Message_beginsWith 31 = .ok (.goto (-25), 3) := by decide +kernel
theorem d_Message_beginsWith_34 : decode b_Message_beginsWith 34 = .ok (.iconst 0, 1) := by decide +kernel
theorem d_Message_beginsWith_35 : decode b_Message_beginsWith 35 = .ok (.ireturn, 1) := by decide +kernel
theorem d_Message_hasMatch_0 : decode b_Message_hasMatch 0 = .ok (.iconst 0, 1) := by decide +kernel
theorem d_Message_hasMatch_1 : decode b_Message_hasMatch 1 = .ok (.istore 5, 2) := by decide +kernel
theorem d_Message_hasMatch_3 : decode b_Message_hasMatch 3 = .ok (.iload 5, 2) := by decide +kernel
theorem d_Message_hasMatch_5 : decode b_Message_hasMatch 5 = .ok (.aload_n 0, 1) := by decide +kernel
theorem d_Message_hasMatch_6 : decode b_Message_hasMatch 6 = .ok (.getfield 33, 3) := by decide +kernel
theorem d_Message_hasMatch_9 : decode b_Message_hasMatch 9 = .ok (.if_icmp .ge 74, 3) := by decide +kernel
theorem d_Message_hasMatch_12 : decode b_Message_hasMatch 12 = .ok (.iload 4, 2) := by decide +kernel
theorem d_Message_hasMatch_14 : decode b_Message_hasMatch 14 = .ok (.iconst (-1), 1) := by decide +kernel
theorem d_Message_hasMatch_15 : decode b_Message_hasMatch 15 = .ok (.if_icmp .eq 15, 3) := by decide +kernel
theorem d_Message_hasMatch_18 : decode b_Message_hasMatch 18 = .ok (.iload 4, 2) := by decide +kernel
theorem d_Message_hasMatch_20 : decode b_Message_hasMatch 20 = .ok (.aload_n 0, 1) := by decide +kernel
theorem d_Message_hasMatch_21 : decode b_Message_hasMatch 21 = .ok (.getfield 19, 3) := by decide +kernel
theorem d_Message_hasMatch_24 : decode b_Message_hasMatch 24 = .ok (.iload 5, 2) := by decide +kernel
theorem d_Message_hasMatch_26 : decode b_Message_hasMatch 26 = .ok (.iaload, 1) := by decide +kernel
theorem d_Message_hasMatch_27 : decode b_Message_hasMatch 27 = .ok (.if_icmp .ne 7, 3) := by decide +kernel
theorem d_Message_hasMatch_30 : decode b_Message_hasMatch 30 = .ok (.iconst 1, 1) := by decide +kernel
theorem d_Message_hasMatch_31 : decode b_Message_hasMatch 31 = .ok (.goto 4, 3) := by decide +kernel
theorem d_Message_hasMatch_34 : decode b_Message_hasMatch 34 = .ok (.iconst 0, 1) := by decide +kernel
theorem d_Message_hasMatch_35 : decode b_Message_hasMatch 35 = .ok (.istore 6, 2) := by decide +kernel
theorem d_Message_hasMatch_37 : decode b_Message_hasMatch 37 = .ok (.iload 6, 2) := by decide +kernel
theorem d_Message_hasMatch_39 : decode b_Message_hasMatch 39 = .ok (.ifCond .eq 38, 3) := by decide +kernel
theorem d_Message_hasMatch_42 : decode b_Message_hasMatch 42 = .ok (.iload_n 3, 1) := by decide +kernel
theorem d_Message_hasMatch_43 : decode b_Message_hasMatch 43 = .ok (.ifCond .eq 20, 3) := by decide +kernel
theorem d_Message_hasMatch_46 : decode b_Message_hasMatch 46 = .ok (.aload_n 0, 1) := by decide +kernel
theorem d_Message_hasMatch_47 : decode b_Message_hasMatch 47 = .ok (.getfield 15, 3) := by decide +kernel
theorem d_Message_hasMatch_50 : decode b_Message_hasMatch 50 = .ok (.iload 5, 2) := by decide +kernel
theorem d_Message_hasMatch_52 : decode b_Message_hasMatch 52 = .ok (.laload, 1) := by decide +kernel
theorem d_Message_hasMatch_53 : decode b_Message_hasMatch 53 = .ok (.lload_n 1, 1) := by decide +kernel
theorem d_Message_hasMatch_54 : decode b_Message_hasMatch 54 = .ok (.invokestatic 73, 3) := by decide +kernel
theorem d_Message_hasMatch_57 : decode b_Message_hasMatch 57 = .ok (.ifCond .eq 20, 3) := by decide +kernel
theorem d_Message_hasMatch_60 : decode b_Message_hasMatch 60 = .ok (.goto 15, 3) := by decide +kernel
theorem d_Message_hasMatch_63 : decode b_Message_hasMatch 63 = .ok (.aload_n 0, 1) := by decide +kernel
theorem d_Message_hasMatch_64 : decode b_Message_hasMatch 64 = .ok (.getfield 15, 3) := by decide +kernel
theorem d_Message_hasMatch_67 : decode b_Message_hasMatch 67 = .ok (.iload 5, 2) := by decide +kernel
theorem d_Message_hasMatch_69 : decode b_Message_hasMatch 69 = .ok (.laload, 1) := by decide +kernel
theorem d_Message_hasMatch_70 : decode b_Message_hasMatch 70 = .ok (.lload_n 1, 1) := by decide +kernel
theorem d_Message_hasMatch_71 : decode b_Message_hasMatch 71 = .ok (.lcmp, 1) := by decide +kernel
theorem d_Message_hasMatch_72 : decode b_Message_hasMatch 72 = .ok (.ifCond .ne 5, 3) := by decide +kernel
theorem d_Message_hasMatch_75 : decode b_Message_hasMatch 75 = .ok (.iconst 1, 1) := by decide +kernel
theorem d_Message_hasMatch_76 : decode b_Message_hasMatch 76 = .ok (.ireturn, 1) := by decide +kernel
theorem d_Message_hasMatch_77 : decode b_Message_hasMatch 77 = .ok (.iinc 5 1, 3) := by decide +kernel
theorem d_Message_hasMatch_80 : decode b_Message_hasMatch 80 = .ok (.goto (-77), 3) := by decide +kernel
theorem d_Message_hasMatch_83 : decode b_Message_hasMatch 83 = .ok (.iconst 0, 1) := by decide +kernel
theorem d_Message_hasMatch_84 : decode b_Message_hasMatch 84 = .ok (.ireturn, 1) := by decide +kernel
theorem d_Query_endOne_0 : decode b_Query_endOne 0 = .ok (.aload_n 0, 1) := by decide +kernel
theorem d_Query_endOne_1 : decode b_Query_endOne 1 = .ok (.getfield 15, 3) := by decide +kernel
theorem d_Query_endOne_4 : decode b_Query_endOne 4 = .ok (.aload_n 0, 1) := by decide +kernel
theorem d_Query_endOne_5 : decode b_Query_endOne 5 = .ok (.getfield 29, 3) := by decide +kernel
theorem d_Query_endOne_8 : decode b_Query_endOne 8 = .ok (.dup2, 1) := by decide +kernel
theorem d_Query_endOne_9 : decode b_Query_endOne 9 = .ok (.iaload, 1) := by decide +kernel
theorem d_Query_endOne_10 : decode b_Query_endOne 10 = .ok (.aload_n 0, 1) := by decide +kernel
theorem d_Query_endOne_11 : decode b_Query_endOne 11 = .ok (.getfield 18, 3) := by decide +kernel
theorem d_Query_endOne_14 : decode b_Query_endOne 14 = .ok (.aload_n 0, 1) := by decide +kernel
theorem d_Query_endOne_15 : decode b_Query_endOne 15 = .ok (.getfield 29, 3) := by decide +kernel
theorem d_Query_endOne_18 : decode b_Query_endOne 18 = .ok (.baload, 1) := by decide +kernel
theorem d_Query_endOne_19 : decode b_Query_endOne 19 = .ok (.ifCond .eq 9, 3) := by decide +kernel
theorem d_Query_endOne_22 : decode b_Query_endOne 22 = .ok (.iload_n 1, 1) := by decide +kernel
theorem d_Query_endOne_23 : decode b_Query_endOne 23 = .ok (.iconst (-1), 1) := by decide +kernel
theorem d_Query_endOne_24 : decode b_Query_endOne 24 = .ok (.ixor, 1) := by decide +kernel
theorem d_Query_endOne_25 : decode b_Query_endOne 25 = .ok (.goto 4, 3) := by decide +kernel
theorem d_Query_endOne_28 : decode b_Query_endOne 28 = .ok (.iload_n 1, 1) := by decide +kernel
theorem d_Query_endOne_29 : decode b_Query_endOne 29 = .ok (.iand, 1) := by decide +kernel
theorem d_Query_endOne_30 : decode b_Query_endOne 30 = .ok (.iastore, 1) := by decide +kernel
theorem d_Query_endOne_31 : decode b_Query_endOne 31 = .ok (.aload_n 0, 1) := by decide +kernel
theorem d_Query_endOne_32 : decode b_Query_endOne 32 = .ok (.getfield 18, 3) := by decide +kernel
theorem d_Query_endOne_35 : decode b_Query_endOne 35 = .ok (.aload_n 0, 1) := by decide +kernel
theorem d_Query_endOne_36 : decode b_Query_endOne 36 = .ok (.getfield 29, 3) := by decide +kernel
theorem d_Query_endOne_39 : decode b_Query_endOne 39 = .ok (.iconst 0, 1) := by decide +kernel
theorem d_Query_endOne_40 : decode b_Query_endOne 40 = .ok (.bastore, 1) := by decide +kernel
theorem d_Query_endOne_41 : decode b_Query_endOne 41 = .ok (.aload_n 0, 1) := by decide +kernel
theorem d_Query_endOne_42 : decode b_Query_endOne 42 = .ok (.iconst 4, 1) := by decide +kernel
theorem d_Query_endOne_43 : decode b_Query_endOne 43 = .ok (.putfield 33, 3) := by decide +kernel
theorem d_Query_endOne_46 : decode b_Query_endOne 46 = .ok (.return_, 1) := by decide +kernel
theorem d_Query_endWord_0 : decode b_Query_endWord 0 = .ok (.iconst 0, 1) := by decide +kernel
theorem d_Query_endWord_1 : decode b_Query_endWord 1 = .ok (.istore_n 3, 1) := by decide +kernel
theorem d_Query_endWord_2 : decode b_Query_endWord 2 = .ok (.iconst 0, 1) := by decide +kernel
theorem d_Query_endWord_3 : decode b_Query_endWord 3 = .ok (.istore 4, 2) := by decide +kernel
theorem d_Query_endWord_5 : decode b_Query_endWord 5 = .ok (.iload 4, 2) := by decide +kernel
theorem d_Query_endWord_7 : decode b_Query_endWord 7 = .ok (.aload_n 1, 1) := by decide +kernel
theorem d_Query_endWord_8 : decode b_Query_endWord 8 = .ok (.arraylength, 1) := by decide +kernel
theorem d_Query_endWord_9 : decode b_Query_endWord 9 = .ok (.if_icmp .ge 38, 3) := by decide +kernel
theorem d_Query_endWord_12 : decode b_Query_endWord 12 = .ok (.aload_n 1, 1) := by decide +kernel
theorem d_Query_endWord_13 : decode b_Query_endWord 13 = .ok (.iload 4, 2) := by decide +kernel
theorem d_Query_endWord_15 : decode b_Query_endWord 15 = .ok (.aaload, 1) := by decide +kernel
theorem d_Query_endWord_16 : decode b_Query_endWord 16 = .ok (.aload_n 0, 1) := by decide +kernel
theorem d_Query_endWord_17 : decode b_Query_endWord 17 = .ok (.getfield 25, 3) := by decide +kernel
theorem d_Query_endWord_20 : decode b_Query_endWord 20 = .ok (.getfield 97, 3) := by decide +kernel
theorem d_Query_endWord_23 : decode b_Query_endWord 23 = .ok (.iload_n 2, 1) := by decide +kernel
theorem d_Query_endWord_24 : decode b_Query_endWord 24 = .ok (.aload_n 0, 1) := by decide +kernel
theorem d_Query_endWord_25 : decode b_Query_endWord 25 = .ok (.getfield 36, 3) := by decide +kernel
theorem d_Query_endWord_28 : decode b_Query_endWord 28 = .ok (.invokevirtual 118, 3) := by decide +kernel
theorem d_Query_endWord_31 : decode b_Query_endWord 31 = .ok (.ifCond .eq 10, 3) := by decide +kernel
theorem d_Query_endWord_34 : decode b_Query_endWord 34 = .ok (.iload_n 3, 1) := by decide +kernel
theorem d_Query_endWord_35 : decode b_Query_endWord 35 = .ok (.iconst 1, 1) := by decide +kernel
theorem d_Query_endWord_36 : decode b_Query_endWord 36 = .ok (.iload 4, 2) := by decide +kernel
theorem d_Query_endWord_38 : decode b_Query_endWord 38 = .ok (.ishl, 1) := by decide +kernel
theorem d_Query_endWord_39 : decode b_Query_endWord 39 = .ok (.ior, 1) := by decide +kernel
theorem d_Query_endWord_40 : decode b_Query_endWord 40 = .ok (.istore_n 3, 1) := by decide +kernel
theorem d_Query_endWord_41 : decode b_Query_endWord 41 = .ok (.iinc 4 1, 3) := by decide +kernel
theorem d_Query_endWord_44 : decode b_Query_endWord 44 = .ok (.goto (-39), 3) := by decide +kernel
theorem d_Query_endWord_47 : decode b_Query_endWord 47 = .ok (.aload_n 0, 1) := by decide +kernel
theorem d_Query_endWord_48 : decode b_Query_endWord 48 = .ok (.iload_n 3, 1) := by decide +kernel
theorem d_Query_endWord_49 : decode b_Query_endWord 49 = .ok (.invokevirtual 115, 3) := by decide +kernel
theorem d_Query_endWord_52 : decode b_Query_endWord 52 = .ok (.return_, 1) := by decide +kernel
theorem d_Query_readClosing_0 : decode b_Query_readClosing 0 = .ok (.aload_n 0, 1) := by decide +kernel
theorem d_Query_readClosing_1 : decode b_Query_readClosing 1 = .ok (.getfield 29, 3) := by decide +kernel
theorem d_Query_readClosing_4 : decode b_Query_readClosing 4 = .ok (.ifCond .ne 5, 3) := by decide +kernel
theorem d_Query_readClosing_7 : decode b_Query_readClosing 7 = .ok (.iconst 0, 1) := by decide +kernel
theorem d_Query_readClosing_8 : decode b_Query_readClosing 8 = .ok (.ireturn, 1) := by decide +kernel
theorem d_Query_readClosing_9 : decode b_Query_readClosing 9 = .ok (.aload_n 0, 1) := by decide +kernel
theorem d_Query_readClosing_10 : decode b_Query_readClosing 10 = .ok (.getfield 11, 3) := by decide +kernel
theorem d_Query_readClosing_13 : decode b_Query_readClosing 13 = .ok (.aload_n 0, 1) := by decide +kernel
theorem d_Query_readClosing_14 : decode b_Query_readClosing 14 = .ok (.getfield 29, 3) := by decide +kernel
theorem d_Query_readClosing_17 : decode b_Query_readClosing 17 = .ok (.iaload, 1) := by decide +kernel
theorem d_Query_readClosing_18 : decode b_Query_readClosing 18 = .ok (.aload_n 0, 1) := by decide +kernel
theorem d_Query_readClosing_19 : decode b_Query_readClosing 19 = .ok (.getfield 15, 3) := by decide +kernel
theorem d_Query_readClosing_22 : decode b_Query_readClosing 22 = .ok (.aload_n 0, 1) := by decide +kernel
theorem d_Query_readClosing_23 : decode b_Query_readClosing 23 = .ok (.getfield 29, 3) := by decide +kernel
theorem d_Query_readClosing_26 : decode b_Query_readClosing 26 = .ok (.iaload, 1) := by decide +kernel
theorem d_Query_readClosing_27 : decode b_Query_readClosing 27 = .ok (.ior, 1) := by decide +kernel
theorem d_Query_readClosing_28 : decode b_Query_readClosing 28 = .ok (.istore_n 1, 1) := by decide +kernel
theorem d_Query_readClosing_29 : decode b_Query_readClosing 29 = .ok (.aload_n 0, 1) := by decide +kernel
theorem d_Query_readClosing_30 : decode b_Query_readClosing 30 = .ok (.dup, 1) := by decide +kernel
theorem d_Query_readClosing_31 : decode b_Query_readClosing 31 = .ok (.getfield 29, 3) := by decide +kernel
theorem d_Query_readClosing_34 : decode b_Query_readClosing 34 = .ok (.iconst 1, 1) := by decide +kernel
theorem d_Query_readClosing_35 : decode b_Query_readClosing 35 = .ok (.isub, 1) := by decide +kernel
theorem d_Query_readClosing_36 : decode b_Query_readClosing 36 = .ok (.putfield 29, 3) := by decide +kernel
theorem d_Query_readClosing_39 : decode b_Query_readClosing 39 = .ok (.aload_n 0, 1) := by decide +kernel
theorem d_Query_readClosing_40 : decode b_Query_readClosing 40 = .ok (.iload_n 1, 1) := by decide +kernel
theorem d_Query_readClosing_41 : decode b_Query_readClosing 41 = .ok (.invokevirtual 115, 3) := by decide +kernel
theorem d_Query_readClosing_44 : decode b_Query_readClosing 44 = .ok (.iconst 1, 1) := by decide +kernel
theorem d_Query_readClosing_45 : decode b_Query_readClosing 45 = .ok (.ireturn, 1) := by decide +kernel
theorem d_Query_readBehindOne_0 : decode b_Query_readBehindOne 0 = .ok (.iload_n 1, 1) := by decide +kernel
theorem d_Query_readBehindOne_1 : decode b_Query_readBehindOne 1 = .ok (.lookupswitch 83 #[(38, 35), (41, 78), (124, 41)], 35) := by decide +kernel
theorem d_Query_readBehindOne_36 : decode b_Query_readBehindOne 36 = .ok (.aload_n 0, 1) := by decide +kernel
theorem d_Query_readBehindOne_37 : decode b_Query_readBehindOne 37 = .ok (.invokevirtual 59, 3) := by decide +kernel
theorem d_Query_readBehindOne_40 : decode b_Query_readBehindOne 40 = .ok (.iconst 1, 1) := by decide +kernel
theorem d_Query_readBehindOne_41 : decode b_Query_readBehindOne 41 = .ok (.ireturn, 1) := by decide +kernel
theorem d_Query_readBehindOne_42 : decode b_Query_readBehindOne 42 = .ok (.aload_n 0, 1) := by decide +kernel
theorem d_Query_readBehindOne_43 : decode b_Query_readBehindOne 43 = .ok (.getfield 11, 3) := by decide +kernel
theorem d_Query_readBehindOne_46 : decode b_Query_readBehindOne 46 = .ok (.aload_n 0, 1) := by decide +kernel
theorem d_Query_readBehindOne_47 : decode b_Query_readBehindOne 47 = .ok (.getfield 29, 3) := by decide +kernel
theorem d_Query_readBehindOne_50 : decode b_Query_readBehindOne 50 = .ok (.dup2, 1) := by decide +kernel
theorem d_Query_readBehindOne_51 : decode b_Query_readBehindOne 51 = .ok (.iaload, 1) := by decide +kernel
theorem d_Query_readBehindOne_52 : decode b_Query_readBehindOne 52 = .ok (.aload_n 0, 1) := by decide +kernel
theorem d_Query_readBehindOne_53 : decode b_Query_readBehindOne 53 = .ok (.getfield 15, 3) := by decide +kernel
theorem d_Query_readBehindOne_56 : decode b_Query_readBehindOne 56 = .ok (.aload_n 0, 1) := by decide +kernel
theorem d_Query_readBehindOne_57 : decode b_Query_readBehindOne 57 = .ok (.getfield 29, 3) := by decide +kernel
theorem d_Query_readBehindOne_60 : decode b_Query_readBehindOne 60 = .ok (.iaload, 1) := by decide +kernel
theorem d_Query_readBehindOne_61 : decode b_Query_readBehindOne 61 = .ok (.ior, 1) := by decide +kernel
theorem d_Query_readBehindOne_62 : decode b_Query_readBehindOne 62 = .ok (.iastore, 1) := by decide +kernel
theorem d_Query_readBehindOne_63 : decode b_Query_readBehindOne 63 = .ok (.aload_n 0, 1) := by decide +kernel
theorem d_Query_readBehindOne_64 : decode b_Query_readBehindOne 64 = .ok (.getfield 15, 3) := by decide +kernel
theorem d_Query_readBehindOne_67 : decode b_Query_readBehindOne 67 = .ok (.aload_n 0, 1) := by decide +kernel
theorem d_Query_readBehindOne_68 : decode b_Query_readBehindOne 68 = .ok (.getfield 29, 3) := by decide +kernel
theorem d_Query_readBehindOne_71 : decode b_Query_readBehindOne 71 = .ok (.iconst (-1), 1) := by decide +kernel
theorem d_Query_readBehindOne_72 : decode b_Query_readBehindOne 72 = .ok (.iastore, 1) := by decide +kernel
theorem d_Query_readBehindOne_73 : decode b_Query_readBehindOne 73 = .ok (.aload_n 0, 1) := by decide +kernel
theorem d_Query_readBehindOne_74 : decode b_Query_readBehindOne 74 = .ok (.invokevirtual 59, 3) := by decide +kernel
theorem d_Query_readBehindOne_77 : decode b_Query_readBehindOne 77 = .ok (.iconst 1, 1) := by decide +kernel
theorem d_Query_readBehindOne_78 : decode b_Query_readBehindOne 78 = .ok (.ireturn, 1) := by decide +kernel
theorem d_Query_readBehindOne_79 : decode b_Query_readBehindOne 79 = .ok (.aload_n 0, 1) := by decide +kernel
theorem d_Query_readBehindOne_80 : decode b_Query_readBehindOne 80 = .ok (.invokevirtual 122, 3) := by decide +kernel
theorem d_Query_readBehindOne_83 : decode b_Query_readBehindOne 83 = .ok (.ireturn, 1) := by decide +kernel
theorem d_Query_readBehindOne_84 : decode b_Query_readBehindOne 84 = .ok (.iconst 0, 1) := by decide +kernel
theorem d_Query_readBehindOne_85 : decode b_Query_readBehindOne 85 = .ok (.ireturn, 1) := by decide +kernel
theorem d_Query_readBehindWord_0 : decode b_Query_readBehindWord 0 = .ok (.aload_n 0, 1) := by decide +kernel
theorem d_Query_readBehindWord_1 : decode b_Query_readBehindWord 1 = .ok (.aload_n 2, 1) := by decide +kernel
theorem d_Query_readBehindWord_2 : decode b_Query_readBehindWord 2 = .ok (.iload_n 1, 1) := by decide +kernel
theorem d_Query_readBehindWord_3 : decode b_Query_readBehindWord 3 = .ok (.bipush 42, 2) := by decide +kernel
theorem d_Query_readBehindWord_5 : decode b_Query_readBehindWord 5 = .ok (.if_icmp .ne 7, 3) := by decide +kernel
theorem d_Query_readBehindWord_8 : decode b_Query_readBehindWord 8 = .ok (.iconst 1, 1) := by decide +kernel
theorem d_Query_readBehindWord_9 : decode b_Query_readBehindWord 9 = .ok (.goto 4, 3) := by decide +kernel
theorem d_Query_readBehindWord_12 : decode b_Query_readBehindWord 12 = .ok (.iconst 0, 1) := by decide +kernel
theorem d_Query_readBehindWord_13 : decode b_Query_readBehindWord 13 = .ok (.invokevirtual 55, 3) := by decide +kernel
theorem d_Query_readBehindWord_16 : decode b_Query_readBehindWord 16 = .ok (.iload_n 1, 1) := by decide +kernel
theorem d_Query_readBehindWord_17 : decode b_Query_readBehindWord 17 = .ok (.bipush 42, 2) := by decide +kernel
theorem d_Query_readBehindWord_19 : decode b_Query_readBehindWord 19 = .ok (.if_icmp .eq 11, 3) := by decide +kernel
theorem d_Query_readBehindWord_22 : decode b_Query_readBehindWord 22 = .ok (.aload_n 0, 1) := by decide +kernel
theorem d_Query_readBehindWord_23 : decode b_Query_readBehindWord 23 = .ok (.iload_n 1, 1) := by decide +kernel
theorem d_Query_readBehindWord_24 : decode b_Query_readBehindWord 24 = .ok (.invokevirtual 84, 3) := by decide +kernel
theorem d_Query_readBehindWord_27 : decode b_Query_readBehindWord 27 = .ok (.ifCond .eq 7, 3) := by decide +kernel
theorem d_Query_readBehindWord_30 : decode b_Query_readBehindWord 30 = .ok (.iconst 1, 1) := by decide +kernel
theorem d_Query_readBehindWord_31 : decode b_Query_readBehindWord 31 = .ok (.goto 4, 3) := by decide +kernel
theorem d_Query_readBehindWord_34 : decode b_Query_readBehindWord 34 = .ok (.iconst 0, 1) := by decide +kernel
theorem d_Query_readBehindWord_35 : decode b_Query_readBehindWord 35 = .ok (.ireturn, 1) := by decide +kernel
theorem d_Query_fieldNamed_0 : decode b_Query_fieldNamed 0 = .ok (.lload_n 0, 1) := by decide +kernel
theorem d_Query_fieldNamed_1 : decode b_Query_fieldNamed 1 = .ok (.bipush 115, 2) := by decide +kernel
theorem d_Query_fieldNamed_3 : decode b_Query_fieldNamed 3 = .ok (.invokestatic 87, 3) := by decide +kernel
theorem d_Query_fieldNamed_6 : decode b_Query_fieldNamed 6 = .ok (.i2l, 1) := by decide +kernel
theorem d_Query_fieldNamed_7 : decode b_Query_fieldNamed 7 = .ok (.lcmp, 1) := by decide +kernel
theorem d_Query_fieldNamed_8 : decode b_Query_fieldNamed 8 = .ok (.ifCond .ne 5, 3) := by decide +kernel
theorem d_Query_fieldNamed_11 : decode b_Query_fieldNamed 11 = .ok (.iconst 0, 1) := by decide +kernel
theorem d_Query_fieldNamed_12 : decode b_Query_fieldNamed 12 = .ok (.ireturn, 1) := by decide +kernel
theorem d_Query_fieldNamed_13 : decode b_Query_fieldNamed 13 = .ok (.lload_n 0, 1) := by decide +kernel
theorem d_Query_fieldNamed_14 : decode b_Query_fieldNamed 14 = .ok (.bipush 102, 2) := by decide +kernel
theorem d_Query_fieldNamed_16 : decode b_Query_fieldNamed 16 = .ok (.invokestatic 87, 3) := by decide +kernel
theorem d_Query_fieldNamed_19 : decode b_Query_fieldNamed 19 = .ok (.i2l, 1) := by decide +kernel
theorem d_Query_fieldNamed_20 : decode b_Query_fieldNamed 20 = .ok (.lcmp, 1) := by decide +kernel
theorem d_Query_fieldNamed_21 : decode b_Query_fieldNamed 21 = .ok (.ifCond .ne 5, 3) := by decide +kernel
theorem d_Query_fieldNamed_24 : decode b_Query_fieldNamed 24 = .ok (.iconst 1, 1) := by decide +kernel
theorem d_Query_fieldNamed_25 : decode b_Query_fieldNamed 25 = .ok (.ireturn, 1) := by decide +kernel
theorem d_Query_fieldNamed_26 : decode b_Query_fieldNamed 26 = .ok (.lload_n 0, 1) := by decide +kernel
theorem d_Query_fieldNamed_27 : decode b_Query_fieldNamed 27 = .ok (.bipush 98, 2) := by decide +kernel
theorem d_Query_fieldNamed_29 : decode b_Query_fieldNamed 29 = .ok (.invokestatic 87, 3) := by decide +kernel
theorem d_Query_fieldNamed_32 : decode b_Query_fieldNamed 32 = .ok (.i2l, 1) := by decide +kernel
theorem d_Query_fieldNamed_33 : decode b_Query_fieldNamed 33 = .ok (.lcmp, 1) := by decide +kernel
theorem d_Query_fieldNamed_34 : decode b_Query_fieldNamed 34 = .ok (.ifCond .ne 7, 3) := by decide +kernel
theorem d_Query_fieldNamed_37 : decode b_Query_fieldNamed 37 = .ok (.iconst 2, 1) := by decide +kernel
theorem d_Query_fieldNamed_38 : decode b_Query_fieldNamed 38 = .ok (.goto 4, 3) := by decide +kernel
theorem d_Query_fieldNamed_41 : decode b_Query_fieldNamed 41 = .ok (.iconst (-1), 1) := by decide +kernel
theorem d_Query_fieldNamed_42 : decode b_Query_fieldNamed 42 = .ok (.ireturn, 1) := by decide +kernel
theorem d_Query_readColon_0 : decode b_Query_readColon 0 = .ok (.iload_n 1, 1) := by decide +kernel
theorem d_Query_readColon_1 : decode b_Query_readColon 1 = .ok (.bipush 58, 2) := by decide +kernel
theorem d_Query_readColon_3 : decode b_Query_readColon 3 = .ok (.if_icmp .ne 22, 3) := by decide +kernel
theorem d_Query_readColon_6 : decode b_Query_readColon 6 = .ok (.aload_n 0, 1) := by decide +kernel
theorem d_Query_readColon_7 : decode b_Query_readColon 7 = .ok (.getfield 25, 3) := by decide +kernel
theorem d_Query_readColon_10 : decode b_Query_readColon 10 = .ok (.getfield 94, 3) := by decide +kernel
theorem d_Query_readColon_13 : decode b_Query_readColon 13 = .ok (.iconst 1, 1) := by decide +kernel
theorem d_Query_readColon_14 : decode b_Query_readColon 14 = .ok (.if_icmp .ne 11, 3) := by decide +kernel
theorem d_Query_readColon_17 : decode b_Query_readColon 17 = .ok (.aload_n 0, 1) := by decide +kernel
theorem d_Query_readColon_18 : decode b_Query_readColon 18 = .ok (.getfield 36, 3) := by decide +kernel
theorem d_Query_readColon_21 : decode b_Query_readColon 21 = .ok (.iconst (-1), 1) := by decide +kernel
theorem d_Query_readColon_22 : decode b_Query_readColon 22 = .ok (.if_icmp .eq 5, 3) := by decide +kernel
theorem d_Query_readColon_25 : decode b_Query_readColon 25 = .ok (.iconst 0, 1) := by decide +kernel
theorem d_Query_readColon_26 : decode b_Query_readColon 26 = .ok (.ireturn, 1) := by decide +kernel
theorem d_Query_readColon_27 : decode b_Query_readColon 27 = .ok (.aload_n 0, 1) := by decide +kernel
theorem d_Query_readColon_28 : decode b_Query_readColon 28 = .ok (.getfield 25, 3) := by decide +kernel
theorem d_Query_readColon_31 : decode b_Query_readColon 31 = .ok (.getfield 97, 3) := by decide +kernel
theorem d_Query_readColon_34 : decode b_Query_readColon 34 = .ok (.bipush 116, 2) := by decide +kernel
theorem d_Query_readColon_36 : decode b_Query_readColon 36 = .ok (.invokestatic 87, 3) := by decide +kernel
theorem d_Query_readColon_39 : decode b_Query_readColon 39 = .ok (.i2l, 1) := by decide +kernel
theorem d_Query_readColon_40 : decode b_Query_readColon 40 = .ok (.lcmp, 1) := by decide +kernel
theorem d_Query_readColon_41 : decode b_Query_readColon 41 = .ok (.ifCond .ne 7, 3) := by decide +kernel
theorem d_Query_readColon_44 : decode b_Query_readColon 44 = .ok (.iconst 1, 1) := by decide +kernel
theorem d_Query_readColon_45 : decode b_Query_readColon 45 = .ok (.goto 4, 3) := by decide +kernel
theorem d_Query_readColon_48 : decode b_Query_readColon 48 = .ok (.iconst 0, 1) := by decide +kernel
theorem d_Query_readColon_49 : decode b_Query_readColon 49 = .ok (.istore_n 2, 1) := by decide +kernel
theorem d_Query_readColon_50 : decode b_Query_readColon 50 = .ok (.aload_n 0, 1) := by decide +kernel
theorem d_Query_readColon_51 : decode b_Query_readColon 51 = .ok (.aload_n 0, 1) := by decide +kernel
theorem d_Query_readColon_52 : decode b_Query_readColon 52 = .ok (.getfield 25, 3) := by decide +kernel
theorem d_Query_readColon_55 : decode b_Query_readColon 55 = .ok (.getfield 97, 3) := by decide +kernel
theorem d_Query_readColon_58 : decode b_Query_readColon 58 = .ok (.invokestatic 101, 3) := by decide +kernel
theorem d_Query_readColon_61 : decode b_Query_readColon 61 = .ok (.putfield 36, 3) := by decide +kernel
theorem d_Query_readColon_64 : decode b_Query_readColon 64 = .ok (.aload_n 0, 1) := by decide +kernel
theorem d_Query_readColon_65 : decode b_Query_readColon 65 = .ok (.getfield 25, 3) := by decide +kernel
theorem d_Query_readColon_68 : decode b_Query_readColon 68 = .ok (.invokevirtual 62, 3) := by decide +kernel
theorem d_Query_readColon_71 : decode b_Query_readColon 71 = .ok (.aload_n 0, 1) := by decide +kernel
theorem d_Query_readColon_72 : decode b_Query_readColon 72 = .ok (.iload_n 2, 1) := by decide +kernel
theorem d_Query_readColon_73 : decode b_Query_readColon 73 = .ok (.ifCond .eq 7, 3) := by decide +kernel
theorem d_Query_readColon_76 : decode b_Query_readColon 76 = .ok (.iconst 3, 1) := by decide +kernel
theorem d_Query_readColon_77 : decode b_Query_readColon 77 = .ok (.goto 4, 3) := by decide +kernel
theorem d_Query_readColon_80 : decode b_Query_readColon 80 = .ok (.iconst 1, 1) := by decide +kernel
theorem d_Query_readColon_81 : decode b_Query_readColon 81 = .ok (.putfield 33, 3) := by decide +kernel
theorem d_Query_readColon_84 : decode b_Query_readColon 84 = .ok (.iload_n 2, 1) := by decide +kernel
theorem d_Query_readColon_85 : decode b_Query_readColon 85 = .ok (.ifCond .ne 11, 3) := by decide +kernel
theorem d_Query_readColon_88 : decode b_Query_readColon 88 = .ok (.aload_n 0, 1) := by decide +kernel
theorem d_Query_readColon_89 : decode b_Query_readColon 89 = .ok (.getfield 36, 3) := by decide +kernel
theorem d_Query_readColon_92 : decode b_Query_readColon 92 = .ok (.iconst (-1), 1) := by decide +kernel
theorem d_Query_readColon_93 : decode b_Query_readColon 93 = .ok (.if_icmp .eq 7, 3) := by decide +kernel
theorem d_Query_readColon_96 : decode b_Query_readColon 96 = .ok (.iconst 1, 1) := by decide +kernel
theorem d_Query_readColon_97 : decode b_Query_readColon 97 = .ok (.goto 4, 3) := by decide +kernel
theorem d_Query_readColon_100 : decode b_Query_readColon 100 = .ok (.iconst 0, 1) := by decide +kernel
theorem d_Query_readColon_101 : decode b_Query_readColon 101 = .ok (.ireturn, 1) := by decide +kernel
theorem d_Query_readLetter_0 : decode b_Query_readLetter 0 = .ok (.iload_n 1, 1) := by decide +kernel
theorem d_Query_readLetter_1 : decode b_Query_readLetter 1 = .ok (.invokestatic 87, 3) := by decide +kernel
theorem d_Query_readLetter_4 : decode b_Query_readLetter 4 = .ok (.istore_n 2, 1) := by decide +kernel
theorem d_Query_readLetter_5 : decode b_Query_readLetter 5 = .ok (.iload_n 2, 1) := by decide +kernel
theorem d_Query_readLetter_6 : decode b_Query_readLetter 6 = .ok (.ifCond .ne 5, 3) := by decide +kernel
theorem d_Query_readLetter_9 : decode b_Query_readLetter 9 = .ok (.iconst 0, 1) := by decide +kernel
theorem d_Query_readLetter_10 : decode b_Query_readLetter 10 = .ok (.ireturn, 1) := by decide +kernel
theorem d_Query_readLetter_11 : decode b_Query_readLetter 11 = .ok (.aload_n 0, 1) := by decide +kernel
theorem d_Query_readLetter_12 : decode b_Query_readLetter 12 = .ok (.getfield 25, 3) := by decide +kernel
theorem d_Query_readLetter_15 : decode b_Query_readLetter 15 = .ok (.iload_n 2, 1) := by decide +kernel
theorem d_Query_readLetter_16 : decode b_Query_readLetter 16 = .ok (.invokevirtual 90, 3) := by decide +kernel
theorem d_Query_readLetter_19 : decode b_Query_readLetter 19 = .ok (.aload_n 0, 1) := by decide +kernel
theorem d_Query_readLetter_20 : decode b_Query_readLetter 20 = .ok (.iconst 2, 1) := by decide +kernel
theorem d_Query_readLetter_21 : decode b_Query_readLetter 21 = .ok (.putfield 33, 3) := by decide +kernel
theorem d_Query_readLetter_24 : decode b_Query_readLetter 24 = .ok (.iconst 1, 1) := by decide +kernel
theorem d_Query_readLetter_25 : decode b_Query_readLetter 25 = .ok (.ireturn, 1) := by decide +kernel
theorem d_Query_readNot_0 : decode b_Query_readNot 0 = .ok (.iload_n 1, 1) := by decide +kernel
theorem d_Query_readNot_1 : decode b_Query_readNot 1 = .ok (.bipush 33, 2) := by decide +kernel
theorem d_Query_readNot_3 : decode b_Query_readNot 3 = .ok (.if_icmp .eq 5, 3) := by decide +kernel
theorem d_Query_readNot_6 : decode b_Query_readNot 6 = .ok (.iconst 0, 1) := by decide +kernel
theorem d_Query_readNot_7 : decode b_Query_readNot 7 = .ok (.ireturn, 1) := by decide +kernel
theorem d_Query_readNot_8 : decode b_Query_readNot 8 = .ok (.aload_n 0, 1) := by decide +kernel
theorem d_Query_readNot_9 : decode b_Query_readNot 9 = .ok (.getfield 18, 3) := by decide +kernel
theorem d_Query_readNot_12 : decode b_Query_readNot 12 = .ok (.aload_n 0, 1) := by decide +kernel
theorem d_Query_readNot_13 : decode b_Query_readNot 13 = .ok (.getfield 29, 3) := by decide +kernel
theorem d_Query_readNot_16 : decode b_Query_readNot 16 = .ok (.aload_n 0, 1) := by decide +kernel
theorem d_Query_readNot_17 : decode b_Query_readNot 17 = .ok (.getfield 18, 3) := by decide +kernel
theorem d_Query_readNot_20 : decode b_Query_readNot 20 = .ok (.aload_n 0, 1) := by decide +kernel
theorem d_Query_readNot_21 : decode b_Query_readNot 21 = .ok (.getfield 29, 3) := by decide +kernel
theorem d_Query_readNot_24 : decode b_Query_readNot 24 = .ok (.baload, 1) := by decide +kernel
theorem d_Query_readNot_25 : decode b_Query_readNot 25 = .ok (.ifCond .ne 7, 3) := by decide +kernel
theorem d_Query_readNot_28 : decode b_Query_readNot 28 = .ok (.iconst 1, 1) := by decide +kernel
theorem d_Query_readNot_29 : decode b_Query_readNot 29 = .ok (.goto 4, 3) := by decide +kernel
theorem d_Query_readNot_32 : decode b_Query_readNot 32 = .ok (.iconst 0, 1) := by decide +kernel
theorem d_Query_readNot_33 : decode b_Query_readNot 33 = .ok (.bastore, 1) := by decide +kernel
theorem d_Query_readNot_34 : decode b_Query_readNot 34 = .ok (.iconst 1, 1) := by decide +kernel
theorem d_Query_readNot_35 : decode b_Query_readNot 35 = .ok (.ireturn, 1) := by decide +kernel
theorem d_Query_readOpening_0 : decode b_Query_readOpening 0 = .ok (.iload_n 1, 1) := by decide +kernel
theorem d_Query_readOpening_1 : decode b_Query_readOpening 1 = .ok (.bipush 40, 2) := by decide +kernel
theorem d_Query_readOpening_3 : decode b_Query_readOpening 3 = .ok (.if_icmp .ne 14, 3) := by decide +kernel
theorem d_Query_readOpening_6 : decode b_Query_readOpening 6 = .ok (.aload_n 0, 1) := by decide +kernel
theorem d_Query_readOpening_7 : decode b_Query_readOpening 7 = .ok (.getfield 29, 3) := by decide +kernel
theorem d_Query_readOpening_10 : decode b_Query_readOpening 10 = .ok (.iconst 1, 1) := by decide +kernel
theorem d_Query_readOpening_11 : decode b_Query_readOpening 11 = .ok (.iadd, 1) := by decide +kernel
theorem d_Query_readOpening_12 : decode b_Query_readOpening 12 = .ok (.bipush 7, 2) := by decide +kernel
theorem d_Query_readOpening_14 : decode b_Query_readOpening 14 = .ok (.if_icmp .lt 5, 3) := by decide +kernel
theorem d_Query_readOpening_17 : decode b_Query_readOpening 17 = .ok (.iconst 0, 1) := by decide +kernel
theorem d_Query_readOpening_18 : decode b_Query_readOpening 18 = .ok (.ireturn, 1) := by decide +kernel
theorem d_Query_readOpening_19 : decode b_Query_readOpening 19 = .ok (.aload_n 0, 1) := by decide +kernel
theorem d_Query_readOpening_20 : decode b_Query_readOpening 20 = .ok (.dup, 1) := by decide +kernel
theorem d_Query_readOpening_21 : decode b_Query_readOpening 21 = .ok (.getfield 29, 3) := by decide +kernel
theorem d_Query_readOpening_24 : decode b_Query_readOpening 24 = .ok (.iconst 1, 1) := by decide +kernel
theorem d_Query_readOpening_25 : decode b_Query_readOpening 25 = .ok (.iadd, 1) := by decide +kernel
theorem d_Query_readOpening_26 : decode b_Query_readOpening 26 = .ok (.putfield 29, 3) := by decide +kernel
theorem d_Query_readOpening_29 : decode b_Query_readOpening 29 = .ok (.aload_n 0, 1) := by decide +kernel
theorem d_Query_readOpening_30 : decode b_Query_readOpening 30 = .ok (.invokevirtual 39, 3) := by decide +kernel
theorem d_Query_readOpening_33 : decode b_Query_readOpening 33 = .ok (.iconst 1, 1) := by decide +kernel
theorem d_Query_readOpening_34 : decode b_Query_readOpening 34 = .ok (.ireturn, 1) := by decide +kernel
theorem d_Message_hasTag_0 : decode b_Message_hasTag 0 = .ok (.aload_n 0, 1) := by decide +kernel
theorem d_Message_hasTag_1 : decode b_Message_hasTag 1 = .ok (.getfield 39, 3) := by decide +kernel
theorem d_Message_hasTag_4 : decode b_Message_hasTag 4 = .ok (.iload_n 1, 1) := by decide +kernel
theorem d_Message_hasTag_5 : decode b_Message_hasTag 5 = .ok (.ishr, 1) := by decide +kernel
theorem d_Message_hasTag_6 : decode b_Message_hasTag 6 = .ok (.iconst 1, 1) := by decide +kernel
theorem d_Message_hasTag_7 : decode b_Message_hasTag 7 = .ok (.iand, 1) := by decide +kernel
theorem d_Message_hasTag_8 : decode b_Message_hasTag 8 = .ok (.ifCond .eq 7, 3) := by decide +kernel
theorem d_Message_hasTag_11 : decode b_Message_hasTag 11 = .ok (.iconst 1, 1) := by decide +kernel
theorem d_Message_hasTag_12 : decode b_Message_hasTag 12 = .ok (.goto 4, 3) := by decide +kernel
theorem d_Message_hasTag_15 : decode b_Message_hasTag 15 = .ok (.iconst 0, 1) := by decide +kernel
theorem d_Message_hasTag_16 : decode b_Message_hasTag 16 = .ok (.ireturn, 1) := by decide +kernel
theorem d_Query_readTag_0 : decode b_Query_readTag 0 = .ok (.iload_n 1, 1) := by decide +kernel
theorem d_Query_readTag_1 : decode b_Query_readTag 1 = .ok (.invokestatic 107, 3) := by decide +kernel
theorem d_Query_readTag_4 : decode b_Query_readTag 4 = .ok (.istore_n 3, 1) := by decide +kernel
theorem d_Query_readTag_5 : decode b_Query_readTag 5 = .ok (.iload_n 3, 1) := by decide +kernel
theorem d_Query_readTag_6 : decode b_Query_readTag 6 = .ok (.ifCond .lt 9, 3) := by decide +kernel
theorem d_Query_readTag_9 : decode b_Query_readTag 9 = .ok (.iload_n 3, 1) := by decide +kernel
theorem d_Query_readTag_10 : decode b_Query_readTag 10 = .ok (.bipush 8, 2) := by decide +kernel
theorem d_Query_readTag_12 : decode b_Query_readTag 12 = .ok (.if_icmp .lt 5, 3) := by decide +kernel
theorem d_Query_readTag_15 : decode b_Query_readTag 15 = .ok (.iconst 0, 1) := by decide +kernel
theorem d_Query_readTag_16 : decode b_Query_readTag 16 = .ok (.ireturn, 1) := by decide +kernel
theorem d_Query_readTag_17 : decode b_Query_readTag 17 = .ok (.iconst 0, 1) := by decide +kernel
theorem d_Query_readTag_18 : decode b_Query_readTag 18 = .ok (.istore 4, 2) := by decide +kernel
theorem d_Query_readTag_20 : decode b_Query_readTag 20 = .ok (.iconst 0, 1) := by decide +kernel
theorem d_Query_readTag_21 : decode b_Query_readTag 21 = .ok (.istore 5, 2) := by decide +kernel
theorem d_Query_readTag_23 : decode b_Query_readTag 23 = .ok (.iload 5, 2) := by decide +kernel
theorem d_Query_readTag_25 : decode b_Query_readTag 25 = .ok (.aload_n 2, 1) := by decide +kernel
theorem d_Query_readTag_26 : decode b_Query_readTag 26 = .ok (.arraylength, 1) := by decide +kernel
theorem d_Query_readTag_27 : decode b_Query_readTag 27 = .ok (.if_icmp .ge 29, 3) := by decide +kernel
theorem d_Query_readTag_30 : decode b_Query_readTag 30 = .ok (.aload_n 2, 1) := by decide +kernel
theorem d_Query_readTag_31 : decode b_Query_readTag 31 = .ok (.iload 5, 2) := by decide +kernel
theorem d_Query_readTag_33 : decode b_Query_readTag 33 = .ok (.aaload, 1) := by decide +kernel
theorem d_Query_readTag_34 : decode b_Query_readTag 34 = .ok (.iload_n 3, 1) := by decide +kernel
theorem d_Query_readTag_35 : decode b_Query_readTag 35 = .ok (.invokevirtual 110, 3) := by decide +kernel
theorem d_Query_readTag_38 : decode b_Query_readTag 38 = .ok (.ifCond .eq 12, 3) := by decide +kernel
theorem d_Query_readTag_41 : decode b_Query_readTag 41 = .ok (.iload 4, 2) := by decide +kernel
theorem d_Query_readTag_43 : decode b_Query_readTag 43 = .ok (.iconst 1, 1) := by decide +kernel
theorem d_Query_readTag_44 : decode b_Query_readTag 44 = .ok (.iload 5, 2) := by decide +kernel
theorem d_Query_readTag_46 : decode b_Query_readTag 46 = .ok (.ishl, 1) := by decide +kernel
theorem d_Query_readTag_47 : decode b_Query_readTag 47 = .ok (.ior, 1) := by decide +kernel
theorem d_Query_readTag_48 : decode b_Query_readTag 48 = .ok (.istore 4, 2) := by decide +kernel
theorem d_Query_readTag_50 : decode b_Query_readTag 50 = .ok (.iinc 5 1, 3) := by decide +kernel
theorem d_Query_readTag_53 : decode b_Query_readTag 53 = .ok (.goto (-30), 3) := by decide +kernel
theorem d_Query_readTag_56 : decode b_Query_readTag 56 = .ok (.aload_n 0, 1) := by decide +kernel
theorem d_Query_readTag_57 : decode b_Query_readTag 57 = .ok (.iload 4, 2) := by decide +kernel
theorem d_Query_readTag_59 : decode b_Query_readTag 59 = .ok (.invokevirtual 115, 3) := by decide +kernel
theorem d_Query_readTag_62 : decode b_Query_readTag 62 = .ok (.iconst 1, 1) := by decide +kernel
theorem d_Query_readTag_63 : decode b_Query_readTag 63 = .ok (.ireturn, 1) := by decide +kernel
theorem d_Query_readCharacter_0 : decode b_Query_readCharacter 0 = .ok (.aload_n 0, 1) := by decide +kernel
theorem d_Query_readCharacter_1 : decode b_Query_readCharacter 1 = .ok (.getfield 33, 3) := by decide +kernel
theorem d_Query_readCharacter_4 : decode b_Query_readCharacter 4 = .ok (.tableswitch 106 0 3 #[32, 62, 68, 99], 32) := by decide +kernel
theorem d_Query_readCharacter_36 : decode b_Query_readCharacter 36 = .ok (.aload_n 0, 1) := by decide +kernel
theorem d_Query_readCharacter_37 : decode b_Query_readCharacter 37 = .ok (.iload_n 1, 1) := by decide +kernel
theorem d_Query_readCharacter_38 : decode b_Query_readCharacter 38 = .ok (.invokevirtual 65, 3) := by decide +kernel
theorem d_Query_readCharacter_41 : decode b_Query_readCharacter 41 = .ok (.ifCond .ne 19, 3) := by decide +kernel
theorem d_Query_readCharacter_44 : decode b_Query_readCharacter 44 = .ok (.aload_n 0, 1) := by decide +kernel
theorem d_Query_readCharacter_45 : decode b_Query_readCharacter 45 = .ok (.iload_n 1, 1) := by decide +kernel
theorem d_Query_readCharacter_46 : decode b_Query_readCharacter 46 = .ok (.invokevirtual 69, 3) := by decide +kernel
theorem d_Query_readCharacter_49 : decode b_Query_readCharacter 49 = .ok (.ifCond .ne 11, 3) := by decide +kernel
theorem d_Query_readCharacter_52 : decode b_Query_readCharacter 52 = .ok (.aload_n 0, 1) := by decide +kernel
theorem d_Query_readCharacter_53 : decode b_Query_readCharacter 53 = .ok (.iload_n 1, 1) := by decide +kernel
theorem d_Query_readCharacter_54 : decode b_Query_readCharacter 54 = .ok (.invokevirtual 72, 3) := by decide +kernel
theorem d_Query_readCharacter_57 : decode b_Query_readCharacter 57 = .ok (.ifCond .eq 7, 3) := by decide +kernel
theorem d_Query_readCharacter_60 : decode b_Query_readCharacter 60 = .ok (.iconst 1, 1) := by decide +kernel
theorem d_Query_readCharacter_61 : decode b_Query_readCharacter 61 = .ok (.goto 4, 3) := by decide +kernel
theorem d_Query_readCharacter_64 : decode b_Query_readCharacter 64 = .ok (.iconst 0, 1) := by decide +kernel
theorem d_Query_readCharacter_65 : decode b_Query_readCharacter 65 = .ok (.ireturn, 1) := by decide +kernel
theorem d_Query_readCharacter_66 : decode b_Query_readCharacter 66 = .ok (.aload_n 0, 1) := by decide +kernel
theorem d_Query_readCharacter_67 : decode b_Query_readCharacter 67 = .ok (.iload_n 1, 1) := by decide +kernel
theorem d_Query_readCharacter_68 : decode b_Query_readCharacter 68 = .ok (.invokevirtual 65, 3) := by decide +kernel
theorem d_Query_readCharacter_71 : decode b_Query_readCharacter 71 = .ok (.ireturn, 1) := by decide +kernel
theorem d_Query_readCharacter_72 : decode b_Query_readCharacter 72 = .ok (.aload_n 0, 1) := by decide +kernel
theorem d_Query_readCharacter_73 : decode b_Query_readCharacter 73 = .ok (.iload_n 1, 1) := by decide +kernel
theorem d_Query_readCharacter_74 : decode b_Query_readCharacter 74 = .ok (.invokevirtual 65, 3) := by decide +kernel
theorem d_Query_readCharacter_77 : decode b_Query_readCharacter 77 = .ok (.ifCond .ne 20, 3) := by decide +kernel
theorem d_Query_readCharacter_80 : decode b_Query_readCharacter 80 = .ok (.aload_n 0, 1) := by decide +kernel
theorem d_Query_readCharacter_81 : decode b_Query_readCharacter 81 = .ok (.iload_n 1, 1) := by decide +kernel
theorem d_Query_readCharacter_82 : decode b_Query_readCharacter 82 = .ok (.invokevirtual 75, 3) := by decide +kernel
theorem d_Query_readCharacter_85 : decode b_Query_readCharacter 85 = .ok (.ifCond .ne 12, 3) := by decide +kernel
theorem d_Query_readCharacter_88 : decode b_Query_readCharacter 88 = .ok (.aload_n 0, 1) := by decide +kernel
theorem d_Query_readCharacter_89 : decode b_Query_readCharacter 89 = .ok (.iload_n 1, 1) := by decide +kernel
theorem d_Query_readCharacter_90 : decode b_Query_readCharacter 90 = .ok (.aload_n 2, 1) := by decide +kernel
theorem d_Query_readCharacter_91 : decode b_Query_readCharacter 91 = .ok (.invokevirtual 78, 3) := by decide +kernel
theorem d_Query_readCharacter_94 : decode b_Query_readCharacter 94 = .ok (.ifCond .eq 7, 3) := by decide +kernel
theorem d_Query_readCharacter_97 : decode b_Query_readCharacter 97 = .ok (.iconst 1, 1) := by decide +kernel
theorem d_Query_readCharacter_98 : decode b_Query_readCharacter 98 = .ok (.goto 4, 3) := by decide +kernel
theorem d_Query_readCharacter_101 : decode b_Query_readCharacter 101 = .ok (.iconst 0, 1) := by decide +kernel
theorem d_Query_readCharacter_102 : decode b_Query_readCharacter 102 = .ok (.ireturn, 1) := by decide +kernel
theorem d_Query_readCharacter_103 : decode b_Query_readCharacter 103 = .ok (.aload_n 0, 1) := by decide +kernel
theorem d_Query_readCharacter_104 : decode b_Query_readCharacter 104 = .ok (.iload_n 1, 1) := by decide +kernel
theorem d_Query_readCharacter_105 : decode b_Query_readCharacter 105 = .ok (.aload_n 2, 1) := by decide +kernel
theorem d_Query_readCharacter_106 : decode b_Query_readCharacter 106 = .ok (.invokevirtual 81, 3) := by decide +kernel
theorem d_Query_readCharacter_109 : decode b_Query_readCharacter 109 = .ok (.ireturn, 1) := by decide +kernel
theorem d_Query_readCharacter_110 : decode b_Query_readCharacter 110 = .ok (.aload_n 0, 1) := by decide +kernel
theorem d_Query_readCharacter_111 : decode b_Query_readCharacter 111 = .ok (.iload_n 1, 1) := by decide +kernel
theorem d_Query_readCharacter_112 : decode b_Query_readCharacter 112 = .ok (.invokevirtual 84, 3) := by decide +kernel
theorem d_Query_readCharacter_115 : decode b_Query_readCharacter 115 = .ok (.ireturn, 1) := by decide +kernel
theorem d_Query_read_0 : decode b_Query_read 0 = .ok (.aload_n 0, 1) := by decide +kernel
theorem d_Query_read_1 : decode b_Query_read 1 = .ok (.iconst 0, 1) := by decide +kernel
theorem d_Query_read_2 : decode b_Query_read 2 = .ok (.putfield 29, 3) := by decide +kernel
theorem d_Query_read_5 : decode b_Query_read 5 = .ok (.aload_n 0, 1) := by decide +kernel
theorem d_Query_read_6 : decode b_Query_read 6 = .ok (.invokevirtual 39, 3) := by decide +kernel
theorem d_Query_read_9 : decode b_Query_read 9 = .ok (.iconst 0, 1) := by decide +kernel
theorem d_Query_read_10 : decode b_Query_read 10 = .ok (.istore_n 3, 1) := by decide +kernel
theorem d_Query_read_11 : decode b_Query_read 11 = .ok (.iload_n 3, 1) := by decide +kernel
theorem d_Query_read_12 : decode b_Query_read 12 = .ok (.aload_n 1, 1) := by decide +kernel
theorem d_Query_read_13 : decode b_Query_read 13 = .ok (.getfield 42, 3) := by decide +kernel
theorem d_Query_read_16 : decode b_Query_read 16 = .ok (.if_icmp .ge 24, 3) := by decide +kernel
theorem d_Query_read_19 : decode b_Query_read 19 = .ok (.aload_n 0, 1) := by decide +kernel
theorem d_Query_read_20 : decode b_Query_read 20 = .ok (.aload_n 1, 1) := by decide +kernel
theorem d_Query_read_21 : decode b_Query_read 21 = .ok (.iload_n 3, 1) := by decide +kernel
theorem d_Query_read_22 : decode b_Query_read 22 = .ok (.invokevirtual 47, 3) := by decide +kernel
theorem d_Query_read_25 : decode b_Query_read 25 = .ok (.aload_n 2, 1) := by decide +kernel
theorem d_Query_read_26 : decode b_Query_read 26 = .ok (.invokevirtual 51, 3) := by decide +kernel
theorem d_Query_read_29 : decode b_Query_read 29 = .ok (.ifCond .ne 5, 3) := by decide +kernel
theorem d_Query_read_32 : decode b_Query_read 32 = .ok (.iload_n 3, 1) := by decide +kernel
theorem d_Query_read_33 : decode b_Query_read 33 = .ok (.ireturn, 1) := by decide +kernel
theorem d_Query_read_34 : decode b_Query_read 34 = .ok (.iinc 3 1, 3) := by decide +kernel
theorem d_Query_read_37 : decode b_Query_read 37 = .ok (.goto (-26), 3) := by decide +kernel
theorem d_Query_read_40 : decode b_Query_read 40 = .ok (.aload_n 0, 1) := by decide +kernel
theorem d_Query_read_41 : decode b_Query_read 41 = .ok (.getfield 33, 3) := by decide +kernel
theorem d_Query_read_44 : decode b_Query_read 44 = .ok (.iconst 2, 1) := by decide +kernel
theorem d_Query_read_45 : decode b_Query_read 45 = .ok (.if_icmp .ne 9, 3) := by decide +kernel
theorem d_Query_read_48 : decode b_Query_read 48 = .ok (.aload_n 0, 1) := by decide +kernel
theorem d_Query_read_49 : decode b_Query_read 49 = .ok (.aload_n 2, 1) := by decide +kernel
theorem d_Query_read_50 : decode b_Query_read 50 = .ok (.iconst 0, 1) := by decide +kernel
theorem d_Query_read_51 : decode b_Query_read 51 = .ok (.invokevirtual 55, 3) := by decide +kernel
theorem d_Query_read_54 : decode b_Query_read 54 = .ok (.aload_n 0, 1) := by decide +kernel
theorem d_Query_read_55 : decode b_Query_read 55 = .ok (.getfield 33, 3) := by decide +kernel
theorem d_Query_read_58 : decode b_Query_read 58 = .ok (.iconst 4, 1) := by decide +kernel
theorem d_Query_read_59 : decode b_Query_read 59 = .ok (.if_icmp .ne 14, 3) := by decide +kernel
theorem d_Query_read_62 : decode b_Query_read 62 = .ok (.aload_n 0, 1) := by decide +kernel
theorem d_Query_read_63 : decode b_Query_read 63 = .ok (.getfield 29, 3) := by decide +kernel
theorem d_Query_read_66 : decode b_Query_read 66 = .ok (.ifCond .ne 7, 3) := by decide +kernel
theorem d_Query_read_69 : decode b_Query_read 69 = .ok (.iconst (-1), 1) := by decide +kernel
theorem d_Query_read_70 : decode b_Query_read 70 = .ok (.goto 7, 3) := by decide +kernel
theorem d_Query_read_73 : decode b_Query_read 73 = .ok (.aload_n 1, 1) := by decide +kernel
theorem d_Query_read_74 : decode b_Query_read 74 = .ok (.getfield 42, 3) := by decide +kernel
theorem d_Query_read_77 : decode b_Query_read 77 = .ok (.ireturn, 1) := by decide +kernel
theorem d_Integer_bitCount_0 : decode b_Integer_bitCount 0 = .ok (.iload_n 0, 1) := by decide +kernel
theorem d_Integer_bitCount_1 : decode b_Integer_bitCount 1 = .ok (.iload_n 0, 1) := by decide +kernel
theorem d_Integer_bitCount_2 : decode b_Integer_bitCount 2 = .ok (.iconst 1, 1) := by decide +kernel
theorem d_Integer_bitCount_3 : decode b_Integer_bitCount 3 = .ok (.iushr, 1) := by decide +kernel
theorem d_Integer_bitCount_4 : decode b_Integer_bitCount 4 = .ok (.ldc_w 265, 3) := by decide +kernel
theorem d_Integer_bitCount_7 : decode b_Integer_bitCount 7 = .ok (.iand, 1) := by decide +kernel
theorem d_Integer_bitCount_8 : decode b_Integer_bitCount 8 = .ok (.isub, 1) := by decide +kernel
theorem d_Integer_bitCount_9 : decode b_Integer_bitCount 9 = .ok (.istore_n 0, 1) := by decide +kernel
theorem d_Integer_bitCount_10 : decode b_Integer_bitCount 10 = .ok (.iload_n 0, 1) := by decide +kernel
theorem d_Integer_bitCount_11 : decode b_Integer_bitCount 11 = .ok (.ldc_w 266, 3) := by decide +kernel
theorem d_Integer_bitCount_14 : decode b_Integer_bitCount 14 = .ok (.iand, 1) := by decide +kernel
theorem d_Integer_bitCount_15 : decode b_Integer_bitCount 15 = .ok (.iload_n 0, 1) := by decide +kernel
theorem d_Integer_bitCount_16 : decode b_Integer_bitCount 16 = .ok (.iconst 2, 1) := by decide +kernel
theorem d_Integer_bitCount_17 : decode b_Integer_bitCount 17 = .ok (.iushr, 1) := by decide +kernel
theorem d_Integer_bitCount_18 : decode b_Integer_bitCount 18 = .ok (.ldc_w 266, 3) := by decide +kernel
theorem d_Integer_bitCount_21 : decode b_Integer_bitCount 21 = .ok (.iand, 1) := by decide +kernel
theorem d_Integer_bitCount_22 : decode b_Integer_bitCount 22 = .ok (.iadd, 1) := by decide +kernel
theorem d_Integer_bitCount_23 : decode b_Integer_bitCount 23 = .ok (.istore_n 0, 1) := by decide +kernel
theorem d_Integer_bitCount_24 : decode b_Integer_bitCount 24 = .ok (.iload_n 0, 1) := by decide +kernel
theorem d_Integer_bitCount_25 : decode b_Integer_bitCount 25 = .ok (.iload_n 0, 1) := by decide +kernel
theorem d_Integer_bitCount_26 : decode b_Integer_bitCount 26 = .ok (.iconst 4, 1) := by decide +kernel
theorem d_Integer_bitCount_27 : decode b_Integer_bitCount 27 = .ok (.iushr, 1) := by decide +kernel
theorem d_Integer_bitCount_28 : decode b_Integer_bitCount 28 = .ok (.iadd, 1) := by decide +kernel
theorem d_Integer_bitCount_29 : decode b_Integer_bitCount 29 = .ok (.ldc_w 267, 3) := by decide +kernel
theorem d_Integer_bitCount_32 : decode b_Integer_bitCount 32 = .ok (.iand, 1) := by decide +kernel
theorem d_Integer_bitCount_33 : decode b_Integer_bitCount 33 = .ok (.istore_n 0, 1) := by decide +kernel
theorem d_Integer_bitCount_34 : decode b_Integer_bitCount 34 = .ok (.iload_n 0, 1) := by decide +kernel
theorem d_Integer_bitCount_35 : decode b_Integer_bitCount 35 = .ok (.iload_n 0, 1) := by decide +kernel
theorem d_Integer_bitCount_36 : decode b_Integer_bitCount 36 = .ok (.bipush 8, 2) := by decide +kernel
theorem d_Integer_bitCount_38 : decode b_Integer_bitCount 38 = .ok (.iushr, 1) := by decide +kernel
theorem d_Integer_bitCount_39 : decode b_Integer_bitCount 39 = .ok (.iadd, 1) := by decide +kernel
theorem d_Integer_bitCount_40 : decode b_Integer_bitCount 40 = .ok (.istore_n 0, 1) := by decide +kernel
theorem d_Integer_bitCount_41 : decode b_Integer_bitCount 41 = .ok (.iload_n 0, 1) := by decide +kernel
theorem d_Integer_bitCount_42 : decode b_Integer_bitCount 42 = .ok (.iload_n 0, 1) := by decide +kernel
theorem d_Integer_bitCount_43 : decode b_Integer_bitCount 43 = .ok (.bipush 16, 2) := by decide +kernel
theorem d_Integer_bitCount_45 : decode b_Integer_bitCount 45 = .ok (.iushr, 1) := by decide +kernel
theorem d_Integer_bitCount_46 : decode b_Integer_bitCount 46 = .ok (.iadd, 1) := by decide +kernel
theorem d_Integer_bitCount_47 : decode b_Integer_bitCount 47 = .ok (.istore_n 0, 1) := by decide +kernel
theorem d_Integer_bitCount_48 : decode b_Integer_bitCount 48 = .ok (.iload_n 0, 1) := by decide +kernel
theorem d_Integer_bitCount_49 : decode b_Integer_bitCount 49 = .ok (.bipush 63, 2) := by decide +kernel
theorem d_Integer_bitCount_51 : decode b_Integer_bitCount 51 = .ok (.iand, 1) := by decide +kernel
theorem d_Integer_bitCount_52 : decode b_Integer_bitCount 52 = .ok (.ireturn, 1) := by decide +kernel
theorem d_Threads_topOf_0 : decode b_Threads_topOf 0 = .ok (.iload_n 1, 1) := by decide +kernel
theorem d_Threads_topOf_1 : decode b_Threads_topOf 1 = .ok (.istore_n 2, 1) := by decide +kernel
theorem d_Threads_topOf_2 : decode b_Threads_topOf 2 = .ok (.iconst 0, 1) := by decide +kernel
theorem d_Threads_topOf_3 : decode b_Threads_topOf 3 = .ok (.istore_n 3, 1) := by decide +kernel
theorem d_Threads_topOf_4 : decode b_Threads_topOf 4 = .ok (.iload_n 3, 1) := by decide +kernel
theorem d_Threads_topOf_5 : decode b_Threads_topOf 5 = .ok (.bipush 64, 2) := by decide +kernel
theorem d_Threads_topOf_7 : decode b_Threads_topOf 7 = .ok (.if_icmp .ge 26, 3) := by decide +kernel
theorem d_Threads_topOf_10 : decode b_Threads_topOf 10 = .ok (.aload_n 0, 1) := by decide +kernel
theorem d_Threads_topOf_11 : decode b_Threads_topOf 11 = .ok (.getfield 9, 3) := by decide +kernel
theorem d_Threads_topOf_14 : decode b_Threads_topOf 14 = .ok (.iload_n 2, 1) := by decide +kernel
theorem d_Threads_topOf_15 : decode b_Threads_topOf 15 = .ok (.iaload, 1) := by decide +kernel
theorem d_Threads_topOf_16 : decode b_Threads_topOf 16 = .ok (.iconst (-1), 1) := by decide +kernel
theorem d_Threads_topOf_17 : decode b_Threads_topOf 17 = .ok (.if_icmp .eq 16, 3) := by decide +kernel
theorem d_Threads_topOf_20 : decode b_Threads_topOf 20 = .ok (.aload_n 0, 1) := by decide +kernel
theorem d_Threads_topOf_21 : decode b_Threads_topOf 21 = .ok (.getfield 9, 3) := by decide +kernel
theorem d_Threads_topOf_24 : decode b_Threads_topOf 24 = .ok (.iload_n 2, 1) := by decide +kernel
theorem d_Threads_topOf_25 : decode b_Threads_topOf 25 = .ok (.iaload, 1) := by decide +kernel
theorem d_Threads_topOf_26 : decode b_Threads_topOf 26 = .ok (.istore_n 2, 1) := by decide +kernel
theorem d_Threads_topOf_27 : decode b_Threads_topOf 27 = .ok (.iinc 3 1, 3) := by decide +kernel
theorem d_Threads_topOf_30 : decode b_Threads_topOf 30 = .ok (.goto (-26), 3) := by decide +kernel
theorem d_Threads_topOf_33 : decode b_Threads_topOf 33 = .ok (.iload_n 2, 1) := by decide +kernel
theorem d_Threads_topOf_34 : decode b_Threads_topOf 34 = .ok (.ireturn, 1) := by decide +kernel
theorem d_Threads_parentOf_0 : decode b_Threads_parentOf 0 = .ok (.iload_n 1, 1) := by decide +kernel
theorem d_Threads_parentOf_1 : decode b_Threads_parentOf 1 = .ok (.ifCond .lt 9, 3) := by decide +kernel
theorem d_Threads_parentOf_4 : decode b_Threads_parentOf 4 = .ok (.iload_n 1, 1) := by decide +kernel
theorem d_Threads_parentOf_5 : decode b_Threads_parentOf 5 = .ok (.bipush 64, 2) := by decide +kernel
theorem d_Threads_parentOf_7 : decode b_Threads_parentOf 7 = .ok (.if_icmp .lt 7, 3) := by decide +kernel
theorem d_Threads_parentOf_10 : decode b_Threads_parentOf 10 = .ok (.iconst (-1), 1) := by decide +kernel
theorem d_Threads_parentOf_11 : decode b_Threads_parentOf 11 = .ok (.goto 9, 3) := by decide +kernel
theorem d_Threads_parentOf_14 : decode b_Threads_parentOf 14 = .ok (.aload_n 0, 1) := by decide +kernel
theorem d_Threads_parentOf_15 : decode b_Threads_parentOf 15 = .ok (.getfield 9, 3) := by decide +kernel
theorem d_Threads_parentOf_18 : decode b_Threads_parentOf 18 = .ok (.iload_n 1, 1) := by decide +kernel
theorem d_Threads_parentOf_19 : decode b_Threads_parentOf 19 = .ok (.iaload, 1) := by decide +kernel
theorem d_Threads_parentOf_20 : decode b_Threads_parentOf 20 = .ok (.ireturn, 1) := by decide +kernel
theorem d_Message_hasWord_0 : decode b_Message_hasWord 0 = .ok (.iload_n 1, 1) := by decide +kernel
theorem d_Message_hasWord_1 : decode b_Message_hasWord 1 = .ok (.ifCond .lt 15, 3) := by decide +kernel
theorem d_Message_hasWord_4 : decode b_Message_hasWord 4 = .ok (.iload_n 1, 1) := by decide +kernel
theorem d_Message_hasWord_5 : decode b_Message_hasWord 5 = .ok (.aload_n 0, 1) := by decide +kernel
theorem d_Message_hasWord_6 : decode b_Message_hasWord 6 = .ok (.getfield 33, 3) := by decide +kernel
theorem d_Message_hasWord_9 : decode b_Message_hasWord 9 = .ok (.if_icmp .ge 7, 3) := by decide +kernel
theorem d_Message_hasWord_12 : decode b_Message_hasWord 12 = .ok (.iconst 1, 1) := by decide +kernel
theorem d_Message_hasWord_13 : decode b_Message_hasWord 13 = .ok (.goto 4, 3) := by decide +kernel
theorem d_Message_hasWord_16 : decode b_Message_hasWord 16 = .ok (.iconst 0, 1) := by decide +kernel
theorem d_Message_hasWord_17 : decode b_Message_hasWord 17 = .ok (.ireturn, 1) := by decide +kernel
theorem d_Message_hasCodeBefore_0 : decode b_Message_hasCodeBefore 0 = .ok (.iconst 0, 1) := by decide +kernel
theorem d_Message_hasCodeBefore_1 : decode b_Message_hasCodeBefore 1 = .ok (.istore 4, 2) := by decide +kernel
theorem d_Message_hasCodeBefore_3 : decode b_Message_hasCodeBefore 3 = .ok (.iload 4, 2) := by decide +kernel
theorem d_Message_hasCodeBefore_5 : decode b_Message_hasCodeBefore 5 = .ok (.iload_n 1, 1) := by decide +kernel
theorem d_Message_hasCodeBefore_6 : decode b_Message_hasCodeBefore 6 = .ok (.if_icmp .ge 23, 3) := by decide +kernel
theorem d_Message_hasCodeBefore_9 : decode b_Message_hasCodeBefore 9 = .ok (.aload_n 0, 1) := by decide +kernel
theorem d_Message_hasCodeBefore_10 : decode b_Message_hasCodeBefore 10 = .ok (.getfield 15, 3) := by decide +kernel
theorem d_Message_hasCodeBefore_13 : decode b_Message_hasCodeBefore 13 = .ok (.iload 4, 2) := by decide +kernel
theorem d_Message_hasCodeBefore_15 : decode b_Message_hasCodeBefore 15 = .ok (.laload, 1) := by decide +kernel
theorem d_Message_hasCodeBefore_16 : decode b_Message_hasCodeBefore 16 = .ok (.lload_n 2, 1) := by decide +kernel
theorem d_Message_hasCodeBefore_17 : decode b_Message_hasCodeBefore 17 = .ok (.lcmp, 1) := by decide +kernel
theorem d_Message_hasCodeBefore_18 : decode b_Message_hasCodeBefore 18 = .ok (.ifCond .ne 5, 3) := by decide +kernel
theorem d_Message_hasCodeBefore_21 : decode b_Message_hasCodeBefore 21 = .ok (.iconst 1, 1) := by decide +kernel
theorem d_Message_hasCodeBefore_22 : decode b_Message_hasCodeBefore 22 = .ok (.ireturn, 1) := by decide +kernel
theorem d_Message_hasCodeBefore_23 : decode b_Message_hasCodeBefore 23 = .ok (.iinc 4 1, 3) := by decide +kernel
theorem d_Message_hasCodeBefore_26 : decode b_Message_hasCodeBefore 26 = .ok (.goto (-23), 3) := by decide +kernel
theorem d_Message_hasCodeBefore_29 : decode b_Message_hasCodeBefore 29 = .ok (.iconst 0, 1) := by decide +kernel
theorem d_Message_hasCodeBefore_30 : decode b_Message_hasCodeBefore 30 = .ok (.ireturn, 1) := by decide +kernel
theorem d_Long_bitCount_0 : decode b_Long_bitCount 0 = .ok (.lload_n 0, 1) := by decide +kernel
theorem d_Long_bitCount_1 : decode b_Long_bitCount 1 = .ok (.lload_n 0, 1) := by decide +kernel
theorem d_Long_bitCount_2 : decode b_Long_bitCount 2 = .ok (.iconst 1, 1) := by decide +kernel
theorem d_Long_bitCount_3 : decode b_Long_bitCount 3 = .ok (.lushr, 1) := by decide +kernel
theorem d_Long_bitCount_4 : decode b_Long_bitCount 4 = .ok (.ldc2_w 314, 3) := by decide +kernel
theorem d_Long_bitCount_7 : decode b_Long_bitCount 7 = .ok (.land, 1) := by decide +kernel
theorem d_Long_bitCount_8 : decode b_Long_bitCount 8 = .ok (.lsub, 1) := by decide +kernel
theorem d_Long_bitCount_9 : decode b_Long_bitCount 9 = .ok (.lstore_n 0, 1) := by decide +kernel
theorem d_Long_bitCount_10 : decode b_Long_bitCount 10 = .ok (.lload_n 0, 1) := by decide +kernel
theorem d_Long_bitCount_11 : decode b_Long_bitCount 11 = .ok (.ldc2_w 316, 3) := by decide +kernel
theorem d_Long_bitCount_14 : decode b_Long_bitCount 14 = .ok (.land, 1) := by decide +kernel
theorem d_Long_bitCount_15 : decode b_Long_bitCount 15 = .ok (.lload_n 0, 1) := by decide +kernel
theorem d_Long_bitCount_16 : decode b_Long_bitCount 16 = .ok (.iconst 2, 1) := by decide +kernel
theorem d_Long_bitCount_17 : decode b_Long_bitCount 17 = .ok (.lushr, 1) := by decide +kernel
theorem d_Long_bitCount_18 : decode b_Long_bitCount 18 = .ok (.ldc2_w 316, 3) := by decide +kernel
theorem d_Long_bitCount_21 : decode b_Long_bitCount 21 = .ok (.land, 1) := by decide +kernel
theorem d_Long_bitCount_22 : decode b_Long_bitCount 22 = .ok (.ladd, 1) := by decide +kernel
theorem d_Long_bitCount_23 : decode b_Long_bitCount 23 = .ok (.lstore_n 0, 1) := by decide +kernel
theorem d_Long_bitCount_24 : decode b_Long_bitCount 24 = .ok (.lload_n 0, 1) := by decide +kernel
theorem d_Long_bitCount_25 : decode b_Long_bitCount 25 = .ok (.lload_n 0, 1) := by decide +kernel
theorem d_Long_bitCount_26 : decode b_Long_bitCount 26 = .ok (.iconst 4, 1) := by decide +kernel
theorem d_Long_bitCount_27 : decode b_Long_bitCount 27 = .ok (.lushr, 1) := by decide +kernel
theorem d_Long_bitCount_28 : decode b_Long_bitCount 28 = .ok (.ladd, 1) := by decide +kernel
theorem d_Long_bitCount_29 : decode b_Long_bitCount 29 = .ok (.ldc2_w 318, 3) := by decide +kernel
theorem d_Long_bitCount_32 : decode b_Long_bitCount 32 = .ok (.land, 1) := by decide +kernel
theorem d_Long_bitCount_33 : decode b_Long_bitCount 33 = .ok (.lstore_n 0, 1) := by decide +kernel
theorem d_Long_bitCount_34 : decode b_Long_bitCount 34 = .ok (.lload_n 0, 1) := by decide +kernel
theorem d_Long_bitCount_35 : decode b_Long_bitCount 35 = .ok (.lload_n 0, 1) := by decide +kernel
theorem d_Long_bitCount_36 : decode b_Long_bitCount 36 = .ok (.bipush 8, 2) := by decide +kernel
theorem d_Long_bitCount_38 : decode b_Long_bitCount 38 = .ok (.lushr, 1) := by decide +kernel
theorem d_Long_bitCount_39 : decode b_Long_bitCount 39 = .ok (.ladd, 1) := by decide +kernel
theorem d_Long_bitCount_40 : decode b_Long_bitCount 40 = .ok (.lstore_n 0, 1) := by decide +kernel
theorem d_Long_bitCount_41 : decode b_Long_bitCount 41 = .ok (.lload_n 0, 1) := by decide +kernel
theorem d_Long_bitCount_42 : decode b_Long_bitCount 42 = .ok (.lload_n 0, 1) := by decide +kernel
theorem d_Long_bitCount_43 : decode b_Long_bitCount 43 = .ok (.bipush 16, 2) := by decide +kernel
theorem d_Long_bitCount_45 : decode b_Long_bitCount 45 = .ok (.lushr, 1) := by decide +kernel
theorem d_Long_bitCount_46 : decode b_Long_bitCount 46 = .ok (.ladd, 1) := by decide +kernel
theorem d_Long_bitCount_47 : decode b_Long_bitCount 47 = .ok (.lstore_n 0, 1) := by decide +kernel
theorem d_Long_bitCount_48 : decode b_Long_bitCount 48 = .ok (.lload_n 0, 1) := by decide +kernel
theorem d_Long_bitCount_49 : decode b_Long_bitCount 49 = .ok (.lload_n 0, 1) := by decide +kernel
theorem d_Long_bitCount_50 : decode b_Long_bitCount 50 = .ok (.bipush 32, 2) := by decide +kernel
theorem d_Long_bitCount_52 : decode b_Long_bitCount 52 = .ok (.lushr, 1) := by decide +kernel
theorem d_Long_bitCount_53 : decode b_Long_bitCount 53 = .ok (.ladd, 1) := by decide +kernel
theorem d_Long_bitCount_54 : decode b_Long_bitCount 54 = .ok (.lstore_n 0, 1) := by decide +kernel
theorem d_Long_bitCount_55 : decode b_Long_bitCount 55 = .ok (.lload_n 0, 1) := by decide +kernel
theorem d_Long_bitCount_56 : decode b_Long_bitCount 56 = .ok (.l2i, 1) := by decide +kernel
theorem d_Long_bitCount_57 : decode b_Long_bitCount 57 = .ok (.bipush 127, 2) := by decide +kernel
theorem d_Long_bitCount_59 : decode b_Long_bitCount 59 = .ok (.iand, 1) := by decide +kernel
theorem d_Long_bitCount_60 : decode b_Long_bitCount 60 = .ok (.ireturn, 1) := by decide +kernel
