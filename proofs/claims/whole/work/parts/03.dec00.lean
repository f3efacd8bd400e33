theorem dX0_init_0 : decode cX0_init 0 = .ok (.aload_n 0, 1) := by decide +kernel
theorem dX0_init_1 : decode cX0_init 1 = .ok (.invokespecial 3, 3) := by decide +kernel
theorem dX0_init_4 : decode cX0_init 4 = .ok (.aload_n 0, 1) := by decide +kernel
theorem dX0_init_5 : decode cX0_init 5 = .ok (.sipush 1600, 3) := by decide +kernel
theorem dX0_init_8 : decode cX0_init 8 = .ok (.newarray .int, 2) := by decide +kernel
theorem dX0_init_10 : decode cX0_init 10 = .ok (.putfield 9, 3) := by decide +kernel
theorem dX0_init_13 : decode cX0_init 13 = .ok (.aload_n 0, 1) := by decide +kernel
theorem dX0_init_14 : decode cX0_init 14 = .ok (.iconst 3, 1) := by decide +kernel
theorem dX0_init_15 : decode cX0_init 15 = .ok (.newarray .int, 2) := by decide +kernel
theorem dX0_init_17 : decode cX0_init 17 = .ok (.putfield 15, 3) := by decide +kernel
theorem dX0_init_20 : decode cX0_init 20 = .ok (.aload_n 0, 1) := by decide +kernel
theorem dX0_init_21 : decode cX0_init 21 = .ok (.iconst 3, 1) := by decide +kernel
theorem dX0_init_22 : decode cX0_init 22 = .ok (.newarray .int, 2) := by decide +kernel
theorem dX0_init_24 : decode cX0_init 24 = .ok (.putfield 18, 3) := by decide +kernel
theorem dX0_init_27 : decode cX0_init 27 = .ok (.aload_n 0, 1) := by decide +kernel
theorem dX0_init_28 : decode cX0_init 28 = .ok (.iconst 0, 1) := by decide +kernel
theorem dX0_init_29 : decode cX0_init 29 = .ok (.putfield 21, 3) := by decide +kernel
theorem dX0_init_32 : decode cX0_init 32 = .ok (.return_, 1) := by decide +kernel
theorem dX0_clear_0 : decode cX0_clear 0 = .ok (.aload_n 0, 1) := by decide +kernel
theorem dX0_clear_1 : decode cX0_clear 1 = .ok (.iconst 0, 1) := by decide +kernel
theorem dX0_clear_2 : decode cX0_clear 2 = .ok (.putfield 21, 3) := by decide +kernel
theorem dX0_clear_5 : decode cX0_clear 5 = .ok (.aload_n 0, 1) := by decide +kernel
theorem dX0_clear_6 : decode cX0_clear 6 = .ok (.getfield 15, 3) := by decide +kernel
theorem dX0_clear_9 : decode cX0_clear 9 = .ok (.iconst 0, 1) := by decide +kernel
theorem dX0_clear_10 : decode cX0_clear 10 = .ok (.invokestatic 25, 3) := by decide +kernel
theorem dX0_clear_13 : decode cX0_clear 13 = .ok (.aload_n 0, 1) := by decide +kernel
theorem dX0_clear_14 : decode cX0_clear 14 = .ok (.getfield 18, 3) := by decide +kernel
theorem dX0_clear_17 : decode cX0_clear 17 = .ok (.iconst 0, 1) := by decide +kernel
theorem dX0_clear_18 : decode cX0_clear 18 = .ok (.invokestatic 25, 3) := by decide +kernel
theorem dX0_clear_21 : decode cX0_clear 21 = .ok (.return_, 1) := by decide +kernel
theorem dX0_add_0 : decode cX0_add 0 = .ok (.aload_n 0, 1) := by decide +kernel
theorem dX0_add_1 : decode cX0_add 1 = .ok (.getfield 21, 3) := by decide +kernel
theorem dX0_add_4 : decode cX0_add 4 = .ok (.ifCond .lt 33, 3) := by decide +kernel
theorem dX0_add_7 : decode cX0_add 7 = .ok (.aload_n 0, 1) := by decide +kernel
theorem dX0_add_8 : decode cX0_add 8 = .ok (.getfield 21, 3) := by decide +kernel
theorem dX0_add_11 : decode cX0_add 11 = .ok (.sipush 1600, 3) := by decide +kernel
theorem dX0_add_14 : decode cX0_add 14 = .ok (.if_icmp .ge 23, 3) := by decide +kernel
theorem dX0_add_17 : decode cX0_add 17 = .ok (.aload_n 0, 1) := by decide +kernel
theorem dX0_add_18 : decode cX0_add 18 = .ok (.getfield 9, 3) := by decide +kernel
theorem dX0_add_21 : decode cX0_add 21 = .ok (.aload_n 0, 1) := by decide +kernel
theorem dX0_add_22 : decode cX0_add 22 = .ok (.getfield 21, 3) := by decide +kernel
theorem dX0_add_25 : decode cX0_add 25 = .ok (.iload_n 1, 1) := by decide +kernel
theorem dX0_add_26 : decode cX0_add 26 = .ok (.iastore, 1) := by decide +kernel
theorem dX0_add_27 : decode cX0_add 27 = .ok (.aload_n 0, 1) := by decide +kernel
theorem dX0_add_28 : decode cX0_add 28 = .ok (.dup, 1) := by decide +kernel
theorem dX0_add_29 : decode cX0_add 29 = .ok (.getfield 21, 3) := by decide +kernel
theorem dX0_add_32 : decode cX0_add 32 = .ok (.iconst 1, 1) := by decide +kernel
theorem dX0_add_33 : decode cX0_add 33 = .ok (.iadd, 1) := by decide +kernel
theorem dX0_add_34 : decode cX0_add 34 = .ok (.putfield 21, 3) := by decide +kernel
theorem dX0_add_37 : decode cX0_add 37 = .ok (.return_, 1) := by decide +kernel
theorem dX0_open_0 : decode cX0_open 0 = .ok (.iload_n 1, 1) := by decide +kernel
theorem dX0_open_1 : decode cX0_open 1 = .ok (.ifCond .lt 28, 3) := by decide +kernel
theorem dX0_open_4 : decode cX0_open 4 = .ok (.iload_n 1, 1) := by decide +kernel
theorem dX0_open_5 : decode cX0_open 5 = .ok (.iconst 3, 1) := by decide +kernel
theorem dX0_open_6 : decode cX0_open 6 = .ok (.if_icmp .ge 23, 3) := by decide +kernel
theorem dX0_open_9 : decode cX0_open 9 = .ok (.aload_n 0, 1) := by decide +kernel
theorem dX0_open_10 : decode cX0_open 10 = .ok (.getfield 15, 3) := by decide +kernel
theorem dX0_open_13 : decode cX0_open 13 = .ok (.iload_n 1, 1) := by decide +kernel
theorem dX0_open_14 : decode cX0_open 14 = .ok (.aload_n 0, 1) := by decide +kernel
theorem dX0_open_15 : decode cX0_open 15 = .ok (.getfield 21, 3) := by decide +kernel
theorem dX0_open_18 : decode cX0_open 18 = .ok (.iastore, 1) := by decide +kernel
theorem dX0_open_19 : decode cX0_open 19 = .ok (.aload_n 0, 1) := by decide +kernel
theorem dX0_open_20 : decode cX0_open 20 = .ok (.getfield 18, 3) := by decide +kernel
theorem dX0_open_23 : decode cX0_open 23 = .ok (.iload_n 1, 1) := by decide +kernel
theorem dX0_open_24 : decode cX0_open 24 = .ok (.aload_n 0, 1) := by decide +kernel
theorem dX0_open_25 : decode cX0_open 25 = .ok (.getfield 21, 3) := by decide +kernel
theorem dX0_open_28 : decode cX0_open 28 = .ok (.iastore, 1) := by decide +kernel
theorem dX0_open_29 : decode cX0_open 29 = .ok (.return_, 1) := by decide +kernel
theorem dX0_close_0 : decode cX0_close 0 = .ok (.iload_n 1, 1) := by decide +kernel
theorem dX0_close_1 : decode cX0_close 1 = .ok (.ifCond .lt 18, 3) := by decide +kernel
theorem dX0_close_4 : decode cX0_close 4 = .ok (.iload_n 1, 1) := by decide +kernel
theorem dX0_close_5 : decode cX0_close 5 = .ok (.iconst 3, 1) := by decide +kernel
theorem dX0_close_6 : decode cX0_close 6 = .ok (.if_icmp .ge 13, 3) := by decide +kernel
theorem dX0_close_9 : decode cX0_close 9 = .ok (.aload_n 0, 1) := by decide +kernel
theorem dX0_close_10 : decode cX0_close 10 = .ok (.getfield 18, 3) := by decide +kernel
theorem dX0_close_13 : decode cX0_close 13 = .ok (.iload_n 1, 1) := by decide +kernel
theorem dX0_close_14 : decode cX0_close 14 = .ok (.aload_n 0, 1) := by decide +kernel
theorem dX0_close_15 : decode cX0_close 15 = .ok (.getfield 21, 3) := by decide +kernel
theorem dX0_close_18 : decode cX0_close 18 = .ok (.iastore, 1) := by decide +kernel
theorem dX0_close_19 : decode cX0_close 19 = .ok (.return_, 1) := by decide +kernel
theorem dX0_isTold_0 : decode cX0_isTold 0 = .ok (.iload_n 1, 1) := by decide +kernel
theorem dX0_isTold_1 : decode cX0_isTold 1 = .ok (.ifCond .lt 27, 3) := by decide +kernel
theorem dX0_isTold_4 : decode cX0_isTold 4 = .ok (.iload_n 1, 1) := by decide +kernel
theorem dX0_isTold_5 : decode cX0_isTold 5 = .ok (.iconst 3, 1) := by decide +kernel
theorem dX0_isTold_6 : decode cX0_isTold 6 = .ok (.if_icmp .ge 22, 3) := by decide +kernel
theorem dX0_isTold_9 : decode cX0_isTold 9 = .ok (.aload_n 0, 1) := by decide +kernel
theorem dX0_isTold_10 : decode cX0_isTold 10 = .ok (.getfield 18, 3) := by decide +kernel
theorem dX0_isTold_13 : decode cX0_isTold 13 = .ok (.iload_n 1, 1) := by decide +kernel
theorem dX0_isTold_14 : decode cX0_isTold 14 = .ok (.iaload, 1) := by decide +kernel
theorem dX0_isTold_15 : decode cX0_isTold 15 = .ok (.aload_n 0, 1) := by decide +kernel
theorem dX0_isTold_16 : decode cX0_isTold 16 = .ok (.getfield 15, 3) := by decide +kernel
theorem dX0_isTold_19 : decode cX0_isTold 19 = .ok (.iload_n 1, 1) := by decide +kernel
theorem dX0_isTold_20 : decode cX0_isTold 20 = .ok (.iaload, 1) := by decide +kernel
theorem dX0_isTold_21 : decode cX0_isTold 21 = .ok (.if_icmp .le 7, 3) := by decide +kernel
theorem dX0_isTold_24 : decode cX0_isTold 24 = .ok (.iconst 1, 1) := by decide +kernel
theorem dX0_isTold_25 : decode cX0_isTold 25 = .ok (.goto 4, 3) := by decide +kernel
theorem dX0_isTold_28 : decode cX0_isTold 28 = .ok (.iconst 0, 1) := by decide +kernel
theorem dX0_isTold_29 : decode cX0_isTold 29 = .ok (.ireturn, 1) := by decide +kernel
theorem dX1_init_0 : decode cX1_init 0 = .ok (.aload_n 0, 1) := by decide +kernel
theorem dX1_init_1 : decode cX1_init 1 = .ok (.invokespecial 3, 3) := by decide +kernel
theorem dX1_init_4 : decode cX1_init 4 = .ok (.aload_n 0, 1) := by decide +kernel
theorem dX1_init_5 : decode cX1_init 5 = .ok (.bipush 6, 2) := by decide +kernel
theorem dX1_init_7 : decode cX1_init 7 = .ok (.newarray .int, 2) := by decide +kernel
theorem dX1_init_9 : decode cX1_init 9 = .ok (.putfield 9, 3) := by decide +kernel
theorem dX1_init_12 : decode cX1_init 12 = .ok (.aload_n 0, 1) := by decide +kernel
theorem dX1_init_13 : decode cX1_init 13 = .ok (.bipush 6, 2) := by decide +kernel
theorem dX1_init_15 : decode cX1_init 15 = .ok (.newarray .int, 2) := by decide +kernel
theorem dX1_init_17 : decode cX1_init 17 = .ok (.putfield 15, 3) := by decide +kernel
theorem dX1_init_20 : decode cX1_init 20 = .ok (.aload_n 0, 1) := by decide +kernel
theorem dX1_init_21 : decode cX1_init 21 = .ok (.bipush 6, 2) := by decide +kernel
theorem dX1_init_23 : decode cX1_init 23 = .ok (.newarray .int, 2) := by decide +kernel
theorem dX1_init_25 : decode cX1_init 25 = .ok (.putfield 18, 3) := by decide +kernel
theorem dX1_init_28 : decode cX1_init 28 = .ok (.aload_n 0, 1) := by decide +kernel
theorem dX1_init_29 : decode cX1_init 29 = .ok (.bipush 6, 2) := by decide +kernel
theorem dX1_init_31 : decode cX1_init 31 = .ok (.newarray .int, 2) := by decide +kernel
theorem dX1_init_33 : decode cX1_init 33 = .ok (.putfield 21, 3) := by decide +kernel
theorem dX1_init_36 : decode cX1_init 36 = .ok (.aload_n 0, 1) := by decide +kernel
theorem dX1_init_37 : decode cX1_init 37 = .ok (.aload_n 1, 1) := by decide +kernel
theorem dX1_init_38 : decode cX1_init 38 = .ok (.putfield 24, 3) := by decide +kernel
theorem dX1_init_41 : decode cX1_init 41 = .ok (.aload_n 0, 1) := by decide +kernel
theorem dX1_init_42 : decode cX1_init 42 = .ok (.iconst 0, 1) := by decide +kernel
theorem dX1_init_43 : decode cX1_init 43 = .ok (.putfield 28, 3) := by decide +kernel
theorem dX1_init_46 : decode cX1_init 46 = .ok (.aload_n 0, 1) := by decide +kernel
theorem dX1_init_47 : decode cX1_init 47 = .ok (.iconst (-1), 1) := by decide +kernel
theorem dX1_init_48 : decode cX1_init 48 = .ok (.putfield 32, 3) := by decide +kernel
theorem dX1_init_51 : decode cX1_init 51 = .ok (.return_, 1) := by decide +kernel
theorem dX1_canTry_0 : decode cX1_canTry 0 = .ok (.iload_n 1, 1) := by decide +kernel
theorem dX1_canTry_1 : decode cX1_canTry 1 = .ok (.ifCond .le 24, 3) := by decide +kernel
theorem dX1_canTry_4 : decode cX1_canTry 4 = .ok (.iload_n 1, 1) := by decide +kernel
theorem dX1_canTry_5 : decode cX1_canTry 5 = .ok (.iconst 1, 1) := by decide +kernel
theorem dX1_canTry_6 : decode cX1_canTry 6 = .ok (.bipush 6, 2) := by decide +kernel
theorem dX1_canTry_8 : decode cX1_canTry 8 = .ok (.aload_n 0, 1) := by decide +kernel
theorem dX1_canTry_9 : decode cX1_canTry 9 = .ok (.getfield 24, 3) := by decide +kernel
theorem dX1_canTry_12 : decode cX1_canTry 12 = .ok (.getfield 35, 3) := by decide +kernel
theorem dX1_canTry_15 : decode cX1_canTry 15 = .ok (.getfield 41, 3) := by decide +kernel
theorem dX1_canTry_18 : decode cX1_canTry 18 = .ok (.invokestatic 46, 3) := by decide +kernel
theorem dX1_canTry_21 : decode cX1_canTry 21 = .ok (.ishl, 1) := by decide +kernel
theorem dX1_canTry_22 : decode cX1_canTry 22 = .ok (.if_icmp .lt 5, 3) := by decide +kernel
theorem dX1_canTry_25 : decode cX1_canTry 25 = .ok (.iconst 0, 1) := by decide +kernel
theorem dX1_canTry_26 : decode cX1_canTry 26 = .ok (.ireturn, 1) := by decide +kernel
theorem dX1_canTry_27 : decode cX1_canTry 27 = .ok (.iconst 0, 1) := by decide +kernel
theorem dX1_canTry_28 : decode cX1_canTry 28 = .ok (.istore_n 3, 1) := by decide +kernel
theorem dX1_canTry_29 : decode cX1_canTry 29 = .ok (.iload_n 3, 1) := by decide +kernel
theorem dX1_canTry_30 : decode cX1_canTry 30 = .ok (.bipush 6, 2) := by decide +kernel
theorem dX1_canTry_32 : decode cX1_canTry 32 = .ok (.if_icmp .ge 71, 3) := by decide +kernel
theorem dX1_canTry_35 : decode cX1_canTry 35 = .ok (.aload_n 0, 1) := by decide +kernel
theorem dX1_canTry_36 : decode cX1_canTry 36 = .ok (.getfield 24, 3) := by decide +kernel
theorem dX1_canTry_39 : decode cX1_canTry 39 = .ok (.getfield 52, 3) := by decide +kernel
theorem dX1_canTry_42 : decode cX1_canTry 42 = .ok (.iload_n 3, 1) := by decide +kernel
theorem dX1_canTry_43 : decode cX1_canTry 43 = .ok (.invokevirtual 56, 3) := by decide +kernel
theorem dX1_canTry_46 : decode cX1_canTry 46 = .ok (.istore 4, 2) := by decide +kernel
theorem dX1_canTry_48 : decode cX1_canTry 48 = .ok (.iload_n 1, 1) := by decide +kernel
theorem dX1_canTry_49 : decode cX1_canTry 49 = .ok (.iload_n 3, 1) := by decide +kernel
theorem dX1_canTry_50 : decode cX1_canTry 50 = .ok (.ishr, 1) := by decide +kernel
theorem dX1_canTry_51 : decode cX1_canTry 51 = .ok (.iconst 1, 1) := by decide +kernel
theorem dX1_canTry_52 : decode cX1_canTry 52 = .ok (.iand, 1) := by decide +kernel
theorem dX1_canTry_53 : decode cX1_canTry 53 = .ok (.iconst 1, 1) := by decide +kernel
theorem dX1_canTry_54 : decode cX1_canTry 54 = .ok (.if_icmp .ne 43, 3) := by decide +kernel
theorem dX1_canTry_57 : decode cX1_canTry 57 = .ok (.aload_n 0, 1) := by decide +kernel
theorem dX1_canTry_58 : decode cX1_canTry 58 = .ok (.getfield 24, 3) := by decide +kernel
theorem dX1_canTry_61 : decode cX1_canTry 61 = .ok (.getfield 52, 3) := by decide +kernel
theorem dX1_canTry_64 : decode cX1_canTry 64 = .ok (.iload 4, 2) := by decide +kernel
theorem dX1_canTry_66 : decode cX1_canTry 66 = .ok (.invokevirtual 62, 3) := by decide +kernel
theorem dX1_canTry_69 : decode cX1_canTry 69 = .ok (.iload_n 1, 1) := by decide +kernel
theorem dX1_canTry_70 : decode cX1_canTry 70 = .ok (.iand, 1) := by decide +kernel
theorem dX1_canTry_71 : decode cX1_canTry 71 = .ok (.iload_n 1, 1) := by decide +kernel
theorem dX1_canTry_72 : decode cX1_canTry 72 = .ok (.if_icmp .ne 23, 3) := by decide +kernel
theorem dX1_canTry_75 : decode cX1_canTry 75 = .ok (.aload_n 0, 1) := by decide +kernel
theorem dX1_canTry_76 : decode cX1_canTry 76 = .ok (.getfield 24, 3) := by decide +kernel
theorem dX1_canTry_79 : decode cX1_canTry 79 = .ok (.getfield 35, 3) := by decide +kernel
theorem dX1_canTry_82 : decode cX1_canTry 82 = .ok (.iload 4, 2) := by decide +kernel
theorem dX1_canTry_84 : decode cX1_canTry 84 = .ok (.iload_n 2, 1) := by decide +kernel
theorem dX1_canTry_85 : decode cX1_canTry 85 = .ok (.invokevirtual 65, 3) := by decide +kernel
theorem dX1_canTry_88 : decode cX1_canTry 88 = .ok (.ifCond .eq 7, 3) := by decide +kernel
theorem dX1_canTry_91 : decode cX1_canTry 91 = .ok (.iconst 1, 1) := by decide +kernel
theorem dX1_canTry_92 : decode cX1_canTry 92 = .ok (.goto 4, 3) := by decide +kernel
theorem dX1_canTry_95 : decode cX1_canTry 95 = .ok (.iconst 0, 1) := by decide +kernel
theorem dX1_canTry_96 : decode cX1_canTry 96 = .ok (.ireturn, 1) := by decide +kernel
theorem dX1_canTry_97 : decode cX1_canTry 97 = .ok (.iinc 3 1, 3) := by decide +kernel
theorem dX1_canTry_100 : decode cX1_canTry 100 = .ok (.goto (-71), 3) := by decide +kernel
theorem dX1_canTry_103 : decode cX1_canTry 103 = .ok (.iconst 0, 1) := by decide +kernel
theorem dX1_canTry_104 : decode cX1_canTry 104 = .ok (.ireturn, 1) := by decide +kernel
theorem dX1_sendFile_0 : decode cX1_sendFile 0 = .ok (.iconst 0, 1) := by decide +kernel
theorem dX1_sendFile_1 : decode cX1_sendFile 1 = .ok (.istore 4, 2) := by decide +kernel
theorem dX1_sendFile_3 : decode cX1_sendFile 3 = .ok (.iconst (-1), 1) := by decide +kernel
theorem dX1_sendFile_4 : decode cX1_sendFile 4 = .ok (.istore 5, 2) := by decide +kernel
theorem dX1_sendFile_6 : decode cX1_sendFile 6 = .ok (.iconst 0, 1) := by decide +kernel
theorem dX1_sendFile_7 : decode cX1_sendFile 7 = .ok (.istore 6, 2) := by decide +kernel
theorem dX1_sendFile_9 : decode cX1_sendFile 9 = .ok (.iload 6, 2) := by decide +kernel
theorem dX1_sendFile_11 : decode cX1_sendFile 11 = .ok (.iload_n 2, 1) := by decide +kernel
theorem dX1_sendFile_12 : decode cX1_sendFile 12 = .ok (.if_icmp .ge 55, 3) := by decide +kernel
theorem dX1_sendFile_15 : decode cX1_sendFile 15 = .ok (.iload 6, 2) := by decide +kernel
theorem dX1_sendFile_17 : decode cX1_sendFile 17 = .ok (.aload_n 1, 1) := by decide +kernel
theorem dX1_sendFile_18 : decode cX1_sendFile 18 = .ok (.arraylength, 1) := by decide +kernel
theorem dX1_sendFile_19 : decode cX1_sendFile 19 = .ok (.if_icmp .ge 48, 3) := by decide +kernel
theorem dX1_sendFile_22 : decode cX1_sendFile 22 = .ok (.aload_n 1, 1) := by decide +kernel
theorem dX1_sendFile_23 : decode cX1_sendFile 23 = .ok (.iload 6, 2) := by decide +kernel
theorem dX1_sendFile_25 : decode cX1_sendFile 25 = .ok (.iaload, 1) := by decide +kernel
theorem dX1_sendFile_26 : decode cX1_sendFile 26 = .ok (.istore 7, 2) := by decide +kernel
theorem dX1_sendFile_28 : decode cX1_sendFile 28 = .ok (.aload_n 0, 1) := by decide +kernel
theorem dX1_sendFile_29 : decode cX1_sendFile 29 = .ok (.getfield 24, 3) := by decide +kernel
theorem dX1_sendFile_32 : decode cX1_sendFile 32 = .ok (.iload 7, 2) := by decide +kernel
theorem dX1_sendFile_34 : decode cX1_sendFile 34 = .ok (.iload_n 3, 1) := by decide +kernel
theorem dX1_sendFile_35 : decode cX1_sendFile 35 = .ok (.iload 5, 2) := by decide +kernel
theorem dX1_sendFile_37 : decode cX1_sendFile 37 = .ok (.invokevirtual 69, 3) := by decide +kernel
theorem dX1_sendFile_40 : decode cX1_sendFile 40 = .ok (.iconst 1, 1) := by decide +kernel
theorem dX1_sendFile_41 : decode cX1_sendFile 41 = .ok (.if_icmp .ne 20, 3) := by decide +kernel
theorem dX1_sendFile_44 : decode cX1_sendFile 44 = .ok (.aload_n 0, 1) := by decide +kernel
theorem dX1_sendFile_45 : decode cX1_sendFile 45 = .ok (.getfield 24, 3) := by decide +kernel
theorem dX1_sendFile_48 : decode cX1_sendFile 48 = .ok (.getfield 52, 3) := by decide +kernel
theorem dX1_sendFile_51 : decode cX1_sendFile 51 = .ok (.iload 7, 2) := by decide +kernel
theorem dX1_sendFile_53 : decode cX1_sendFile 53 = .ok (.invokevirtual 73, 3) := by decide +kernel
theorem dX1_sendFile_56 : decode cX1_sendFile 56 = .ok (.istore 5, 2) := by decide +kernel
theorem dX1_sendFile_58 : decode cX1_sendFile 58 = .ok (.iinc 4 1, 3) := by decide +kernel
theorem dX1_sendFile_61 : decode cX1_sendFile 61 = .ok (.iinc 6 1, 3) := by decide +kernel
theorem dX1_sendFile_64 : decode cX1_sendFile 64 = .ok (.goto (-55), 3) := by decide +kernel
theorem dX1_sendFile_67 : decode cX1_sendFile 67 = .ok (.iload 4, 2) := by decide +kernel
theorem dX1_sendFile_69 : decode cX1_sendFile 69 = .ok (.ireturn, 1) := by decide +kernel
theorem dX1_sort_0 : decode cX1_sort 0 = .ok (.aload_n 0, 1) := by decide +kernel
theorem dX1_sort_1 : decode cX1_sort 1 = .ok (.iconst (-1), 1) := by decide +kernel
theorem dX1_sort_2 : decode cX1_sort 2 = .ok (.putfield 32, 3) := by decide +kernel
theorem dX1_sort_5 : decode cX1_sort 5 = .ok (.aload_n 0, 1) := by decide +kernel
theorem dX1_sort_6 : decode cX1_sort 6 = .ok (.iload_n 1, 1) := by decide +kernel
theorem dX1_sort_7 : decode cX1_sort 7 = .ok (.iload_n 2, 1) := by decide +kernel
theorem dX1_sort_8 : decode cX1_sort 8 = .ok (.iconst 0, 1) := by decide +kernel
theorem dX1_sort_9 : decode cX1_sort 9 = .ok (.iconst 0, 1) := by decide +kernel
theorem dX1_sort_10 : decode cX1_sort 10 = .ok (.iconst (-1), 1) := by decide +kernel
theorem dX1_sort_11 : decode cX1_sort 11 = .ok (.invokevirtual 76, 3) := by decide +kernel
theorem dX1_sort_14 : decode cX1_sort 14 = .ok (.aload_n 0, 1) := by decide +kernel
theorem dX1_sort_15 : decode cX1_sort 15 = .ok (.getfield 32, 3) := by decide +kernel
theorem dX1_sort_18 : decode cX1_sort 18 = .ok (.ireturn, 1) := by decide +kernel
theorem dX1_placeOne_0 : decode cX1_placeOne 0 = .ok (.iload 4, 2) := by decide +kernel
theorem dX1_placeOne_2 : decode cX1_placeOne 2 = .ok (.iload_n 1, 1) := by decide +kernel
theorem dX1_placeOne_3 : decode cX1_placeOne 3 = .ok (.invokestatic 80, 3) := by decide +kernel
theorem dX1_placeOne_6 : decode cX1_placeOne 6 = .ok (.iadd, 1) := by decide +kernel
theorem dX1_placeOne_7 : decode cX1_placeOne 7 = .ok (.aload_n 0, 1) := by decide +kernel
theorem dX1_placeOne_8 : decode cX1_placeOne 8 = .ok (.getfield 32, 3) := by decide +kernel
theorem dX1_placeOne_11 : decode cX1_placeOne 11 = .ok (.if_icmp .gt 4, 3) := by decide +kernel
theorem dX1_placeOne_14 : decode cX1_placeOne 14 = .ok (.return_, 1) := by decide +kernel
theorem dX1_placeOne_15 : decode cX1_placeOne 15 = .ok (.iload_n 1, 1) := by decide +kernel
theorem dX1_placeOne_16 : decode cX1_placeOne 16 = .ok (.ifCond .ne 25, 3) := by decide +kernel
theorem dX1_placeOne_19 : decode cX1_placeOne 19 = .ok (.aload_n 0, 1) := by decide +kernel
theorem dX1_placeOne_20 : decode cX1_placeOne 20 = .ok (.iload 4, 2) := by decide +kernel
theorem dX1_placeOne_22 : decode cX1_placeOne 22 = .ok (.putfield 32, 3) := by decide +kernel
theorem dX1_placeOne_25 : decode cX1_placeOne 25 = .ok (.aload_n 0, 1) := by decide +kernel
theorem dX1_placeOne_26 : decode cX1_placeOne 26 = .ok (.getfield 9, 3) := by decide +kernel
theorem dX1_placeOne_29 : decode cX1_placeOne 29 = .ok (.iconst 0, 1) := by decide +kernel
theorem dX1_placeOne_30 : decode cX1_placeOne 30 = .ok (.aload_n 0, 1) := by decide +kernel
theorem dX1_placeOne_31 : decode cX1_placeOne 31 = .ok (.getfield 15, 3) := by decide +kernel
theorem dX1_placeOne_34 : decode cX1_placeOne 34 = .ok (.iconst 0, 1) := by decide +kernel
theorem dX1_placeOne_35 : decode cX1_placeOne 35 = .ok (.bipush 6, 2) := by decide +kernel
theorem dX1_placeOne_37 : decode cX1_placeOne 37 = .ok (.invokestatic 85, 3) := by decide +kernel
theorem dX1_placeOne_40 : decode cX1_placeOne 40 = .ok (.return_, 1) := by decide +kernel
theorem dX1_placeOne_41 : decode cX1_placeOne 41 = .ok (.iconst 0, 1) := by decide +kernel
theorem dX1_placeOne_42 : decode cX1_placeOne 42 = .ok (.istore 6, 2) := by decide +kernel
theorem dX1_placeOne_44 : decode cX1_placeOne 44 = .ok (.iload 6, 2) := by decide +kernel
theorem dX1_placeOne_46 : decode cX1_placeOne 46 = .ok (.bipush 6, 2) := by decide +kernel
theorem dX1_placeOne_48 : decode cX1_placeOne 48 = .ok (.if_icmp .ge 125, 3) := by decide +kernel
theorem dX1_placeOne_51 : decode cX1_placeOne 51 = .ok (.iload_n 3, 1) := by decide +kernel
theorem dX1_placeOne_52 : decode cX1_placeOne 52 = .ok (.ifCond .lt 121, 3) := by decide +kernel
theorem dX1_placeOne_55 : decode cX1_placeOne 55 = .ok (.iload_n 3, 1) := by decide +kernel
theorem dX1_placeOne_56 : decode cX1_placeOne 56 = .ok (.bipush 6, 2) := by decide +kernel
theorem dX1_placeOne_58 : decode cX1_placeOne 58 = .ok (.if_icmp .ge 115, 3) := by decide +kernel
theorem dX1_placeOne_61 : decode cX1_placeOne 61 = .ok (.iload_n 1, 1) := by decide +kernel
theorem dX1_placeOne_62 : decode cX1_placeOne 62 = .ok (.iload 6, 2) := by decide +kernel
theorem dX1_placeOne_64 : decode cX1_placeOne 64 = .ok (.ishr, 1) := by decide +kernel
theorem dX1_placeOne_65 : decode cX1_placeOne 65 = .ok (.iconst 1, 1) := by decide +kernel
theorem dX1_placeOne_66 : decode cX1_placeOne 66 = .ok (.iand, 1) := by decide +kernel
theorem dX1_placeOne_67 : decode cX1_placeOne 67 = .ok (.ifCond .ne 6, 3) := by decide +kernel
theorem dX1_placeOne_70 : decode cX1_placeOne 70 = .ok (.goto 97, 3) := by decide +kernel
theorem dX1_placeOne_73 : decode cX1_placeOne 73 = .ok (.aload_n 0, 1) := by decide +kernel
theorem dX1_placeOne_74 : decode cX1_placeOne 74 = .ok (.getfield 9, 3) := by decide +kernel
theorem dX1_placeOne_77 : decode cX1_placeOne 77 = .ok (.iload_n 3, 1) := by decide +kernel
theorem dX1_placeOne_78 : decode cX1_placeOne 78 = .ok (.iload 6, 2) := by decide +kernel
theorem dX1_placeOne_80 : decode cX1_placeOne 80 = .ok (.iastore, 1) := by decide +kernel
theorem dX1_placeOne_81 : decode cX1_placeOne 81 = .ok (.iload_n 1, 1) := by decide +kernel
theorem dX1_placeOne_82 : decode cX1_placeOne 82 = .ok (.iconst 1, 1) := by decide +kernel
theorem dX1_placeOne_83 : decode cX1_placeOne 83 = .ok (.iload 6, 2) := by decide +kernel
theorem dX1_placeOne_85 : decode cX1_placeOne 85 = .ok (.ishl, 1) := by decide +kernel
theorem dX1_placeOne_86 : decode cX1_placeOne 86 = .ok (.iconst (-1), 1) := by decide +kernel
theorem dX1_placeOne_87 : decode cX1_placeOne 87 = .ok (.ixor, 1) := by decide +kernel
theorem dX1_placeOne_88 : decode cX1_placeOne 88 = .ok (.iand, 1) := by decide +kernel
theorem dX1_placeOne_89 : decode cX1_placeOne 89 = .ok (.istore 7, 2) := by decide +kernel
theorem dX1_placeOne_91 : decode cX1_placeOne 91 = .ok (.aload_n 0, 1) := by decide +kernel
theorem dX1_placeOne_92 : decode cX1_placeOne 92 = .ok (.getfield 24, 3) := by decide +kernel
theorem dX1_placeOne_95 : decode cX1_placeOne 95 = .ok (.iload 6, 2) := by decide +kernel
theorem dX1_placeOne_97 : decode cX1_placeOne 97 = .ok (.iload_n 2, 1) := by decide +kernel
theorem dX1_placeOne_98 : decode cX1_placeOne 98 = .ok (.iload 5, 2) := by decide +kernel
theorem dX1_placeOne_100 : decode cX1_placeOne 100 = .ok (.invokevirtual 91, 3) := by decide +kernel
theorem dX1_placeOne_103 : decode cX1_placeOne 103 = .ok (.istore 8, 2) := by decide +kernel
theorem dX1_placeOne_105 : decode cX1_placeOne 105 = .ok (.iload 8, 2) := by decide +kernel
theorem dX1_placeOne_107 : decode cX1_placeOne 107 = .ok (.aload_n 0, 1) := by decide +kernel
theorem dX1_placeOne_108 : decode cX1_placeOne 108 = .ok (.getfield 24, 3) := by decide +kernel
theorem dX1_placeOne_111 : decode cX1_placeOne 111 = .ok (.getfield 52, 3) := by decide +kernel
theorem dX1_placeOne_114 : decode cX1_placeOne 114 = .ok (.iload 6, 2) := by decide +kernel
theorem dX1_placeOne_116 : decode cX1_placeOne 116 = .ok (.invokevirtual 73, 3) := by decide +kernel
theorem dX1_placeOne_119 : decode cX1_placeOne 119 = .ok (.if_icmp .gt 34, 3) := by decide +kernel
theorem dX1_placeOne_122 : decode cX1_placeOne 122 = .ok (.aload_n 0, 1) := by decide +kernel
theorem dX1_placeOne_123 : decode cX1_placeOne 123 = .ok (.iload 7, 2) := by decide +kernel
theorem dX1_placeOne_125 : decode cX1_placeOne 125 = .ok (.iload_n 2, 1) := by decide +kernel
theorem dX1_placeOne_126 : decode cX1_placeOne 126 = .ok (.iload_n 3, 1) := by decide +kernel
theorem dX1_placeOne_127 : decode cX1_placeOne 127 = .ok (.iconst 1, 1) := by decide +kernel
theorem dX1_placeOne_128 : decode cX1_placeOne 128 = .ok (.iadd, 1) := by decide +kernel
theorem dX1_placeOne_129 : decode cX1_placeOne 129 = .ok (.iload 4, 2) := by decide +kernel
theorem dX1_placeOne_131 : decode cX1_placeOne 131 = .ok (.iconst 1, 1) := by decide +kernel
theorem dX1_placeOne_132 : decode cX1_placeOne 132 = .ok (.iadd, 1) := by decide +kernel
theorem dX1_placeOne_133 : decode cX1_placeOne 133 = .ok (.aload_n 0, 1) := by decide +kernel
theorem dX1_placeOne_134 : decode cX1_placeOne 134 = .ok (.getfield 24, 3) := by decide +kernel
theorem dX1_placeOne_137 : decode cX1_placeOne 137 = .ok (.iload 6, 2) := by decide +kernel
theorem dX1_placeOne_139 : decode cX1_placeOne 139 = .ok (.iload_n 2, 1) := by decide +kernel
theorem dX1_placeOne_140 : decode cX1_placeOne 140 = .ok (.iload 5, 2) := by decide +kernel
theorem dX1_placeOne_142 : decode cX1_placeOne 142 = .ok (.iload 8, 2) := by decide +kernel
theorem dX1_placeOne_144 : decode cX1_placeOne 144 = .ok (.invokevirtual 94, 3) := by decide +kernel
theorem dX1_placeOne_147 : decode cX1_placeOne 147 = .ok (.invokevirtual 76, 3) := by decide +kernel
theorem dX1_placeOne_150 : decode cX1_placeOne 150 = .ok (.goto 17, 3) := by decide +kernel
theorem dX1_placeOne_153 : decode cX1_placeOne 153 = .ok (.aload_n 0, 1) := by decide +kernel
theorem dX1_placeOne_154 : decode cX1_placeOne 154 = .ok (.iload 7, 2) := by decide +kernel
theorem dX1_placeOne_156 : decode cX1_placeOne 156 = .ok (.iload_n 2, 1) := by decide +kernel
theorem dX1_placeOne_157 : decode cX1_placeOne 157 = .ok (.iload_n 3, 1) := by decide +kernel
theorem dX1_placeOne_158 : decode cX1_placeOne 158 = .ok (.iconst 1, 1) := by decide +kernel
theorem dX1_placeOne_159 : decode cX1_placeOne 159 = .ok (.iadd, 1) := by decide +kernel
theorem dX1_placeOne_160 : decode cX1_placeOne 160 = .ok (.iload 4, 2) := by decide +kernel
theorem dX1_placeOne_162 : decode cX1_placeOne 162 = .ok (.iload 5, 2) := by decide +kernel
theorem dX1_placeOne_164 : decode cX1_placeOne 164 = .ok (.invokevirtual 76, 3) := by decide +kernel
theorem dX1_placeOne_167 : decode cX1_placeOne 167 = .ok (.iinc 6 1, 3) := by decide +kernel
theorem dX1_placeOne_170 : decode cX1_placeOne 170 = .ok (.goto (-126), 3) := by decide +kernel
theorem dX1_placeOne_173 : decode cX1_placeOne 173 = .ok (.return_, 1) := by decide +kernel
theorem dX1_findLeader_0 : decode cX1_findLeader 0 = .ok (.iconst (-1), 1) := by decide +kernel
theorem dX1_findLeader_1 : decode cX1_findLeader 1 = .ok (.istore_n 3, 1) := by decide +kernel
theorem dX1_findLeader_2 : decode cX1_findLeader 2 = .ok (.aload_n 0, 1) := by decide +kernel
theorem dX1_findLeader_3 : decode cX1_findLeader 3 = .ok (.iconst 0, 1) := by decide +kernel
theorem dX1_findLeader_4 : decode cX1_findLeader 4 = .ok (.putfield 28, 3) := by decide +kernel
theorem dX1_findLeader_7 : decode cX1_findLeader 7 = .ok (.iconst 0, 1) := by decide +kernel
theorem dX1_findLeader_8 : decode cX1_findLeader 8 = .ok (.istore 4, 2) := by decide +kernel
theorem dX1_findLeader_10 : decode cX1_findLeader 10 = .ok (.iload 4, 2) := by decide +kernel
theorem dX1_findLeader_12 : decode cX1_findLeader 12 = .ok (.bipush 6, 2) := by decide +kernel
theorem dX1_findLeader_14 : decode cX1_findLeader 14 = .ok (.if_icmp .ge 51, 3) := by decide +kernel
theorem dX1_findLeader_17 : decode cX1_findLeader 17 = .ok (.iload_n 1, 1) := by decide +kernel
theorem dX1_findLeader_18 : decode cX1_findLeader 18 = .ok (.iload 4, 2) := by decide +kernel
theorem dX1_findLeader_20 : decode cX1_findLeader 20 = .ok (.ishr, 1) := by decide +kernel
theorem dX1_findLeader_21 : decode cX1_findLeader 21 = .ok (.iconst 1, 1) := by decide +kernel
theorem dX1_findLeader_22 : decode cX1_findLeader 22 = .ok (.iand, 1) := by decide +kernel
theorem dX1_findLeader_23 : decode cX1_findLeader 23 = .ok (.iconst 1, 1) := by decide +kernel
theorem dX1_findLeader_24 : decode cX1_findLeader 24 = .ok (.if_icmp .ne 14, 3) := by decide +kernel
theorem dX1_findLeader_27 : decode cX1_findLeader 27 = .ok (.aload_n 0, 1) := by decide +kernel
theorem dX1_findLeader_28 : decode cX1_findLeader 28 = .ok (.iload 4, 2) := by decide +kernel
theorem dX1_findLeader_30 : decode cX1_findLeader 30 = .ok (.iload_n 1, 1) := by decide +kernel
theorem dX1_findLeader_31 : decode cX1_findLeader 31 = .ok (.iload_n 2, 1) := by decide +kernel
theorem dX1_findLeader_32 : decode cX1_findLeader 32 = .ok (.invokevirtual 98, 3) := by decide +kernel
theorem dX1_findLeader_35 : decode cX1_findLeader 35 = .ok (.goto 4, 3) := by decide +kernel
theorem dX1_findLeader_38 : decode cX1_findLeader 38 = .ok (.iconst 0, 1) := by decide +kernel
theorem dX1_findLeader_39 : decode cX1_findLeader 39 = .ok (.istore 5, 2) := by decide +kernel
theorem dX1_findLeader_41 : decode cX1_findLeader 41 = .ok (.iload 5, 2) := by decide +kernel
theorem dX1_findLeader_43 : decode cX1_findLeader 43 = .ok (.aload_n 0, 1) := by decide +kernel
theorem dX1_findLeader_44 : decode cX1_findLeader 44 = .ok (.getfield 28, 3) := by decide +kernel
theorem dX1_findLeader_47 : decode cX1_findLeader 47 = .ok (.if_icmp .le 12, 3) := by decide +kernel
theorem dX1_findLeader_50 : decode cX1_findLeader 50 = .ok (.aload_n 0, 1) := by decide +kernel
theorem dX1_findLeader_51 : decode cX1_findLeader 51 = .ok (.iload 5, 2) := by decide +kernel
theorem dX1_findLeader_53 : decode cX1_findLeader 53 = .ok (.putfield 28, 3) := by decide +kernel
theorem dX1_findLeader_56 : decode cX1_findLeader 56 = .ok (.iload 4, 2) := by decide +kernel
theorem dX1_findLeader_58 : decode cX1_findLeader 58 = .ok (.istore_n 3, 1) := by decide +kernel
theorem dX1_findLeader_59 : decode cX1_findLeader 59 = .ok (.iinc 4 1, 3) := by decide +kernel
theorem dX1_findLeader_62 : decode cX1_findLeader 62 = .ok (.goto (-52), 3) := by decide +kernel
theorem dX1_findLeader_65 : decode cX1_findLeader 65 = .ok (.iload_n 3, 1) := by decide +kernel
theorem dX1_findLeader_66 : decode cX1_findLeader 66 = .ok (.ireturn, 1) := by decide +kernel
theorem dX1_countLed_0 : decode cX1_countLed 0 = .ok (.aload_n 0, 1) := by decide +kernel
theorem dX1_countLed_1 : decode cX1_countLed 1 = .ok (.getfield 24, 3) := by decide +kernel
theorem dX1_countLed_4 : decode cX1_countLed 4 = .ok (.iload_n 1, 1) := by decide +kernel
theorem dX1_countLed_5 : decode cX1_countLed 5 = .ok (.iload_n 3, 1) := by decide +kernel
theorem dX1_countLed_6 : decode cX1_countLed 6 = .ok (.iconst (-1), 1) := by decide +kernel
theorem dX1_countLed_7 : decode cX1_countLed 7 = .ok (.invokevirtual 91, 3) := by decide +kernel
theorem dX1_countLed_10 : decode cX1_countLed 10 = .ok (.istore 4, 2) := by decide +kernel
theorem dX1_countLed_12 : decode cX1_countLed 12 = .ok (.iload 4, 2) := by decide +kernel
theorem dX1_countLed_14 : decode cX1_countLed 14 = .ok (.aload_n 0, 1) := by decide +kernel
theorem dX1_countLed_15 : decode cX1_countLed 15 = .ok (.getfield 24, 3) := by decide +kernel
theorem dX1_countLed_18 : decode cX1_countLed 18 = .ok (.getfield 52, 3) := by decide +kernel
theorem dX1_countLed_21 : decode cX1_countLed 21 = .ok (.iload_n 1, 1) := by decide +kernel
theorem dX1_countLed_22 : decode cX1_countLed 22 = .ok (.invokevirtual 73, 3) := by decide +kernel
theorem dX1_countLed_25 : decode cX1_countLed 25 = .ok (.if_icmp .le 5, 3) := by decide +kernel
theorem dX1_countLed_28 : decode cX1_countLed 28 = .ok (.iconst 0, 1) := by decide +kernel
theorem dX1_countLed_29 : decode cX1_countLed 29 = .ok (.ireturn, 1) := by decide +kernel
theorem dX1_countLed_30 : decode cX1_countLed 30 = .ok (.aload_n 0, 1) := by decide +kernel
theorem dX1_countLed_31 : decode cX1_countLed 31 = .ok (.getfield 24, 3) := by decide +kernel
theorem dX1_countLed_34 : decode cX1_countLed 34 = .ok (.iload_n 1, 1) := by decide +kernel
theorem dX1_countLed_35 : decode cX1_countLed 35 = .ok (.iload_n 3, 1) := by decide +kernel
theorem dX1_countLed_36 : decode cX1_countLed 36 = .ok (.iconst (-1), 1) := by decide +kernel
theorem dX1_countLed_37 : decode cX1_countLed 37 = .ok (.iload 4, 2) := by decide +kernel
theorem dX1_countLed_39 : decode cX1_countLed 39 = .ok (.invokevirtual 94, 3) := by decide +kernel
theorem dX1_countLed_42 : decode cX1_countLed 42 = .ok (.istore 5, 2) := by decide +kernel
theorem dX1_countLed_44 : decode cX1_countLed 44 = .ok (.iconst 1, 1) := by decide +kernel
theorem dX1_countLed_45 : decode cX1_countLed 45 = .ok (.istore 6, 2) := by decide +kernel
theorem dX1_countLed_47 : decode cX1_countLed 47 = .ok (.iconst 0, 1) := by decide +kernel
theorem dX1_countLed_48 : decode cX1_countLed 48 = .ok (.istore 7, 2) := by decide +kernel
theorem dX1_countLed_50 : decode cX1_countLed 50 = .ok (.iload 7, 2) := by decide +kernel
theorem dX1_countLed_52 : decode cX1_countLed 52 = .ok (.bipush 6, 2) := by decide +kernel
theorem dX1_countLed_54 : decode cX1_countLed 54 = .ok (.if_icmp .ge 67, 3) := by decide +kernel
theorem dX1_countLed_57 : decode cX1_countLed 57 = .ok (.iload 7, 2) := by decide +kernel
theorem dX1_countLed_59 : decode cX1_countLed 59 = .ok (.iload_n 1, 1) := by decide +kernel
theorem dX1_countLed_60 : decode cX1_countLed 60 = .ok (.if_icmp .eq 17, 3) := by decide +kernel
theorem dX1_countLed_63 : decode cX1_countLed 63 = .ok (.iload_n 2, 1) := by decide +kernel
theorem dX1_countLed_64 : decode cX1_countLed 64 = .ok (.iload 7, 2) := by decide +kernel
theorem dX1_countLed_66 : decode cX1_countLed 66 = .ok (.ishr, 1) := by decide +kernel
theorem dX1_countLed_67 : decode cX1_countLed 67 = .ok (.iconst 1, 1) := by decide +kernel
theorem dX1_countLed_68 : decode cX1_countLed 68 = .ok (.iand, 1) := by decide +kernel
theorem dX1_countLed_69 : decode cX1_countLed 69 = .ok (.iconst 1, 1) := by decide +kernel
theorem dX1_countLed_70 : decode cX1_countLed 70 = .ok (.if_icmp .ne 7, 3) := by decide +kernel
theorem dX1_countLed_73 : decode cX1_countLed 73 = .ok (.iconst 1, 1) := by decide +kernel
theorem dX1_countLed_74 : decode cX1_countLed 74 = .ok (.goto 4, 3) := by decide +kernel
theorem dX1_countLed_77 : decode cX1_countLed 77 = .ok (.iconst 0, 1) := by decide +kernel
theorem dX1_countLed_78 : decode cX1_countLed 78 = .ok (.istore 8, 2) := by decide +kernel
theorem dX1_countLed_80 : decode cX1_countLed 80 = .ok (.iload 8, 2) := by decide +kernel
theorem dX1_countLed_82 : decode cX1_countLed 82 = .ok (.ifCond .eq 33, 3) := by decide +kernel
theorem dX1_countLed_85 : decode cX1_countLed 85 = .ok (.aload_n 0, 1) := by decide +kernel
theorem dX1_countLed_86 : decode cX1_countLed 86 = .ok (.getfield 24, 3) := by decide +kernel
theorem dX1_countLed_89 : decode cX1_countLed 89 = .ok (.iload 7, 2) := by decide +kernel
theorem dX1_countLed_91 : decode cX1_countLed 91 = .ok (.iload_n 3, 1) := by decide +kernel
theorem dX1_countLed_92 : decode cX1_countLed 92 = .ok (.iload 5, 2) := by decide +kernel
theorem dX1_countLed_94 : decode cX1_countLed 94 = .ok (.invokevirtual 91, 3) := by decide +kernel
theorem dX1_countLed_97 : decode cX1_countLed 97 = .ok (.aload_n 0, 1) := by decide +kernel
theorem dX1_countLed_98 : decode cX1_countLed 98 = .ok (.getfield 24, 3) := by decide +kernel
theorem dX1_countLed_101 : decode cX1_countLed 101 = .ok (.getfield 52, 3) := by decide +kernel
theorem dX1_countLed_104 : decode cX1_countLed 104 = .ok (.iload 7, 2) := by decide +kernel
theorem dX1_countLed_106 : decode cX1_countLed 106 = .ok (.invokevirtual 73, 3) := by decide +kernel
theorem dX1_countLed_109 : decode cX1_countLed 109 = .ok (.if_icmp .gt 6, 3) := by decide +kernel
theorem dX1_countLed_112 : decode cX1_countLed 112 = .ok (.iinc 6 1, 3) := by decide +kernel
theorem dX1_countLed_115 : decode cX1_countLed 115 = .ok (.iinc 7 1, 3) := by decide +kernel
theorem dX1_countLed_118 : decode cX1_countLed 118 = .ok (.goto (-68), 3) := by decide +kernel
theorem dX1_countLed_121 : decode cX1_countLed 121 = .ok (.iload 6, 2) := by decide +kernel
theorem dX1_countLed_123 : decode cX1_countLed 123 = .ok (.ireturn, 1) := by decide +kernel
theorem dX1_matchedHand_0 : decode cX1_matchedHand 0 = .ok (.aload_n 0, 1) := by decide +kernel
theorem dX1_matchedHand_1 : decode cX1_matchedHand 1 = .ok (.getfield 18, 3) := by decide +kernel
theorem dX1_matchedHand_4 : decode cX1_matchedHand 4 = .ok (.iconst (-1), 1) := by decide +kernel
theorem dX1_matchedHand_5 : decode cX1_matchedHand 5 = .ok (.invokestatic 101, 3) := by decide +kernel
theorem dX1_matchedHand_8 : decode cX1_matchedHand 8 = .ok (.aload_n 0, 1) := by decide +kernel
theorem dX1_matchedHand_9 : decode cX1_matchedHand 9 = .ok (.getfield 21, 3) := by decide +kernel
theorem dX1_matchedHand_12 : decode cX1_matchedHand 12 = .ok (.iconst 0, 1) := by decide +kernel
theorem dX1_matchedHand_13 : decode cX1_matchedHand 13 = .ok (.invokestatic 101, 3) := by decide +kernel
theorem dX1_matchedHand_16 : decode cX1_matchedHand 16 = .ok (.iconst 0, 1) := by decide +kernel
theorem dX1_matchedHand_17 : decode cX1_matchedHand 17 = .ok (.istore_n 2, 1) := by decide +kernel
theorem dX1_matchedHand_18 : decode cX1_matchedHand 18 = .ok (.iload_n 2, 1) := by decide +kernel
theorem dX1_matchedHand_19 : decode cX1_matchedHand 19 = .ok (.bipush 36, 2) := by decide +kernel
theorem dX1_matchedHand_21 : decode cX1_matchedHand 21 = .ok (.if_icmp .ge 27, 3) := by decide +kernel
theorem dX1_matchedHand_24 : decode cX1_matchedHand 24 = .ok (.aload_n 0, 1) := by decide +kernel
theorem dX1_matchedHand_25 : decode cX1_matchedHand 25 = .ok (.invokevirtual 107, 3) := by decide +kernel
theorem dX1_matchedHand_28 : decode cX1_matchedHand 28 = .ok (.istore_n 3, 1) := by decide +kernel
theorem dX1_matchedHand_29 : decode cX1_matchedHand 29 = .ok (.iload_n 3, 1) := by decide +kernel
theorem dX1_matchedHand_30 : decode cX1_matchedHand 30 = .ok (.iconst (-1), 1) := by decide +kernel
theorem dX1_matchedHand_31 : decode cX1_matchedHand 31 = .ok (.if_icmp .ne 6, 3) := by decide +kernel
theorem dX1_matchedHand_34 : decode cX1_matchedHand 34 = .ok (.goto 14, 3) := by decide +kernel
theorem dX1_matchedHand_37 : decode cX1_matchedHand 37 = .ok (.aload_n 0, 1) := by decide +kernel
theorem dX1_matchedHand_38 : decode cX1_matchedHand 38 = .ok (.iload_n 3, 1) := by decide +kernel
theorem dX1_matchedHand_39 : decode cX1_matchedHand 39 = .ok (.invokevirtual 111, 3) := by decide +kernel
theorem dX1_matchedHand_42 : decode cX1_matchedHand 42 = .ok (.iinc 2 1, 3) := by decide +kernel
theorem dX1_matchedHand_45 : decode cX1_matchedHand 45 = .ok (.goto (-27), 3) := by decide +kernel
theorem dX1_matchedHand_48 : decode cX1_matchedHand 48 = .ok (.aload_n 0, 1) := by decide +kernel
theorem dX1_matchedHand_49 : decode cX1_matchedHand 49 = .ok (.iload_n 1, 1) := by decide +kernel
theorem dX1_matchedHand_50 : decode cX1_matchedHand 50 = .ok (.invokevirtual 115, 3) := by decide +kernel
theorem dX1_matchedHand_53 : decode cX1_matchedHand 53 = .ok (.ireturn, 1) := by decide +kernel
theorem dX1_handHeldBy_0 : decode cX1_handHeldBy 0 = .ok (.iconst 0, 1) := by decide +kernel
theorem dX1_handHeldBy_1 : decode cX1_handHeldBy 1 = .ok (.istore_n 2, 1) := by decide +kernel
theorem dX1_handHeldBy_2 : decode cX1_handHeldBy 2 = .ok (.iload_n 2, 1) := by decide +kernel
theorem dX1_handHeldBy_3 : decode cX1_handHeldBy 3 = .ok (.aload_n 0, 1) := by decide +kernel
theorem dX1_handHeldBy_4 : decode cX1_handHeldBy 4 = .ok (.getfield 24, 3) := by decide +kernel
theorem dX1_handHeldBy_7 : decode cX1_handHeldBy 7 = .ok (.getfield 35, 3) := by decide +kernel
theorem dX1_handHeldBy_10 : decode cX1_handHeldBy 10 = .ok (.getfield 118, 3) := by decide +kernel
theorem dX1_handHeldBy_13 : decode cX1_handHeldBy 13 = .ok (.if_icmp .ge 27, 3) := by decide +kernel
theorem dX1_handHeldBy_16 : decode cX1_handHeldBy 16 = .ok (.iload_n 2, 1) := by decide +kernel
theorem dX1_handHeldBy_17 : decode cX1_handHeldBy 17 = .ok (.bipush 6, 2) := by decide +kernel
theorem dX1_handHeldBy_19 : decode cX1_handHeldBy 19 = .ok (.if_icmp .ge 21, 3) := by decide +kernel
theorem dX1_handHeldBy_22 : decode cX1_handHeldBy 22 = .ok (.aload_n 0, 1) := by decide +kernel
theorem dX1_handHeldBy_23 : decode cX1_handHeldBy 23 = .ok (.getfield 18, 3) := by decide +kernel
theorem dX1_handHeldBy_26 : decode cX1_handHeldBy 26 = .ok (.iload_n 2, 1) := by decide +kernel
theorem dX1_handHeldBy_27 : decode cX1_handHeldBy 27 = .ok (.iaload, 1) := by decide +kernel
theorem dX1_handHeldBy_28 : decode cX1_handHeldBy 28 = .ok (.iload_n 1, 1) := by decide +kernel
theorem dX1_handHeldBy_29 : decode cX1_handHeldBy 29 = .ok (.if_icmp .ne 5, 3) := by decide +kernel
theorem dX1_handHeldBy_32 : decode cX1_handHeldBy 32 = .ok (.iload_n 2, 1) := by decide +kernel
theorem dX1_handHeldBy_33 : decode cX1_handHeldBy 33 = .ok (.ireturn, 1) := by decide +kernel
theorem dX1_handHeldBy_34 : decode cX1_handHeldBy 34 = .ok (.iinc 2 1, 3) := by decide +kernel
theorem dX1_handHeldBy_37 : decode cX1_handHeldBy 37 = .ok (.goto (-35), 3) := by decide +kernel
theorem dX1_handHeldBy_40 : decode cX1_handHeldBy 40 = .ok (.iconst (-1), 1) := by decide +kernel
theorem dX1_handHeldBy_41 : decode cX1_handHeldBy 41 = .ok (.ireturn, 1) := by decide +kernel
theorem dX1_findAsking_0 : decode cX1_findAsking 0 = .ok (.iconst 1, 1) := by decide +kernel
theorem dX1_findAsking_1 : decode cX1_findAsking 1 = .ok (.bipush 6, 2) := by decide +kernel
theorem dX1_findAsking_3 : decode cX1_findAsking 3 = .ok (.aload_n 0, 1) := by decide +kernel
theorem dX1_findAsking_4 : decode cX1_findAsking 4 = .ok (.getfield 24, 3) := by decide +kernel
theorem dX1_findAsking_7 : decode cX1_findAsking 7 = .ok (.getfield 35, 3) := by decide +kernel
theorem dX1_findAsking_10 : decode cX1_findAsking 10 = .ok (.getfield 118, 3) := by decide +kernel
theorem dX1_findAsking_13 : decode cX1_findAsking 13 = .ok (.invokestatic 46, 3) := by decide +kernel
theorem dX1_findAsking_16 : decode cX1_findAsking 16 = .ok (.ishl, 1) := by decide +kernel
theorem dX1_findAsking_17 : decode cX1_findAsking 17 = .ok (.iconst 1, 1) := by decide +kernel
theorem dX1_findAsking_18 : decode cX1_findAsking 18 = .ok (.isub, 1) := by decide +kernel
theorem dX1_findAsking_19 : decode cX1_findAsking 19 = .ok (.istore_n 1, 1) := by decide +kernel
theorem dX1_findAsking_20 : decode cX1_findAsking 20 = .ok (.iconst 0, 1) := by decide +kernel
theorem dX1_findAsking_21 : decode cX1_findAsking 21 = .ok (.istore_n 2, 1) := by decide +kernel
theorem dX1_findAsking_22 : decode cX1_findAsking 22 = .ok (.iload_n 2, 1) := by decide +kernel
theorem dX1_findAsking_23 : decode cX1_findAsking 23 = .ok (.aload_n 0, 1) := by decide +kernel
theorem dX1_findAsking_24 : decode cX1_findAsking 24 = .ok (.getfield 24, 3) := by decide +kernel
theorem dX1_findAsking_27 : decode cX1_findAsking 27 = .ok (.getfield 35, 3) := by decide +kernel
theorem dX1_findAsking_30 : decode cX1_findAsking 30 = .ok (.getfield 41, 3) := by decide +kernel
theorem dX1_findAsking_33 : decode cX1_findAsking 33 = .ok (.if_icmp .ge 36, 3) := by decide +kernel
theorem dX1_findAsking_36 : decode cX1_findAsking 36 = .ok (.iload_n 2, 1) := by decide +kernel
theorem dX1_findAsking_37 : decode cX1_findAsking 37 = .ok (.bipush 6, 2) := by decide +kernel
theorem dX1_findAsking_39 : decode cX1_findAsking 39 = .ok (.if_icmp .ge 30, 3) := by decide +kernel
theorem dX1_findAsking_42 : decode cX1_findAsking 42 = .ok (.aload_n 0, 1) := by decide +kernel
theorem dX1_findAsking_43 : decode cX1_findAsking 43 = .ok (.getfield 21, 3) := by decide +kernel
theorem dX1_findAsking_46 : decode cX1_findAsking 46 = .ok (.iload_n 2, 1) := by decide +kernel
theorem dX1_findAsking_47 : decode cX1_findAsking 47 = .ok (.iaload, 1) := by decide +kernel
theorem dX1_findAsking_48 : decode cX1_findAsking 48 = .ok (.iload_n 1, 1) := by decide +kernel
theorem dX1_findAsking_49 : decode cX1_findAsking 49 = .ok (.if_icmp .eq 14, 3) := by decide +kernel
theorem dX1_findAsking_52 : decode cX1_findAsking 52 = .ok (.aload_n 0, 1) := by decide +kernel
theorem dX1_findAsking_53 : decode cX1_findAsking 53 = .ok (.iload_n 2, 1) := by decide +kernel
theorem dX1_findAsking_54 : decode cX1_findAsking 54 = .ok (.invokevirtual 115, 3) := by decide +kernel
theorem dX1_findAsking_57 : decode cX1_findAsking 57 = .ok (.iconst (-1), 1) := by decide +kernel
theorem dX1_findAsking_58 : decode cX1_findAsking 58 = .ok (.if_icmp .ne 5, 3) := by decide +kernel
theorem dX1_findAsking_61 : decode cX1_findAsking 61 = .ok (.iload_n 2, 1) := by decide +kernel
theorem dX1_findAsking_62 : decode cX1_findAsking 62 = .ok (.ireturn, 1) := by decide +kernel
theorem dX1_findAsking_63 : decode cX1_findAsking 63 = .ok (.iinc 2 1, 3) := by decide +kernel
theorem dX1_findAsking_66 : decode cX1_findAsking 66 = .ok (.goto (-44), 3) := by decide +kernel
theorem dX1_findAsking_69 : decode cX1_findAsking 69 = .ok (.iconst (-1), 1) := by decide +kernel
theorem dX1_findAsking_70 : decode cX1_findAsking 70 = .ok (.ireturn, 1) := by decide +kernel
theorem dX1_askOne_0 : decode cX1_askOne 0 = .ok (.aload_n 0, 1) := by decide +kernel
theorem dX1_askOne_1 : decode cX1_askOne 1 = .ok (.iload_n 1, 1) := by decide +kernel
theorem dX1_askOne_2 : decode cX1_askOne 2 = .ok (.invokevirtual 121, 3) := by decide +kernel
theorem dX1_askOne_5 : decode cX1_askOne 5 = .ok (.istore_n 2, 1) := by decide +kernel
theorem dX1_askOne_6 : decode cX1_askOne 6 = .ok (.aload_n 0, 1) := by decide +kernel
theorem dX1_askOne_7 : decode cX1_askOne 7 = .ok (.getfield 24, 3) := by decide +kernel
theorem dX1_askOne_10 : decode cX1_askOne 10 = .ok (.getfield 35, 3) := by decide +kernel
theorem dX1_askOne_13 : decode cX1_askOne 13 = .ok (.iload_n 1, 1) := by decide +kernel
theorem dX1_askOne_14 : decode cX1_askOne 14 = .ok (.invokevirtual 124, 3) := by decide +kernel
theorem dX1_askOne_17 : decode cX1_askOne 17 = .ok (.ifCond .eq 17, 3) := by decide +kernel
theorem dX1_askOne_20 : decode cX1_askOne 20 = .ok (.aload_n 0, 1) := by decide +kernel
theorem dX1_askOne_21 : decode cX1_askOne 21 = .ok (.getfield 24, 3) := by decide +kernel
theorem dX1_askOne_24 : decode cX1_askOne 24 = .ok (.getfield 35, 3) := by decide +kernel
theorem dX1_askOne_27 : decode cX1_askOne 27 = .ok (.iload_n 2, 1) := by decide +kernel
theorem dX1_askOne_28 : decode cX1_askOne 28 = .ok (.invokevirtual 128, 3) := by decide +kernel
theorem dX1_askOne_31 : decode cX1_askOne 31 = .ok (.ifCond .ne 4, 3) := by decide +kernel
theorem dX1_askOne_34 : decode cX1_askOne 34 = .ok (.return_, 1) := by decide +kernel
theorem dX1_askOne_35 : decode cX1_askOne 35 = .ok (.aload_n 0, 1) := by decide +kernel
theorem dX1_askOne_36 : decode cX1_askOne 36 = .ok (.getfield 21, 3) := by decide +kernel
theorem dX1_askOne_39 : decode cX1_askOne 39 = .ok (.iload_n 1, 1) := by decide +kernel
theorem dX1_askOne_40 : decode cX1_askOne 40 = .ok (.dup2, 1) := by decide +kernel
theorem dX1_askOne_41 : decode cX1_askOne 41 = .ok (.iaload, 1) := by decide +kernel
theorem dX1_askOne_42 : decode cX1_askOne 42 = .ok (.iconst 1, 1) := by decide +kernel
theorem dX1_askOne_43 : decode cX1_askOne 43 = .ok (.iload_n 2, 1) := by decide +kernel
theorem dX1_askOne_44 : decode cX1_askOne 44 = .ok (.ishl, 1) := by decide +kernel
theorem dX1_askOne_45 : decode cX1_askOne 45 = .ok (.ior, 1) := by decide +kernel
theorem dX1_askOne_46 : decode cX1_askOne 46 = .ok (.iastore, 1) := by decide +kernel
theorem dX1_askOne_47 : decode cX1_askOne 47 = .ok (.aload_n 0, 1) := by decide +kernel
theorem dX1_askOne_48 : decode cX1_askOne 48 = .ok (.getfield 18, 3) := by decide +kernel
theorem dX1_askOne_51 : decode cX1_askOne 51 = .ok (.iload_n 2, 1) := by decide +kernel
theorem dX1_askOne_52 : decode cX1_askOne 52 = .ok (.iaload, 1) := by decide +kernel
theorem dX1_askOne_53 : decode cX1_askOne 53 = .ok (.istore_n 3, 1) := by decide +kernel
theorem dX1_askOne_54 : decode cX1_askOne 54 = .ok (.iload_n 3, 1) := by decide +kernel
theorem dX1_askOne_55 : decode cX1_askOne 55 = .ok (.iconst (-1), 1) := by decide +kernel
theorem dX1_askOne_56 : decode cX1_askOne 56 = .ok (.if_icmp .eq 12, 3) := by decide +kernel
theorem dX1_askOne_59 : decode cX1_askOne 59 = .ok (.aload_n 0, 1) := by decide +kernel
theorem dX1_askOne_60 : decode cX1_askOne 60 = .ok (.iload_n 1, 1) := by decide +kernel
theorem dX1_askOne_61 : decode cX1_askOne 61 = .ok (.iload_n 3, 1) := by decide +kernel
theorem dX1_askOne_62 : decode cX1_askOne 62 = .ok (.invokevirtual 131, 3) := by decide +kernel
theorem dX1_askOne_65 : decode cX1_askOne 65 = .ok (.ifCond .eq 10, 3) := by decide +kernel
theorem dX1_askOne_68 : decode cX1_askOne 68 = .ok (.aload_n 0, 1) := by decide +kernel
theorem dX1_askOne_69 : decode cX1_askOne 69 = .ok (.getfield 18, 3) := by decide +kernel
theorem dX1_askOne_72 : decode cX1_askOne 72 = .ok (.iload_n 2, 1) := by decide +kernel
theorem dX1_askOne_73 : decode cX1_askOne 73 = .ok (.iload_n 1, 1) := by decide +kernel
theorem dX1_askOne_74 : decode cX1_askOne 74 = .ok (.iastore, 1) := by decide +kernel
theorem dX1_askOne_75 : decode cX1_askOne 75 = .ok (.return_, 1) := by decide +kernel
theorem dX1_isRather_0 : decode cX1_isRather 0 = .ok (.aload_n 0, 1) := by decide +kernel
theorem dX1_isRather_1 : decode cX1_isRather 1 = .ok (.getfield 24, 3) := by decide +kernel
theorem dX1_isRather_4 : decode cX1_isRather 4 = .ok (.getfield 52, 3) := by decide +kernel
theorem dX1_isRather_7 : decode cX1_isRather 7 = .ok (.iload_n 1, 1) := by decide +kernel
theorem dX1_isRather_8 : decode cX1_isRather 8 = .ok (.invokevirtual 73, 3) := by decide +kernel
theorem dX1_isRather_11 : decode cX1_isRather 11 = .ok (.aload_n 0, 1) := by decide +kernel
theorem dX1_isRather_12 : decode cX1_isRather 12 = .ok (.getfield 24, 3) := by decide +kernel
theorem dX1_isRather_15 : decode cX1_isRather 15 = .ok (.getfield 52, 3) := by decide +kernel
theorem dX1_isRather_18 : decode cX1_isRather 18 = .ok (.iload_n 2, 1) := by decide +kernel
theorem dX1_isRather_19 : decode cX1_isRather 19 = .ok (.invokevirtual 73, 3) := by decide +kernel
theorem dX1_isRather_22 : decode cX1_isRather 22 = .ok (.isub, 1) := by decide +kernel
theorem dX1_isRather_23 : decode cX1_isRather 23 = .ok (.istore_n 3, 1) := by decide +kernel
theorem dX1_isRather_24 : decode cX1_isRather 24 = .ok (.iload_n 3, 1) := by decide +kernel
theorem dX1_isRather_25 : decode cX1_isRather 25 = .ok (.ifCond .gt 12, 3) := by decide +kernel
theorem dX1_isRather_28 : decode cX1_isRather 28 = .ok (.iload_n 3, 1) := by decide +kernel
theorem dX1_isRather_29 : decode cX1_isRather 29 = .ok (.ifCond .ne 12, 3) := by decide +kernel
theorem dX1_isRather_32 : decode cX1_isRather 32 = .ok (.iload_n 1, 1) := by decide +kernel
theorem dX1_isRather_33 : decode cX1_isRather 33 = .ok (.iload_n 2, 1) := by decide +kernel
theorem dX1_isRather_34 : decode cX1_isRather 34 = .ok (.if_icmp .ge 7, 3) := by decide +kernel
theorem dX1_isRather_37 : decode cX1_isRather 37 = .ok (.iconst 1, 1) := by decide +kernel
theorem dX1_isRather_38 : decode cX1_isRather 38 = .ok (.goto 4, 3) := by decide +kernel
theorem dX1_isRather_41 : decode cX1_isRather 41 = .ok (.iconst 0, 1) := by decide +kernel
theorem dX1_isRather_42 : decode cX1_isRather 42 = .ok (.ireturn, 1) := by decide +kernel
theorem dX1_bestUnasked_0 : decode cX1_bestUnasked 0 = .ok (.iconst (-1), 1) := by decide +kernel
theorem dX1_bestUnasked_1 : decode cX1_bestUnasked 1 = .ok (.istore_n 2, 1) := by decide +kernel
theorem dX1_bestUnasked_2 : decode cX1_bestUnasked 2 = .ok (.aload_n 0, 1) := by decide +kernel
theorem dX1_bestUnasked_3 : decode cX1_bestUnasked 3 = .ok (.getfield 24, 3) := by decide +kernel
theorem dX1_bestUnasked_6 : decode cX1_bestUnasked 6 = .ok (.getfield 35, 3) := by decide +kernel
theorem dX1_bestUnasked_9 : decode cX1_bestUnasked 9 = .ok (.iload_n 1, 1) := by decide +kernel
theorem dX1_bestUnasked_10 : decode cX1_bestUnasked 10 = .ok (.invokevirtual 124, 3) := by decide +kernel
theorem dX1_bestUnasked_13 : decode cX1_bestUnasked 13 = .ok (.ifCond .ne 5, 3) := by decide +kernel
theorem dX1_bestUnasked_16 : decode cX1_bestUnasked 16 = .ok (.iconst (-1), 1) := by decide +kernel
theorem dX1_bestUnasked_17 : decode cX1_bestUnasked 17 = .ok (.ireturn, 1) := by decide +kernel
theorem dX1_bestUnasked_18 : decode cX1_bestUnasked 18 = .ok (.iconst 0, 1) := by decide +kernel
theorem dX1_bestUnasked_19 : decode cX1_bestUnasked 19 = .ok (.istore_n 3, 1) := by decide +kernel
theorem dX1_bestUnasked_20 : decode cX1_bestUnasked 20 = .ok (.iload_n 3, 1) := by decide +kernel
theorem dX1_bestUnasked_21 : decode cX1_bestUnasked 21 = .ok (.aload_n 0, 1) := by decide +kernel
theorem dX1_bestUnasked_22 : decode cX1_bestUnasked 22 = .ok (.getfield 24, 3) := by decide +kernel
theorem dX1_bestUnasked_25 : decode cX1_bestUnasked 25 = .ok (.getfield 35, 3) := by decide +kernel
theorem dX1_bestUnasked_28 : decode cX1_bestUnasked 28 = .ok (.getfield 118, 3) := by decide +kernel
theorem dX1_bestUnasked_31 : decode cX1_bestUnasked 31 = .ok (.if_icmp .ge 74, 3) := by decide +kernel
theorem dX1_bestUnasked_34 : decode cX1_bestUnasked 34 = .ok (.iload_n 3, 1) := by decide +kernel
theorem dX1_bestUnasked_35 : decode cX1_bestUnasked 35 = .ok (.bipush 6, 2) := by decide +kernel
theorem dX1_bestUnasked_37 : decode cX1_bestUnasked 37 = .ok (.if_icmp .ge 68, 3) := by decide +kernel
theorem dX1_bestUnasked_40 : decode cX1_bestUnasked 40 = .ok (.aload_n 0, 1) := by decide +kernel
theorem dX1_bestUnasked_41 : decode cX1_bestUnasked 41 = .ok (.getfield 21, 3) := by decide +kernel
theorem dX1_bestUnasked_44 : decode cX1_bestUnasked 44 = .ok (.iload_n 1, 1) := by decide +kernel
theorem dX1_bestUnasked_45 : decode cX1_bestUnasked 45 = .ok (.iaload, 1) := by decide +kernel
theorem dX1_bestUnasked_46 : decode cX1_bestUnasked 46 = .ok (.iload_n 3, 1) := by decide +kernel
theorem dX1_bestUnasked_47 : decode cX1_bestUnasked 47 = .ok (.ishr, 1) := by decide +kernel
theorem dX1_bestUnasked_48 : decode cX1_bestUnasked 48 = .ok (.iconst 1, 1) := by decide +kernel
theorem dX1_bestUnasked_49 : decode cX1_bestUnasked 49 = .ok (.iand, 1) := by decide +kernel
theorem dX1_bestUnasked_50 : decode cX1_bestUnasked 50 = .ok (.ifCond .ne 7, 3) := by decide +kernel
theorem dX1_bestUnasked_53 : decode cX1_bestUnasked 53 = .ok (.iconst 1, 1) := by decide +kernel
theorem dX1_bestUnasked_54 : decode cX1_bestUnasked 54 = .ok (.goto 4, 3) := by decide +kernel
theorem dX1_bestUnasked_57 : decode cX1_bestUnasked 57 = .ok (.iconst 0, 1) := by decide +kernel
theorem dX1_bestUnasked_58 : decode cX1_bestUnasked 58 = .ok (.istore 4, 2) := by decide +kernel
theorem dX1_bestUnasked_60 : decode cX1_bestUnasked 60 = .ok (.iload 4, 2) := by decide +kernel
theorem dX1_bestUnasked_62 : decode cX1_bestUnasked 62 = .ok (.ifCond .eq 37, 3) := by decide +kernel
theorem dX1_bestUnasked_65 : decode cX1_bestUnasked 65 = .ok (.iload_n 2, 1) := by decide +kernel
theorem dX1_bestUnasked_66 : decode cX1_bestUnasked 66 = .ok (.iconst (-1), 1) := by decide +kernel
theorem dX1_bestUnasked_67 : decode cX1_bestUnasked 67 = .ok (.if_icmp .eq 30, 3) := by decide +kernel
theorem dX1_bestUnasked_70 : decode cX1_bestUnasked 70 = .ok (.aload_n 0, 1) := by decide +kernel
theorem dX1_bestUnasked_71 : decode cX1_bestUnasked 71 = .ok (.getfield 24, 3) := by decide +kernel
theorem dX1_bestUnasked_74 : decode cX1_bestUnasked 74 = .ok (.getfield 35, 3) := by decide +kernel
theorem dX1_bestUnasked_77 : decode cX1_bestUnasked 77 = .ok (.iload_n 1, 1) := by decide +kernel
theorem dX1_bestUnasked_78 : decode cX1_bestUnasked 78 = .ok (.iload_n 3, 1) := by decide +kernel
theorem dX1_bestUnasked_79 : decode cX1_bestUnasked 79 = .ok (.invokevirtual 134, 3) := by decide +kernel
theorem dX1_bestUnasked_82 : decode cX1_bestUnasked 82 = .ok (.aload_n 0, 1) := by decide +kernel
theorem dX1_bestUnasked_83 : decode cX1_bestUnasked 83 = .ok (.getfield 24, 3) := by decide +kernel
theorem dX1_bestUnasked_86 : decode cX1_bestUnasked 86 = .ok (.getfield 35, 3) := by decide +kernel
theorem dX1_bestUnasked_89 : decode cX1_bestUnasked 89 = .ok (.iload_n 1, 1) := by decide +kernel
theorem dX1_bestUnasked_90 : decode cX1_bestUnasked 90 = .ok (.iload_n 2, 1) := by decide +kernel
theorem dX1_bestUnasked_91 : decode cX1_bestUnasked 91 = .ok (.invokevirtual 134, 3) := by decide +kernel
theorem dX1_bestUnasked_94 : decode cX1_bestUnasked 94 = .ok (.if_icmp .le 5, 3) := by decide +kernel
theorem dX1_bestUnasked_97 : decode cX1_bestUnasked 97 = .ok (.iload_n 3, 1) := by decide +kernel
theorem dX1_bestUnasked_98 : decode cX1_bestUnasked 98 = .ok (.istore_n 2, 1) := by decide +kernel
theorem dX1_bestUnasked_99 : decode cX1_bestUnasked 99 = .ok (.iinc 3 1, 3) := by decide +kernel
theorem dX1_bestUnasked_102 : decode cX1_bestUnasked 102 = .ok (.goto (-82), 3) := by decide +kernel
theorem dX1_bestUnasked_105 : decode cX1_bestUnasked 105 = .ok (.iload_n 2, 1) := by decide +kernel
theorem dX1_bestUnasked_106 : decode cX1_bestUnasked 106 = .ok (.ireturn, 1) := by decide +kernel
theorem dX2_init_0 : decode cX2_init 0 = .ok (.aload_n 0, 1) := by decide +kernel
theorem dX2_init_1 : decode cX2_init 1 = .ok (.invokespecial 5, 3) := by decide +kernel
theorem dX2_init_4 : decode cX2_init 4 = .ok (.aload_n 0, 1) := by decide +kernel
theorem dX2_init_5 : decode cX2_init 5 = .ok (.bipush 67, 2) := by decide +kernel
theorem dX2_init_7 : decode cX2_init 7 = .ok (.newarray .int, 2) := by decide +kernel
theorem dX2_init_9 : decode cX2_init 9 = .ok (.putfield 11, 3) := by decide +kernel
theorem dX2_init_12 : decode cX2_init 12 = .ok (.aload_n 0, 1) := by decide +kernel
theorem dX2_init_13 : decode cX2_init 13 = .ok (.bipush 20, 2) := by decide +kernel
theorem dX2_init_15 : decode cX2_init 15 = .ok (.bipush 67, 2) := by decide +kernel
theorem dX2_init_17 : decode cX2_init 17 = .ok (.multianewarray 15 2, 4) := by decide +kernel
theorem dX2_init_21 : decode cX2_init 21 = .ok (.putfield 17, 3) := by decide +kernel
theorem dX2_init_24 : decode cX2_init 24 = .ok (.aload_n 0, 1) := by decide +kernel
theorem dX2_init_25 : decode cX2_init 25 = .ok (.iconst 0, 1) := by decide +kernel
theorem dX2_init_26 : decode cX2_init 26 = .ok (.putfield 20, 3) := by decide +kernel
theorem dX2_init_29 : decode cX2_init 29 = .ok (.aload_n 0, 1) := by decide +kernel
theorem dX2_init_30 : decode cX2_init 30 = .ok (.iconst 0, 1) := by decide +kernel
theorem dX2_init_31 : decode cX2_init 31 = .ok (.putfield 24, 3) := by decide +kernel
theorem dX2_init_34 : decode cX2_init 34 = .ok (.aload_n 0, 1) := by decide +kernel
theorem dX2_init_35 : decode cX2_init 35 = .ok (.iconst 0, 1) := by decide +kernel
theorem dX2_init_36 : decode cX2_init 36 = .ok (.putfield 27, 3) := by decide +kernel
theorem dX2_init_39 : decode cX2_init 39 = .ok (.return_, 1) := by decide +kernel
theorem dX2_begin_0 : decode cX2_begin 0 = .ok (.aload_n 0, 1) := by decide +kernel
theorem dX2_begin_1 : decode cX2_begin 1 = .ok (.invokevirtual 30, 3) := by decide +kernel
theorem dX2_begin_4 : decode cX2_begin 4 = .ok (.aload_n 0, 1) := by decide +kernel
theorem dX2_begin_5 : decode cX2_begin 5 = .ok (.getfield 11, 3) := by decide +kernel
theorem dX2_begin_8 : decode cX2_begin 8 = .ok (.iconst 0, 1) := by decide +kernel
theorem dX2_begin_9 : decode cX2_begin 9 = .ok (.iconst 0, 1) := by decide +kernel
theorem dX2_begin_10 : decode cX2_begin 10 = .ok (.iastore, 1) := by decide +kernel
theorem dX2_begin_11 : decode cX2_begin 11 = .ok (.aload_n 0, 1) := by decide +kernel
theorem dX2_begin_12 : decode cX2_begin 12 = .ok (.getfield 11, 3) := by decide +kernel
theorem dX2_begin_15 : decode cX2_begin 15 = .ok (.iconst 1, 1) := by decide +kernel
theorem dX2_begin_16 : decode cX2_begin 16 = .ok (.iconst 0, 1) := by decide +kernel
theorem dX2_begin_17 : decode cX2_begin 17 = .ok (.iastore, 1) := by decide +kernel
theorem dX2_begin_18 : decode cX2_begin 18 = .ok (.aload_n 0, 1) := by decide +kernel
theorem dX2_begin_19 : decode cX2_begin 19 = .ok (.bipush 6, 2) := by decide +kernel
theorem dX2_begin_21 : decode cX2_begin 21 = .ok (.aload_n 1, 1) := by decide +kernel
theorem dX2_begin_22 : decode cX2_begin 22 = .ok (.getfield 33, 3) := by decide +kernel
theorem dX2_begin_25 : decode cX2_begin 25 = .ok (.invokestatic 36, 3) := by decide +kernel
theorem dX2_begin_28 : decode cX2_begin 28 = .ok (.putfield 24, 3) := by decide +kernel
theorem dX2_begin_31 : decode cX2_begin 31 = .ok (.iconst 0, 1) := by decide +kernel
theorem dX2_begin_32 : decode cX2_begin 32 = .ok (.istore_n 2, 1) := by decide +kernel
theorem dX2_begin_33 : decode cX2_begin 33 = .ok (.iload_n 2, 1) := by decide +kernel
theorem dX2_begin_34 : decode cX2_begin 34 = .ok (.aload_n 0, 1) := by decide +kernel
theorem dX2_begin_35 : decode cX2_begin 35 = .ok (.getfield 24, 3) := by decide +kernel
theorem dX2_begin_38 : decode cX2_begin 38 = .ok (.if_icmp .ge 58, 3) := by decide +kernel
theorem dX2_begin_41 : decode cX2_begin 41 = .ok (.aload_n 0, 1) := by decide +kernel
theorem dX2_begin_42 : decode cX2_begin 42 = .ok (.getfield 11, 3) := by decide +kernel
theorem dX2_begin_45 : decode cX2_begin 45 = .ok (.iconst 3, 1) := by decide +kernel
theorem dX2_begin_46 : decode cX2_begin 46 = .ok (.iload_n 2, 1) := by decide +kernel
theorem dX2_begin_47 : decode cX2_begin 47 = .ok (.iadd, 1) := by decide +kernel
theorem dX2_begin_48 : decode cX2_begin 48 = .ok (.aload_n 1, 1) := by decide +kernel
theorem dX2_begin_49 : decode cX2_begin 49 = .ok (.getfield 42, 3) := by decide +kernel
theorem dX2_begin_52 : decode cX2_begin 52 = .ok (.iload_n 2, 1) := by decide +kernel
theorem dX2_begin_53 : decode cX2_begin 53 = .ok (.iaload, 1) := by decide +kernel
theorem dX2_begin_54 : decode cX2_begin 54 = .ok (.iastore, 1) := by decide +kernel
theorem dX2_begin_55 : decode cX2_begin 55 = .ok (.aload_n 0, 1) := by decide +kernel
theorem dX2_begin_56 : decode cX2_begin 56 = .ok (.getfield 11, 3) := by decide +kernel
theorem dX2_begin_59 : decode cX2_begin 59 = .ok (.bipush 9, 2) := by decide +kernel
theorem dX2_begin_61 : decode cX2_begin 61 = .ok (.iload_n 2, 1) := by decide +kernel
theorem dX2_begin_62 : decode cX2_begin 62 = .ok (.iadd, 1) := by decide +kernel
theorem dX2_begin_63 : decode cX2_begin 63 = .ok (.aload_n 1, 1) := by decide +kernel
theorem dX2_begin_64 : decode cX2_begin 64 = .ok (.getfield 45, 3) := by decide +kernel
theorem dX2_begin_67 : decode cX2_begin 67 = .ok (.iload_n 2, 1) := by decide +kernel
theorem dX2_begin_68 : decode cX2_begin 68 = .ok (.iaload, 1) := by decide +kernel
theorem dX2_begin_69 : decode cX2_begin 69 = .ok (.iastore, 1) := by decide +kernel
theorem dX2_begin_70 : decode cX2_begin 70 = .ok (.aload_n 0, 1) := by decide +kernel
theorem dX2_begin_71 : decode cX2_begin 71 = .ok (.getfield 11, 3) := by decide +kernel
theorem dX2_begin_74 : decode cX2_begin 74 = .ok (.bipush 15, 2) := by decide +kernel
theorem dX2_begin_76 : decode cX2_begin 76 = .ok (.iload_n 2, 1) := by decide +kernel
theorem dX2_begin_77 : decode cX2_begin 77 = .ok (.iadd, 1) := by decide +kernel
theorem dX2_begin_78 : decode cX2_begin 78 = .ok (.iconst 0, 1) := by decide +kernel
theorem dX2_begin_79 : decode cX2_begin 79 = .ok (.iastore, 1) := by decide +kernel
theorem dX2_begin_80 : decode cX2_begin 80 = .ok (.aload_n 0, 1) := by decide +kernel
theorem dX2_begin_81 : decode cX2_begin 81 = .ok (.getfield 11, 3) := by decide +kernel
theorem dX2_begin_84 : decode cX2_begin 84 = .ok (.bipush 21, 2) := by decide +kernel
theorem dX2_begin_86 : decode cX2_begin 86 = .ok (.iload_n 2, 1) := by decide +kernel
theorem dX2_begin_87 : decode cX2_begin 87 = .ok (.iadd, 1) := by decide +kernel
theorem dX2_begin_88 : decode cX2_begin 88 = .ok (.iconst (-1), 1) := by decide +kernel
theorem dX2_begin_89 : decode cX2_begin 89 = .ok (.iastore, 1) := by decide +kernel
theorem dX2_begin_90 : decode cX2_begin 90 = .ok (.iinc 2 1, 3) := by decide +kernel
theorem dX2_begin_93 : decode cX2_begin 93 = .ok (.goto (-60), 3) := by decide +kernel
theorem dX2_begin_96 : decode cX2_begin 96 = .ok (.return_, 1) := by decide +kernel
theorem dX2_forget_0 : decode cX2_forget 0 = .ok (.aload_n 0, 1) := by decide +kernel
theorem dX2_forget_1 : decode cX2_forget 1 = .ok (.getfield 11, 3) := by decide +kernel
theorem dX2_forget_4 : decode cX2_forget 4 = .ok (.iconst 2, 1) := by decide +kernel
theorem dX2_forget_5 : decode cX2_forget 5 = .ok (.iconst 0, 1) := by decide +kernel
theorem dX2_forget_6 : decode cX2_forget 6 = .ok (.iastore, 1) := by decide +kernel
theorem dX2_forget_7 : decode cX2_forget 7 = .ok (.aload_n 0, 1) := by decide +kernel
theorem dX2_forget_8 : decode cX2_forget 8 = .ok (.iconst 0, 1) := by decide +kernel
theorem dX2_forget_9 : decode cX2_forget 9 = .ok (.putfield 27, 3) := by decide +kernel
theorem dX2_forget_12 : decode cX2_forget 12 = .ok (.return_, 1) := by decide +kernel
theorem dX2_remember_0 : decode cX2_remember 0 = .ok (.aload_n 0, 1) := by decide +kernel
theorem dX2_remember_1 : decode cX2_remember 1 = .ok (.aload_n 0, 1) := by decide +kernel
theorem dX2_remember_2 : decode cX2_remember 2 = .ok (.getfield 20, 3) := by decide +kernel
theorem dX2_remember_5 : decode cX2_remember 5 = .ok (.iconst 1, 1) := by decide +kernel
theorem dX2_remember_6 : decode cX2_remember 6 = .ok (.iadd, 1) := by decide +kernel
theorem dX2_remember_7 : decode cX2_remember 7 = .ok (.bipush 20, 2) := by decide +kernel
theorem dX2_remember_9 : decode cX2_remember 9 = .ok (.irem, 1) := by decide +kernel
theorem dX2_remember_10 : decode cX2_remember 10 = .ok (.putfield 20, 3) := by decide +kernel
theorem dX2_remember_13 : decode cX2_remember 13 = .ok (.aload_n 0, 1) := by decide +kernel
theorem dX2_remember_14 : decode cX2_remember 14 = .ok (.getfield 20, 3) := by decide +kernel
theorem dX2_remember_17 : decode cX2_remember 17 = .ok (.ifCond .lt 23, 3) := by decide +kernel
theorem dX2_remember_20 : decode cX2_remember 20 = .ok (.aload_n 0, 1) := by decide +kernel
theorem dX2_remember_21 : decode cX2_remember 21 = .ok (.getfield 11, 3) := by decide +kernel
theorem dX2_remember_24 : decode cX2_remember 24 = .ok (.iconst 0, 1) := by decide +kernel
theorem dX2_remember_25 : decode cX2_remember 25 = .ok (.aload_n 0, 1) := by decide +kernel
theorem dX2_remember_26 : decode cX2_remember 26 = .ok (.getfield 17, 3) := by decide +kernel
theorem dX2_remember_29 : decode cX2_remember 29 = .ok (.aload_n 0, 1) := by decide +kernel
theorem dX2_remember_30 : decode cX2_remember 30 = .ok (.getfield 20, 3) := by decide +kernel
theorem dX2_remember_33 : decode cX2_remember 33 = .ok (.aaload, 1) := by decide +kernel
theorem dX2_remember_34 : decode cX2_remember 34 = .ok (.iconst 0, 1) := by decide +kernel
theorem dX2_remember_35 : decode cX2_remember 35 = .ok (.bipush 67, 2) := by decide +kernel
theorem dX2_remember_37 : decode cX2_remember 37 = .ok (.invokestatic 48, 3) := by decide +kernel
theorem dX2_remember_40 : decode cX2_remember 40 = .ok (.aload_n 0, 1) := by decide +kernel
theorem dX2_remember_41 : decode cX2_remember 41 = .ok (.bipush 20, 2) := by decide +kernel
theorem dX2_remember_43 : decode cX2_remember 43 = .ok (.aload_n 0, 1) := by decide +kernel
theorem dX2_remember_44 : decode cX2_remember 44 = .ok (.getfield 27, 3) := by decide +kernel
theorem dX2_remember_47 : decode cX2_remember 47 = .ok (.iconst 1, 1) := by decide +kernel
theorem dX2_remember_48 : decode cX2_remember 48 = .ok (.iadd, 1) := by decide +kernel
theorem dX2_remember_49 : decode cX2_remember 49 = .ok (.invokestatic 36, 3) := by decide +kernel
theorem dX2_remember_52 : decode cX2_remember 52 = .ok (.putfield 27, 3) := by decide +kernel
theorem dX2_remember_55 : decode cX2_remember 55 = .ok (.return_, 1) := by decide +kernel
theorem dX2_goBack_0 : decode cX2_goBack 0 = .ok (.aload_n 0, 1) := by decide +kernel
theorem dX2_goBack_1 : decode cX2_goBack 1 = .ok (.getfield 27, 3) := by decide +kernel
theorem dX2_goBack_4 : decode cX2_goBack 4 = .ok (.iconst 1, 1) := by decide +kernel
theorem dX2_goBack_5 : decode cX2_goBack 5 = .ok (.if_icmp .lt 19, 3) := by decide +kernel
theorem dX2_goBack_8 : decode cX2_goBack 8 = .ok (.aload_n 0, 1) := by decide +kernel
theorem dX2_goBack_9 : decode cX2_goBack 9 = .ok (.getfield 20, 3) := by decide +kernel
theorem dX2_goBack_12 : decode cX2_goBack 12 = .ok (.ifCond .lt 12, 3) := by decide +kernel
theorem dX2_goBack_15 : decode cX2_goBack 15 = .ok (.aload_n 0, 1) := by decide +kernel
theorem dX2_goBack_16 : decode cX2_goBack 16 = .ok (.getfield 20, 3) := by decide +kernel
theorem dX2_goBack_19 : decode cX2_goBack 19 = .ok (.bipush 20, 2) := by decide +kernel
theorem dX2_goBack_21 : decode cX2_goBack 21 = .ok (.if_icmp .lt 5, 3) := by decide +kernel
theorem dX2_goBack_24 : decode cX2_goBack 24 = .ok (.iconst 0, 1) := by decide +kernel
theorem dX2_goBack_25 : decode cX2_goBack 25 = .ok (.ireturn, 1) := by decide +kernel
theorem dX2_goBack_26 : decode cX2_goBack 26 = .ok (.aload_n 0, 1) := by decide +kernel
theorem dX2_goBack_27 : decode cX2_goBack 27 = .ok (.getfield 17, 3) := by decide +kernel
theorem dX2_goBack_30 : decode cX2_goBack 30 = .ok (.aload_n 0, 1) := by decide +kernel
theorem dX2_goBack_31 : decode cX2_goBack 31 = .ok (.getfield 20, 3) := by decide +kernel
theorem dX2_goBack_34 : decode cX2_goBack 34 = .ok (.aaload, 1) := by decide +kernel
theorem dX2_goBack_35 : decode cX2_goBack 35 = .ok (.iconst 0, 1) := by decide +kernel
theorem dX2_goBack_36 : decode cX2_goBack 36 = .ok (.aload_n 0, 1) := by decide +kernel
theorem dX2_goBack_37 : decode cX2_goBack 37 = .ok (.getfield 11, 3) := by decide +kernel
theorem dX2_goBack_40 : decode cX2_goBack 40 = .ok (.iconst 0, 1) := by decide +kernel
theorem dX2_goBack_41 : decode cX2_goBack 41 = .ok (.bipush 67, 2) := by decide +kernel
theorem dX2_goBack_43 : decode cX2_goBack 43 = .ok (.invokestatic 48, 3) := by decide +kernel
theorem dX2_goBack_46 : decode cX2_goBack 46 = .ok (.aload_n 0, 1) := by decide +kernel
theorem dX2_goBack_47 : decode cX2_goBack 47 = .ok (.aload_n 0, 1) := by decide +kernel
theorem dX2_goBack_48 : decode cX2_goBack 48 = .ok (.getfield 20, 3) := by decide +kernel
theorem dX2_goBack_51 : decode cX2_goBack 51 = .ok (.bipush 20, 2) := by decide +kernel
theorem dX2_goBack_53 : decode cX2_goBack 53 = .ok (.iadd, 1) := by decide +kernel
theorem dX2_goBack_54 : decode cX2_goBack 54 = .ok (.iconst 1, 1) := by decide +kernel
theorem dX2_goBack_55 : decode cX2_goBack 55 = .ok (.isub, 1) := by decide +kernel
theorem dX2_goBack_56 : decode cX2_goBack 56 = .ok (.bipush 20, 2) := by decide +kernel
theorem dX2_goBack_58 : decode cX2_goBack 58 = .ok (.irem, 1) := by decide +kernel
theorem dX2_goBack_59 : decode cX2_goBack 59 = .ok (.putfield 20, 3) := by decide +kernel
theorem dX2_goBack_62 : decode cX2_goBack 62 = .ok (.aload_n 0, 1) := by decide +kernel
theorem dX2_goBack_63 : decode cX2_goBack 63 = .ok (.dup, 1) := by decide +kernel
theorem dX2_goBack_64 : decode cX2_goBack 64 = .ok (.getfield 27, 3) := by decide +kernel
theorem dX2_goBack_67 : decode cX2_goBack 67 = .ok (.iconst 1, 1) := by decide +kernel
theorem dX2_goBack_68 : decode cX2_goBack 68 = .ok (.isub, 1) := by decide +kernel
theorem dX2_goBack_69 : decode cX2_goBack 69 = .ok (.putfield 27, 3) := by decide +kernel
theorem dX2_goBack_72 : decode cX2_goBack 72 = .ok (.iconst 1, 1) := by decide +kernel
theorem dX2_goBack_73 : decode cX2_goBack 73 = .ok (.ireturn, 1) := by decide +kernel
theorem dX2_isBoat_0 : decode cX2_isBoat 0 = .ok (.iload_n 1, 1) := by decide +kernel
theorem dX2_isBoat_1 : decode cX2_isBoat 1 = .ok (.ifCond .lt 21, 3) := by decide +kernel
theorem dX2_isBoat_4 : decode cX2_isBoat 4 = .ok (.iload_n 1, 1) := by decide +kernel
theorem dX2_isBoat_5 : decode cX2_isBoat 5 = .ok (.aload_n 0, 1) := by decide +kernel
theorem dX2_isBoat_6 : decode cX2_isBoat 6 = .ok (.getfield 24, 3) := by decide +kernel
theorem dX2_isBoat_9 : decode cX2_isBoat 9 = .ok (.if_icmp .ge 13, 3) := by decide +kernel
theorem dX2_isBoat_12 : decode cX2_isBoat 12 = .ok (.iload_n 1, 1) := by decide +kernel
theorem dX2_isBoat_13 : decode cX2_isBoat 13 = .ok (.bipush 6, 2) := by decide +kernel
theorem dX2_isBoat_15 : decode cX2_isBoat 15 = .ok (.if_icmp .ge 7, 3) := by decide +kernel
theorem dX2_isBoat_18 : decode cX2_isBoat 18 = .ok (.iconst 1, 1) := by decide +kernel
theorem dX2_isBoat_19 : decode cX2_isBoat 19 = .ok (.goto 4, 3) := by decide +kernel
theorem dX2_isBoat_22 : decode cX2_isBoat 22 = .ok (.iconst 0, 1) := by decide +kernel
theorem dX2_isBoat_23 : decode cX2_isBoat 23 = .ok (.ireturn, 1) := by decide +kernel
theorem dX2_hour_0 : decode cX2_hour 0 = .ok (.aload_n 0, 1) := by decide +kernel
theorem dX2_hour_1 : decode cX2_hour 1 = .ok (.getfield 11, 3) := by decide +kernel
theorem dX2_hour_4 : decode cX2_hour 4 = .ok (.iconst 0, 1) := by decide +kernel
theorem dX2_hour_5 : decode cX2_hour 5 = .ok (.iaload, 1) := by decide +kernel
theorem dX2_hour_6 : decode cX2_hour 6 = .ok (.ireturn, 1) := by decide +kernel
theorem dX2_coins_0 : decode cX2_coins 0 = .ok (.aload_n 0, 1) := by decide +kernel
theorem dX2_coins_1 : decode cX2_coins 1 = .ok (.getfield 11, 3) := by decide +kernel
theorem dX2_coins_4 : decode cX2_coins 4 = .ok (.iconst 1, 1) := by decide +kernel
theorem dX2_coins_5 : decode cX2_coins 5 = .ok (.iaload, 1) := by decide +kernel
theorem dX2_coins_6 : decode cX2_coins 6 = .ok (.ireturn, 1) := by decide +kernel
theorem dX2_cellOf_0 : decode cX2_cellOf 0 = .ok (.aload_n 0, 1) := by decide +kernel
theorem dX2_cellOf_1 : decode cX2_cellOf 1 = .ok (.iload_n 1, 1) := by decide +kernel
theorem dX2_cellOf_2 : decode cX2_cellOf 2 = .ok (.invokevirtual 54, 3) := by decide +kernel
theorem dX2_cellOf_5 : decode cX2_cellOf 5 = .ok (.ifCond .eq 14, 3) := by decide +kernel
theorem dX2_cellOf_8 : decode cX2_cellOf 8 = .ok (.aload_n 0, 1) := by decide +kernel
theorem dX2_cellOf_9 : decode cX2_cellOf 9 = .ok (.getfield 11, 3) := by decide +kernel
theorem dX2_cellOf_12 : decode cX2_cellOf 12 = .ok (.iconst 3, 1) := by decide +kernel
theorem dX2_cellOf_13 : decode cX2_cellOf 13 = .ok (.iload_n 1, 1) := by decide +kernel
theorem dX2_cellOf_14 : decode cX2_cellOf 14 = .ok (.iadd, 1) := by decide +kernel
theorem dX2_cellOf_15 : decode cX2_cellOf 15 = .ok (.iaload, 1) := by decide +kernel
theorem dX2_cellOf_16 : decode cX2_cellOf 16 = .ok (.goto 4, 3) := by decide +kernel
theorem dX2_cellOf_19 : decode cX2_cellOf 19 = .ok (.iconst (-1), 1) := by decide +kernel
theorem dX2_cellOf_20 : decode cX2_cellOf 20 = .ok (.ireturn, 1) := by decide +kernel
theorem dX2_trustOf_0 : decode cX2_trustOf 0 = .ok (.aload_n 0, 1) := by decide +kernel
theorem dX2_trustOf_1 : decode cX2_trustOf 1 = .ok (.iload_n 1, 1) := by decide +kernel
theorem dX2_trustOf_2 : decode cX2_trustOf 2 = .ok (.invokevirtual 54, 3) := by decide +kernel
theorem dX2_trustOf_5 : decode cX2_trustOf 5 = .ok (.ifCond .eq 15, 3) := by decide +kernel
theorem dX2_trustOf_8 : decode cX2_trustOf 8 = .ok (.aload_n 0, 1) := by decide +kernel
theorem dX2_trustOf_9 : decode cX2_trustOf 9 = .ok (.getfield 11, 3) := by decide +kernel
theorem dX2_trustOf_12 : decode cX2_trustOf 12 = .ok (.bipush 9, 2) := by decide +kernel
theorem dX2_trustOf_14 : decode cX2_trustOf 14 = .ok (.iload_n 1, 1) := by decide +kernel
theorem dX2_trustOf_15 : decode cX2_trustOf 15 = .ok (.iadd, 1) := by decide +kernel
theorem dX2_trustOf_16 : decode cX2_trustOf 16 = .ok (.iaload, 1) := by decide +kernel
theorem dX2_trustOf_17 : decode cX2_trustOf 17 = .ok (.goto 4, 3) := by decide +kernel
theorem dX2_trustOf_20 : decode cX2_trustOf 20 = .ok (.iconst 0, 1) := by decide +kernel
theorem dX2_trustOf_21 : decode cX2_trustOf 21 = .ok (.ireturn, 1) := by decide +kernel
theorem dX2_balksOf_0 : decode cX2_balksOf 0 = .ok (.aload_n 0, 1) := by decide +kernel
theorem dX2_balksOf_1 : decode cX2_balksOf 1 = .ok (.iload_n 1, 1) := by decide +kernel
theorem dX2_balksOf_2 : decode cX2_balksOf 2 = .ok (.invokevirtual 54, 3) := by decide +kernel
theorem dX2_balksOf_5 : decode cX2_balksOf 5 = .ok (.ifCond .eq 15, 3) := by decide +kernel
theorem dX2_balksOf_8 : decode cX2_balksOf 8 = .ok (.aload_n 0, 1) := by decide +kernel
theorem dX2_balksOf_9 : decode cX2_balksOf 9 = .ok (.getfield 11, 3) := by decide +kernel
theorem dX2_balksOf_12 : decode cX2_balksOf 12 = .ok (.bipush 15, 2) := by decide +kernel
theorem dX2_balksOf_14 : decode cX2_balksOf 14 = .ok (.iload_n 1, 1) := by decide +kernel
theorem dX2_balksOf_15 : decode cX2_balksOf 15 = .ok (.iadd, 1) := by decide +kernel
theorem dX2_balksOf_16 : decode cX2_balksOf 16 = .ok (.iaload, 1) := by decide +kernel
theorem dX2_balksOf_17 : decode cX2_balksOf 17 = .ok (.goto 4, 3) := by decide +kernel
theorem dX2_balksOf_20 : decode cX2_balksOf 20 = .ok (.iconst 0, 1) := by decide +kernel
theorem dX2_balksOf_21 : decode cX2_balksOf 21 = .ok (.ireturn, 1) := by decide +kernel
theorem dX2_handOf_0 : decode cX2_handOf 0 = .ok (.aload_n 0, 1) := by decide +kernel
theorem dX2_handOf_1 : decode cX2_handOf 1 = .ok (.iload_n 1, 1) := by decide +kernel
theorem dX2_handOf_2 : decode cX2_handOf 2 = .ok (.invokevirtual 54, 3) := by decide +kernel
theorem dX2_handOf_5 : decode cX2_handOf 5 = .ok (.ifCond .eq 15, 3) := by decide +kernel
theorem dX2_handOf_8 : decode cX2_handOf 8 = .ok (.aload_n 0, 1) := by decide +kernel
theorem dX2_handOf_9 : decode cX2_handOf 9 = .ok (.getfield 11, 3) := by decide +kernel
theorem dX2_handOf_12 : decode cX2_handOf 12 = .ok (.bipush 21, 2) := by decide +kernel
theorem dX2_handOf_14 : decode cX2_handOf 14 = .ok (.iload_n 1, 1) := by decide +kernel
theorem dX2_handOf_15 : decode cX2_handOf 15 = .ok (.iadd, 1) := by decide +kernel
theorem dX2_handOf_16 : decode cX2_handOf 16 = .ok (.iaload, 1) := by decide +kernel
theorem dX2_handOf_17 : decode cX2_handOf 17 = .ok (.goto 4, 3) := by decide +kernel
theorem dX2_handOf_20 : decode cX2_handOf 20 = .ok (.iconst (-1), 1) := by decide +kernel
theorem dX2_handOf_21 : decode cX2_handOf 21 = .ok (.ireturn, 1) := by decide +kernel
theorem dX2_boatOf_0 : decode cX2_boatOf 0 = .ok (.iconst 0, 1) := by decide +kernel
theorem dX2_boatOf_1 : decode cX2_boatOf 1 = .ok (.istore_n 2, 1) := by decide +kernel
theorem dX2_boatOf_2 : decode cX2_boatOf 2 = .ok (.iload_n 2, 1) := by decide +kernel
theorem dX2_boatOf_3 : decode cX2_boatOf 3 = .ok (.aload_n 0, 1) := by decide +kernel
theorem dX2_boatOf_4 : decode cX2_boatOf 4 = .ok (.getfield 24, 3) := by decide +kernel
theorem dX2_boatOf_7 : decode cX2_boatOf 7 = .ok (.if_icmp .ge 20, 3) := by decide +kernel
theorem dX2_boatOf_10 : decode cX2_boatOf 10 = .ok (.aload_n 0, 1) := by decide +kernel
theorem dX2_boatOf_11 : decode cX2_boatOf 11 = .ok (.iload_n 2, 1) := by decide +kernel
theorem dX2_boatOf_12 : decode cX2_boatOf 12 = .ok (.invokevirtual 58, 3) := by decide +kernel
theorem dX2_boatOf_15 : decode cX2_boatOf 15 = .ok (.iload_n 1, 1) := by decide +kernel
theorem dX2_boatOf_16 : decode cX2_boatOf 16 = .ok (.if_icmp .ne 5, 3) := by decide +kernel
theorem dX2_boatOf_19 : decode cX2_boatOf 19 = .ok (.iload_n 2, 1) := by decide +kernel
theorem dX2_boatOf_20 : decode cX2_boatOf 20 = .ok (.ireturn, 1) := by decide +kernel
theorem dX2_boatOf_21 : decode cX2_boatOf 21 = .ok (.iinc 2 1, 3) := by decide +kernel
theorem dX2_boatOf_24 : decode cX2_boatOf 24 = .ok (.goto (-22), 3) := by decide +kernel
theorem dX2_boatOf_27 : decode cX2_boatOf 27 = .ok (.iconst (-1), 1) := by decide +kernel
theorem dX2_boatOf_28 : decode cX2_boatOf 28 = .ok (.ireturn, 1) := by decide +kernel
theorem dX2_bitsIn_0 : decode cX2_bitsIn 0 = .ok (.iconst 0, 1) := by decide +kernel
theorem dX2_bitsIn_1 : decode cX2_bitsIn 1 = .ok (.istore_n 2, 1) := by decide +kernel
theorem dX2_bitsIn_2 : decode cX2_bitsIn 2 = .ok (.iconst 0, 1) := by decide +kernel
theorem dX2_bitsIn_3 : decode cX2_bitsIn 3 = .ok (.istore_n 3, 1) := by decide +kernel
theorem dX2_bitsIn_4 : decode cX2_bitsIn 4 = .ok (.iload_n 3, 1) := by decide +kernel
theorem dX2_bitsIn_5 : decode cX2_bitsIn 5 = .ok (.aload_n 0, 1) := by decide +kernel
theorem dX2_bitsIn_6 : decode cX2_bitsIn 6 = .ok (.getfield 24, 3) := by decide +kernel
theorem dX2_bitsIn_9 : decode cX2_bitsIn 9 = .ok (.if_icmp .ge 24, 3) := by decide +kernel
theorem dX2_bitsIn_12 : decode cX2_bitsIn 12 = .ok (.aload_n 0, 1) := by decide +kernel
theorem dX2_bitsIn_13 : decode cX2_bitsIn 13 = .ok (.iload_n 3, 1) := by decide +kernel
theorem dX2_bitsIn_14 : decode cX2_bitsIn 14 = .ok (.invokevirtual 62, 3) := by decide +kernel
theorem dX2_bitsIn_17 : decode cX2_bitsIn 17 = .ok (.iload_n 1, 1) := by decide +kernel
theorem dX2_bitsIn_18 : decode cX2_bitsIn 18 = .ok (.if_icmp .ne 9, 3) := by decide +kernel
theorem dX2_bitsIn_21 : decode cX2_bitsIn 21 = .ok (.iload_n 2, 1) := by decide +kernel
theorem dX2_bitsIn_22 : decode cX2_bitsIn 22 = .ok (.iconst 1, 1) := by decide +kernel
theorem dX2_bitsIn_23 : decode cX2_bitsIn 23 = .ok (.iload_n 3, 1) := by decide +kernel
theorem dX2_bitsIn_24 : decode cX2_bitsIn 24 = .ok (.ishl, 1) := by decide +kernel
theorem dX2_bitsIn_25 : decode cX2_bitsIn 25 = .ok (.ior, 1) := by decide +kernel
theorem dX2_bitsIn_26 : decode cX2_bitsIn 26 = .ok (.istore_n 2, 1) := by decide +kernel
theorem dX2_bitsIn_27 : decode cX2_bitsIn 27 = .ok (.iinc 3 1, 3) := by decide +kernel
theorem dX2_bitsIn_30 : decode cX2_bitsIn 30 = .ok (.goto (-26), 3) := by decide +kernel
theorem dX2_bitsIn_33 : decode cX2_bitsIn 33 = .ok (.iload_n 2, 1) := by decide +kernel
theorem dX2_bitsIn_34 : decode cX2_bitsIn 34 = .ok (.ireturn, 1) := by decide +kernel
theorem dX2_allTrust_0 : decode cX2_allTrust 0 = .ok (.iconst 0, 1) := by decide +kernel
theorem dX2_allTrust_1 : decode cX2_allTrust 1 = .ok (.istore_n 1, 1) := by decide +kernel
theorem dX2_allTrust_2 : decode cX2_allTrust 2 = .ok (.iconst 0, 1) := by decide +kernel
theorem dX2_allTrust_3 : decode cX2_allTrust 3 = .ok (.istore_n 2, 1) := by decide +kernel
theorem dX2_allTrust_4 : decode cX2_allTrust 4 = .ok (.iload_n 2, 1) := by decide +kernel
theorem dX2_allTrust_5 : decode cX2_allTrust 5 = .ok (.aload_n 0, 1) := by decide +kernel
theorem dX2_allTrust_6 : decode cX2_allTrust 6 = .ok (.getfield 24, 3) := by decide +kernel
theorem dX2_allTrust_9 : decode cX2_allTrust 9 = .ok (.if_icmp .ge 17, 3) := by decide +kernel
theorem dX2_allTrust_12 : decode cX2_allTrust 12 = .ok (.iload_n 1, 1) := by decide +kernel
theorem dX2_allTrust_13 : decode cX2_allTrust 13 = .ok (.aload_n 0, 1) := by decide +kernel
theorem dX2_allTrust_14 : decode cX2_allTrust 14 = .ok (.iload_n 2, 1) := by decide +kernel
theorem dX2_allTrust_15 : decode cX2_allTrust 15 = .ok (.invokevirtual 65, 3) := by decide +kernel
theorem dX2_allTrust_18 : decode cX2_allTrust 18 = .ok (.iadd, 1) := by decide +kernel
theorem dX2_allTrust_19 : decode cX2_allTrust 19 = .ok (.istore_n 1, 1) := by decide +kernel
theorem dX2_allTrust_20 : decode cX2_allTrust 20 = .ok (.iinc 2 1, 3) := by decide +kernel
theorem dX2_allTrust_23 : decode cX2_allTrust 23 = .ok (.goto (-19), 3) := by decide +kernel
theorem dX2_allTrust_26 : decode cX2_allTrust 26 = .ok (.iload_n 1, 1) := by decide +kernel
theorem dX2_allTrust_27 : decode cX2_allTrust 27 = .ok (.ireturn, 1) := by decide +kernel
theorem dX2_allBalks_0 : decode cX2_allBalks 0 = .ok (.iconst 0, 1) := by decide +kernel
theorem dX2_allBalks_1 : decode cX2_allBalks 1 = .ok (.istore_n 1, 1) := by decide +kernel
theorem dX2_allBalks_2 : decode cX2_allBalks 2 = .ok (.iconst 0, 1) := by decide +kernel
theorem dX2_allBalks_3 : decode cX2_allBalks 3 = .ok (.istore_n 2, 1) := by decide +kernel
theorem dX2_allBalks_4 : decode cX2_allBalks 4 = .ok (.iload_n 2, 1) := by decide +kernel
theorem dX2_allBalks_5 : decode cX2_allBalks 5 = .ok (.aload_n 0, 1) := by decide +kernel
theorem dX2_allBalks_6 : decode cX2_allBalks 6 = .ok (.getfield 24, 3) := by decide +kernel
theorem dX2_allBalks_9 : decode cX2_allBalks 9 = .ok (.if_icmp .ge 17, 3) := by decide +kernel
theorem dX2_allBalks_12 : decode cX2_allBalks 12 = .ok (.iload_n 1, 1) := by decide +kernel
theorem dX2_allBalks_13 : decode cX2_allBalks 13 = .ok (.aload_n 0, 1) := by decide +kernel
theorem dX2_allBalks_14 : decode cX2_allBalks 14 = .ok (.iload_n 2, 1) := by decide +kernel
theorem dX2_allBalks_15 : decode cX2_allBalks 15 = .ok (.invokevirtual 68, 3) := by decide +kernel
theorem dX2_allBalks_18 : decode cX2_allBalks 18 = .ok (.iadd, 1) := by decide +kernel
theorem dX2_allBalks_19 : decode cX2_allBalks 19 = .ok (.istore_n 1, 1) := by decide +kernel
theorem dX2_allBalks_20 : decode cX2_allBalks 20 = .ok (.iinc 2 1, 3) := by decide +kernel
theorem dX2_allBalks_23 : decode cX2_allBalks 23 = .ok (.goto (-19), 3) := by decide +kernel
theorem dX2_allBalks_26 : decode cX2_allBalks 26 = .ok (.iload_n 1, 1) := by decide +kernel
theorem dX2_allBalks_27 : decode cX2_allBalks 27 = .ok (.ireturn, 1) := by decide +kernel
theorem dX2_passHours_0 : decode cX2_passHours 0 = .ok (.aload_n 0, 1) := by decide +kernel
theorem dX2_passHours_1 : decode cX2_passHours 1 = .ok (.getfield 11, 3) := by decide +kernel
theorem dX2_passHours_4 : decode cX2_passHours 4 = .ok (.iconst 0, 1) := by decide +kernel
theorem dX2_passHours_5 : decode cX2_passHours 5 = .ok (.dup2, 1) := by decide +kernel
theorem dX2_passHours_6 : decode cX2_passHours 6 = .ok (.iaload, 1) := by decide +kernel
theorem dX2_passHours_7 : decode cX2_passHours 7 = .ok (.iload_n 1, 1) := by decide +kernel
theorem dX2_passHours_8 : decode cX2_passHours 8 = .ok (.iadd, 1) := by decide +kernel
theorem dX2_passHours_9 : decode cX2_passHours 9 = .ok (.iastore, 1) := by decide +kernel
theorem dX2_passHours_10 : decode cX2_passHours 10 = .ok (.return_, 1) := by decide +kernel
theorem dX2_pay_0 : decode cX2_pay 0 = .ok (.aload_n 0, 1) := by decide +kernel
theorem dX2_pay_1 : decode cX2_pay 1 = .ok (.getfield 11, 3) := by decide +kernel
theorem dX2_pay_4 : decode cX2_pay 4 = .ok (.iconst 1, 1) := by decide +kernel
theorem dX2_pay_5 : decode cX2_pay 5 = .ok (.ldc 71, 2) := by decide +kernel
theorem dX2_pay_7 : decode cX2_pay 7 = .ok (.aload_n 0, 1) := by decide +kernel
theorem dX2_pay_8 : decode cX2_pay 8 = .ok (.getfield 11, 3) := by decide +kernel
theorem dX2_pay_11 : decode cX2_pay 11 = .ok (.iconst 1, 1) := by decide +kernel
theorem dX2_pay_12 : decode cX2_pay 12 = .ok (.iaload, 1) := by decide +kernel
theorem dX2_pay_13 : decode cX2_pay 13 = .ok (.iload_n 1, 1) := by decide +kernel
theorem dX2_pay_14 : decode cX2_pay 14 = .ok (.iadd, 1) := by decide +kernel
theorem dX2_pay_15 : decode cX2_pay 15 = .ok (.invokestatic 36, 3) := by decide +kernel
theorem dX2_pay_18 : decode cX2_pay 18 = .ok (.iastore, 1) := by decide +kernel
theorem dX2_pay_19 : decode cX2_pay 19 = .ok (.return_, 1) := by decide +kernel
theorem dX2_setTrust_0 : decode cX2_setTrust 0 = .ok (.aload_n 0, 1) := by decide +kernel
theorem dX2_setTrust_1 : decode cX2_setTrust 1 = .ok (.iload_n 1, 1) := by decide +kernel
theorem dX2_setTrust_2 : decode cX2_setTrust 2 = .ok (.invokevirtual 54, 3) := by decide +kernel
theorem dX2_setTrust_5 : decode cX2_setTrust 5 = .ok (.ifCond .eq 16, 3) := by decide +kernel
theorem dX2_setTrust_8 : decode cX2_setTrust 8 = .ok (.aload_n 0, 1) := by decide +kernel
theorem dX2_setTrust_9 : decode cX2_setTrust 9 = .ok (.getfield 11, 3) := by decide +kernel
theorem dX2_setTrust_12 : decode cX2_setTrust 12 = .ok (.bipush 9, 2) := by decide +kernel
theorem dX2_setTrust_14 : decode cX2_setTrust 14 = .ok (.iload_n 1, 1) := by decide +kernel
theorem dX2_setTrust_15 : decode cX2_setTrust 15 = .ok (.iadd, 1) := by decide +kernel
theorem dX2_setTrust_16 : decode cX2_setTrust 16 = .ok (.iload_n 2, 1) := by decide +kernel
theorem dX2_setTrust_17 : decode cX2_setTrust 17 = .ok (.invokestatic 72, 3) := by decide +kernel
theorem dX2_setTrust_20 : decode cX2_setTrust 20 = .ok (.iastore, 1) := by decide +kernel
theorem dX2_setTrust_21 : decode cX2_setTrust 21 = .ok (.return_, 1) := by decide +kernel
theorem dX2_crew_0 : decode cX2_crew 0 = .ok (.iload_n 2, 1) := by decide +kernel
theorem dX2_crew_1 : decode cX2_crew 1 = .ok (.iconst (-1), 1) := by decide +kernel
theorem dX2_crew_2 : decode cX2_crew 2 = .ok (.if_icmp .ne 7, 3) := by decide +kernel
theorem dX2_crew_5 : decode cX2_crew 5 = .ok (.iconst (-1), 1) := by decide +kernel
theorem dX2_crew_6 : decode cX2_crew 6 = .ok (.goto 8, 3) := by decide +kernel
theorem dX2_crew_9 : decode cX2_crew 9 = .ok (.aload_n 0, 1) := by decide +kernel
theorem dX2_crew_10 : decode cX2_crew 10 = .ok (.iload_n 2, 1) := by decide +kernel
theorem dX2_crew_11 : decode cX2_crew 11 = .ok (.invokevirtual 75, 3) := by decide +kernel
theorem dX2_crew_14 : decode cX2_crew 14 = .ok (.istore_n 3, 1) := by decide +kernel
theorem dX2_crew_15 : decode cX2_crew 15 = .ok (.aload_n 0, 1) := by decide +kernel
theorem dX2_crew_16 : decode cX2_crew 16 = .ok (.iload_n 3, 1) := by decide +kernel
theorem dX2_crew_17 : decode cX2_crew 17 = .ok (.invokevirtual 54, 3) := by decide +kernel
theorem dX2_crew_20 : decode cX2_crew 20 = .ok (.ifCond .eq 13, 3) := by decide +kernel
theorem dX2_crew_23 : decode cX2_crew 23 = .ok (.aload_n 0, 1) := by decide +kernel
theorem dX2_crew_24 : decode cX2_crew 24 = .ok (.getfield 11, 3) := by decide +kernel
theorem dX2_crew_27 : decode cX2_crew 27 = .ok (.bipush 21, 2) := by decide +kernel
theorem dX2_crew_29 : decode cX2_crew 29 = .ok (.iload_n 3, 1) := by decide +kernel
theorem dX2_crew_30 : decode cX2_crew 30 = .ok (.iadd, 1) := by decide +kernel
theorem dX2_crew_31 : decode cX2_crew 31 = .ok (.iconst (-1), 1) := by decide +kernel
theorem dX2_crew_32 : decode cX2_crew 32 = .ok (.iastore, 1) := by decide +kernel
theorem dX2_crew_33 : decode cX2_crew 33 = .ok (.aload_n 0, 1) := by decide +kernel
theorem dX2_crew_34 : decode cX2_crew 34 = .ok (.iload_n 1, 1) := by decide +kernel
theorem dX2_crew_35 : decode cX2_crew 35 = .ok (.invokevirtual 54, 3) := by decide +kernel
theorem dX2_crew_38 : decode cX2_crew 38 = .ok (.ifCond .eq 13, 3) := by decide +kernel
theorem dX2_crew_41 : decode cX2_crew 41 = .ok (.aload_n 0, 1) := by decide +kernel
theorem dX2_crew_42 : decode cX2_crew 42 = .ok (.getfield 11, 3) := by decide +kernel
theorem dX2_crew_45 : decode cX2_crew 45 = .ok (.bipush 21, 2) := by decide +kernel
theorem dX2_crew_47 : decode cX2_crew 47 = .ok (.iload_n 1, 1) := by decide +kernel
theorem dX2_crew_48 : decode cX2_crew 48 = .ok (.iadd, 1) := by decide +kernel
theorem dX2_crew_49 : decode cX2_crew 49 = .ok (.iload_n 2, 1) := by decide +kernel
theorem dX2_crew_50 : decode cX2_crew 50 = .ok (.iastore, 1) := by decide +kernel
theorem dX2_crew_51 : decode cX2_crew 51 = .ok (.return_, 1) := by decide +kernel
theorem dX2_move_0 : decode cX2_move 0 = .ok (.aload_n 0, 1) := by decide +kernel
theorem dX2_move_1 : decode cX2_move 1 = .ok (.iload_n 1, 1) := by decide +kernel
theorem dX2_move_2 : decode cX2_move 2 = .ok (.invokevirtual 54, 3) := by decide +kernel
theorem dX2_move_5 : decode cX2_move 5 = .ok (.ifCond .eq 12, 3) := by decide +kernel
theorem dX2_move_8 : decode cX2_move 8 = .ok (.aload_n 0, 1) := by decide +kernel
theorem dX2_move_9 : decode cX2_move 9 = .ok (.getfield 11, 3) := by decide +kernel
theorem dX2_move_12 : decode cX2_move 12 = .ok (.iconst 3, 1) := by decide +kernel
theorem dX2_move_13 : decode cX2_move 13 = .ok (.iload_n 1, 1) := by decide +kernel
theorem dX2_move_14 : decode cX2_move 14 = .ok (.iadd, 1) := by decide +kernel
theorem dX2_move_15 : decode cX2_move 15 = .ok (.iload_n 2, 1) := by decide +kernel
theorem dX2_move_16 : decode cX2_move 16 = .ok (.iastore, 1) := by decide +kernel
theorem dX2_move_17 : decode cX2_move 17 = .ok (.return_, 1) := by decide +kernel
theorem dX2_balk_0 : decode cX2_balk 0 = .ok (.aload_n 0, 1) := by decide +kernel
theorem dX2_balk_1 : decode cX2_balk 1 = .ok (.iload_n 1, 1) := by decide +kernel
theorem dX2_balk_2 : decode cX2_balk 2 = .ok (.invokevirtual 54, 3) := by decide +kernel
theorem dX2_balk_5 : decode cX2_balk 5 = .ok (.ifCond .eq 28, 3) := by decide +kernel
theorem dX2_balk_8 : decode cX2_balk 8 = .ok (.aload_n 0, 1) := by decide +kernel
theorem dX2_balk_9 : decode cX2_balk 9 = .ok (.getfield 11, 3) := by decide +kernel
theorem dX2_balk_12 : decode cX2_balk 12 = .ok (.bipush 15, 2) := by decide +kernel
theorem dX2_balk_14 : decode cX2_balk 14 = .ok (.iload_n 1, 1) := by decide +kernel
theorem dX2_balk_15 : decode cX2_balk 15 = .ok (.iadd, 1) := by decide +kernel
theorem dX2_balk_16 : decode cX2_balk 16 = .ok (.bipush 99, 2) := by decide +kernel
theorem dX2_balk_18 : decode cX2_balk 18 = .ok (.aload_n 0, 1) := by decide +kernel
theorem dX2_balk_19 : decode cX2_balk 19 = .ok (.getfield 11, 3) := by decide +kernel
theorem dX2_balk_22 : decode cX2_balk 22 = .ok (.bipush 15, 2) := by decide +kernel
theorem dX2_balk_24 : decode cX2_balk 24 = .ok (.iload_n 1, 1) := by decide +kernel
theorem dX2_balk_25 : decode cX2_balk 25 = .ok (.iadd, 1) := by decide +kernel
theorem dX2_balk_26 : decode cX2_balk 26 = .ok (.iaload, 1) := by decide +kernel
theorem dX2_balk_27 : decode cX2_balk 27 = .ok (.iconst 1, 1) := by decide +kernel
theorem dX2_balk_28 : decode cX2_balk 28 = .ok (.iadd, 1) := by decide +kernel
theorem dX2_balk_29 : decode cX2_balk 29 = .ok (.invokestatic 36, 3) := by decide +kernel
theorem dX2_balk_32 : decode cX2_balk 32 = .ok (.iastore, 1) := by decide +kernel
theorem dX2_balk_33 : decode cX2_balk 33 = .ok (.return_, 1) := by decide +kernel
theorem dX2_keep_0 : decode cX2_keep 0 = .ok (.aload_n 0, 1) := by decide +kernel
theorem dX2_keep_1 : decode cX2_keep 1 = .ok (.getfield 11, 3) := by decide +kernel
theorem dX2_keep_4 : decode cX2_keep 4 = .ok (.iconst 2, 1) := by decide +kernel
theorem dX2_keep_5 : decode cX2_keep 5 = .ok (.iaload, 1) := by decide +kernel
theorem dX2_keep_6 : decode cX2_keep 6 = .ok (.bipush 40, 2) := by decide +kernel
theorem dX2_keep_8 : decode cX2_keep 8 = .ok (.irem, 1) := by decide +kernel
theorem dX2_keep_9 : decode cX2_keep 9 = .ok (.istore 4, 2) := by decide +kernel
theorem dX2_keep_11 : decode cX2_keep 11 = .ok (.iload 4, 2) := by decide +kernel
theorem dX2_keep_13 : decode cX2_keep 13 = .ok (.ifCond .lt 43, 3) := by decide +kernel
theorem dX2_keep_16 : decode cX2_keep 16 = .ok (.aload_n 0, 1) := by decide +kernel
theorem dX2_keep_17 : decode cX2_keep 17 = .ok (.getfield 11, 3) := by decide +kernel
theorem dX2_keep_20 : decode cX2_keep 20 = .ok (.bipush 27, 2) := by decide +kernel
theorem dX2_keep_22 : decode cX2_keep 22 = .ok (.iload 4, 2) := by decide +kernel
theorem dX2_keep_24 : decode cX2_keep 24 = .ok (.iadd, 1) := by decide +kernel
theorem dX2_keep_25 : decode cX2_keep 25 = .ok (.aload_n 0, 1) := by decide +kernel
theorem dX2_keep_26 : decode cX2_keep 26 = .ok (.getfield 11, 3) := by decide +kernel
theorem dX2_keep_29 : decode cX2_keep 29 = .ok (.iconst 0, 1) := by decide +kernel
theorem dX2_keep_30 : decode cX2_keep 30 = .ok (.iaload, 1) := by decide +kernel
theorem dX2_keep_31 : decode cX2_keep 31 = .ok (.bipush 10, 2) := by decide +kernel
theorem dX2_keep_33 : decode cX2_keep 33 = .ok (.ishl, 1) := by decide +kernel
theorem dX2_keep_34 : decode cX2_keep 34 = .ok (.iload_n 1, 1) := by decide +kernel
theorem dX2_keep_35 : decode cX2_keep 35 = .ok (.bipush 7, 2) := by decide +kernel
theorem dX2_keep_37 : decode cX2_keep 37 = .ok (.ishl, 1) := by decide +kernel
theorem dX2_keep_38 : decode cX2_keep 38 = .ok (.ior, 1) := by decide +kernel
theorem dX2_keep_39 : decode cX2_keep 39 = .ok (.iload_n 2, 1) := by decide +kernel
theorem dX2_keep_40 : decode cX2_keep 40 = .ok (.iconst 1, 1) := by decide +kernel
theorem dX2_keep_41 : decode cX2_keep 41 = .ok (.ishl, 1) := by decide +kernel
theorem dX2_keep_42 : decode cX2_keep 42 = .ok (.ior, 1) := by decide +kernel
theorem dX2_keep_43 : decode cX2_keep 43 = .ok (.iload_n 3, 1) := by decide +kernel
theorem dX2_keep_44 : decode cX2_keep 44 = .ok (.ior, 1) := by decide +kernel
theorem dX2_keep_45 : decode cX2_keep 45 = .ok (.iastore, 1) := by decide +kernel
theorem dX2_keep_46 : decode cX2_keep 46 = .ok (.aload_n 0, 1) := by decide +kernel
theorem dX2_keep_47 : decode cX2_keep 47 = .ok (.getfield 11, 3) := by decide +kernel
theorem dX2_keep_50 : decode cX2_keep 50 = .ok (.iconst 2, 1) := by decide +kernel
theorem dX2_keep_51 : decode cX2_keep 51 = .ok (.dup2, 1) := by decide +kernel
theorem dX2_keep_52 : decode cX2_keep 52 = .ok (.iaload, 1) := by decide +kernel
theorem dX2_keep_53 : decode cX2_keep 53 = .ok (.iconst 1, 1) := by decide +kernel
theorem dX2_keep_54 : decode cX2_keep 54 = .ok (.iadd, 1) := by decide +kernel
theorem dX2_keep_55 : decode cX2_keep 55 = .ok (.iastore, 1) := by decide +kernel
theorem dX2_keep_56 : decode cX2_keep 56 = .ok (.return_, 1) := by decide +kernel
theorem dX2_tellable_0 : decode cX2_tellable 0 = .ok (.bipush 40, 2) := by decide +kernel
theorem dX2_tellable_2 : decode cX2_tellable 2 = .ok (.aload_n 0, 1) := by decide +kernel
theorem dX2_tellable_3 : decode cX2_tellable 3 = .ok (.getfield 11, 3) := by decide +kernel
theorem dX2_tellable_6 : decode cX2_tellable 6 = .ok (.iconst 2, 1) := by decide +kernel
theorem dX2_tellable_7 : decode cX2_tellable 7 = .ok (.iaload, 1) := by decide +kernel
theorem dX2_tellable_8 : decode cX2_tellable 8 = .ok (.invokestatic 36, 3) := by decide +kernel
theorem dX2_tellable_11 : decode cX2_tellable 11 = .ok (.ireturn, 1) := by decide +kernel
theorem dX2_tell_0 : decode cX2_tell 0 = .ok (.aload_n 0, 1) := by decide +kernel
theorem dX2_tell_1 : decode cX2_tell 1 = .ok (.getfield 11, 3) := by decide +kernel
theorem dX2_tell_4 : decode cX2_tell 4 = .ok (.iconst 2, 1) := by decide +kernel
theorem dX2_tell_5 : decode cX2_tell 5 = .ok (.iaload, 1) := by decide +kernel
theorem dX2_tell_6 : decode cX2_tell 6 = .ok (.aload_n 0, 1) := by decide +kernel
theorem dX2_tell_7 : decode cX2_tell 7 = .ok (.invokevirtual 78, 3) := by decide +kernel
theorem dX2_tell_10 : decode cX2_tell 10 = .ok (.isub, 1) := by decide +kernel
theorem dX2_tell_11 : decode cX2_tell 11 = .ok (.iload_n 1, 1) := by decide +kernel
theorem dX2_tell_12 : decode cX2_tell 12 = .ok (.iadd, 1) := by decide +kernel
theorem dX2_tell_13 : decode cX2_tell 13 = .ok (.bipush 40, 2) := by decide +kernel
theorem dX2_tell_15 : decode cX2_tell 15 = .ok (.irem, 1) := by decide +kernel
theorem dX2_tell_16 : decode cX2_tell 16 = .ok (.istore_n 3, 1) := by decide +kernel
theorem dX2_tell_17 : decode cX2_tell 17 = .ok (.iload_n 3, 1) := by decide +kernel
theorem dX2_tell_18 : decode cX2_tell 18 = .ok (.ifCond .ge 5, 3) := by decide +kernel
theorem dX2_tell_21 : decode cX2_tell 21 = .ok (.iconst (-1), 1) := by decide +kernel
theorem dX2_tell_22 : decode cX2_tell 22 = .ok (.ireturn, 1) := by decide +kernel
theorem dX2_tell_23 : decode cX2_tell 23 = .ok (.aload_n 0, 1) := by decide +kernel
theorem dX2_tell_24 : decode cX2_tell 24 = .ok (.getfield 11, 3) := by decide +kernel
theorem dX2_tell_27 : decode cX2_tell 27 = .ok (.bipush 27, 2) := by decide +kernel
theorem dX2_tell_29 : decode cX2_tell 29 = .ok (.iload_n 3, 1) := by decide +kernel
theorem dX2_tell_30 : decode cX2_tell 30 = .ok (.iadd, 1) := by decide +kernel
theorem dX2_tell_31 : decode cX2_tell 31 = .ok (.iaload, 1) := by decide +kernel
theorem dX2_tell_32 : decode cX2_tell 32 = .ok (.istore 4, 2) := by decide +kernel
theorem dX2_tell_34 : decode cX2_tell 34 = .ok (.iload_n 2, 1) := by decide +kernel
theorem dX2_tell_35 : decode cX2_tell 35 = .ok (.tableswitch 57 0 3 #[29, 35, 44, 52], 29) := by decide +kernel
theorem dX2_tell_64 : decode cX2_tell 64 = .ok (.iload 4, 2) := by decide +kernel
theorem dX2_tell_66 : decode cX2_tell 66 = .ok (.bipush 10, 2) := by decide +kernel
theorem dX2_tell_68 : decode cX2_tell 68 = .ok (.ishr, 1) := by decide +kernel
theorem dX2_tell_69 : decode cX2_tell 69 = .ok (.ireturn, 1) := by decide +kernel
theorem dX2_tell_70 : decode cX2_tell 70 = .ok (.iload 4, 2) := by decide +kernel
theorem dX2_tell_72 : decode cX2_tell 72 = .ok (.bipush 7, 2) := by decide +kernel
theorem dX2_tell_74 : decode cX2_tell 74 = .ok (.ishr, 1) := by decide +kernel
theorem dX2_tell_75 : decode cX2_tell 75 = .ok (.bipush 7, 2) := by decide +kernel
theorem dX2_tell_77 : decode cX2_tell 77 = .ok (.iand, 1) := by decide +kernel
theorem dX2_tell_78 : decode cX2_tell 78 = .ok (.ireturn, 1) := by decide +kernel
theorem dX2_tell_79 : decode cX2_tell 79 = .ok (.iload 4, 2) := by decide +kernel
theorem dX2_tell_81 : decode cX2_tell 81 = .ok (.iconst 1, 1) := by decide +kernel
theorem dX2_tell_82 : decode cX2_tell 82 = .ok (.ishr, 1) := by decide +kernel
theorem dX2_tell_83 : decode cX2_tell 83 = .ok (.bipush 63, 2) := by decide +kernel
theorem dX2_tell_85 : decode cX2_tell 85 = .ok (.iand, 1) := by decide +kernel
theorem dX2_tell_86 : decode cX2_tell 86 = .ok (.ireturn, 1) := by decide +kernel
theorem dX2_tell_87 : decode cX2_tell 87 = .ok (.iload 4, 2) := by decide +kernel
theorem dX2_tell_89 : decode cX2_tell 89 = .ok (.iconst 1, 1) := by decide +kernel
theorem dX2_tell_90 : decode cX2_tell 90 = .ok (.iand, 1) := by decide +kernel
theorem dX2_tell_91 : decode cX2_tell 91 = .ok (.ireturn, 1) := by decide +kernel
theorem dX2_tell_92 : decode cX2_tell 92 = .ok (.iconst (-1), 1) := by decide +kernel
theorem dX2_tell_93 : decode cX2_tell 93 = .ok (.ireturn, 1) := by decide +kernel
theorem dX2_hourIn_0 : decode cX2_hourIn 0 = .ok (.aload_n 0, 1) := by decide +kernel
theorem dX2_hourIn_1 : decode cX2_hourIn 1 = .ok (.arraylength, 1) := by decide +kernel
theorem dX2_hourIn_2 : decode cX2_hourIn 2 = .ok (.iconst 5, 1) := by decide +kernel
theorem dX2_hourIn_3 : decode cX2_hourIn 3 = .ok (.if_icmp .ge 7, 3) := by decide +kernel
theorem dX2_hourIn_6 : decode cX2_hourIn 6 = .ok (.iconst 0, 1) := by decide +kernel
theorem dX2_hourIn_7 : decode cX2_hourIn 7 = .ok (.goto 14, 3) := by decide +kernel
theorem dX2_hourIn_10 : decode cX2_hourIn 10 = .ok (.aload_n 0, 1) := by decide +kernel
theorem dX2_hourIn_11 : decode cX2_hourIn 11 = .ok (.iconst 0, 1) := by decide +kernel
theorem dX2_hourIn_12 : decode cX2_hourIn 12 = .ok (.iaload, 1) := by decide +kernel
theorem dX2_hourIn_13 : decode cX2_hourIn 13 = .ok (.sipush 256, 3) := by decide +kernel
theorem dX2_hourIn_16 : decode cX2_hourIn 16 = .ok (.imul, 1) := by decide +kernel
theorem dX2_hourIn_17 : decode cX2_hourIn 17 = .ok (.aload_n 0, 1) := by decide +kernel
theorem dX2_hourIn_18 : decode cX2_hourIn 18 = .ok (.iconst 1, 1) := by decide +kernel
theorem dX2_hourIn_19 : decode cX2_hourIn 19 = .ok (.iaload, 1) := by decide +kernel
theorem dX2_hourIn_20 : decode cX2_hourIn 20 = .ok (.iadd, 1) := by decide +kernel
theorem dX2_hourIn_21 : decode cX2_hourIn 21 = .ok (.ireturn, 1) := by decide +kernel
theorem dX2_coinsIn_0 : decode cX2_coinsIn 0 = .ok (.aload_n 0, 1) := by decide +kernel
theorem dX2_coinsIn_1 : decode cX2_coinsIn 1 = .ok (.arraylength, 1) := by decide +kernel
theorem dX2_coinsIn_2 : decode cX2_coinsIn 2 = .ok (.iconst 5, 1) := by decide +kernel
theorem dX2_coinsIn_3 : decode cX2_coinsIn 3 = .ok (.if_icmp .ge 7, 3) := by decide +kernel
theorem dX2_coinsIn_6 : decode cX2_coinsIn 6 = .ok (.iconst 0, 1) := by decide +kernel
theorem dX2_coinsIn_7 : decode cX2_coinsIn 7 = .ok (.goto 22, 3) := by decide +kernel
theorem dX2_coinsIn_10 : decode cX2_coinsIn 10 = .ok (.aload_n 0, 1) := by decide +kernel
theorem dX2_coinsIn_11 : decode cX2_coinsIn 11 = .ok (.iconst 2, 1) := by decide +kernel
theorem dX2_coinsIn_12 : decode cX2_coinsIn 12 = .ok (.iaload, 1) := by decide +kernel
theorem dX2_coinsIn_13 : decode cX2_coinsIn 13 = .ok (.sipush 256, 3) := by decide +kernel
theorem dX2_coinsIn_16 : decode cX2_coinsIn 16 = .ok (.imul, 1) := by decide +kernel
theorem dX2_coinsIn_17 : decode cX2_coinsIn 17 = .ok (.aload_n 0, 1) := by decide +kernel
theorem dX2_coinsIn_18 : decode cX2_coinsIn 18 = .ok (.iconst 3, 1) := by decide +kernel
theorem dX2_coinsIn_19 : decode cX2_coinsIn 19 = .ok (.iaload, 1) := by decide +kernel
theorem dX2_coinsIn_20 : decode cX2_coinsIn 20 = .ok (.iadd, 1) := by decide +kernel
theorem dX2_coinsIn_21 : decode cX2_coinsIn 21 = .ok (.sipush 256, 3) := by decide +kernel
theorem dX2_coinsIn_24 : decode cX2_coinsIn 24 = .ok (.imul, 1) := by decide +kernel
theorem dX2_coinsIn_25 : decode cX2_coinsIn 25 = .ok (.aload_n 0, 1) := by decide +kernel
theorem dX2_coinsIn_26 : decode cX2_coinsIn 26 = .ok (.iconst 4, 1) := by decide +kernel
theorem dX2_coinsIn_27 : decode cX2_coinsIn 27 = .ok (.iaload, 1) := by decide +kernel
theorem dX2_coinsIn_28 : decode cX2_coinsIn 28 = .ok (.iadd, 1) := by decide +kernel
theorem dX2_coinsIn_29 : decode cX2_coinsIn 29 = .ok (.ireturn, 1) := by decide +kernel
theorem dX2_take_0 : decode cX2_take 0 = .ok (.aload_n 0, 1) := by decide +kernel
theorem dX2_take_1 : decode cX2_take 1 = .ok (.getfield 11, 3) := by decide +kernel
theorem dX2_take_4 : decode cX2_take 4 = .ok (.iconst 0, 1) := by decide +kernel
theorem dX2_take_5 : decode cX2_take 5 = .ok (.aload_n 1, 1) := by decide +kernel
theorem dX2_take_6 : decode cX2_take 6 = .ok (.invokestatic 82, 3) := by decide +kernel
theorem dX2_take_9 : decode cX2_take 9 = .ok (.iastore, 1) := by decide +kernel
theorem dX2_take_10 : decode cX2_take 10 = .ok (.aload_n 0, 1) := by decide +kernel
theorem dX2_take_11 : decode cX2_take 11 = .ok (.getfield 11, 3) := by decide +kernel
theorem dX2_take_14 : decode cX2_take 14 = .ok (.iconst 1, 1) := by decide +kernel
theorem dX2_take_15 : decode cX2_take 15 = .ok (.aload_n 1, 1) := by decide +kernel
theorem dX2_take_16 : decode cX2_take 16 = .ok (.invokestatic 86, 3) := by decide +kernel
theorem dX2_take_19 : decode cX2_take 19 = .ok (.iastore, 1) := by decide +kernel
theorem dX2_take_20 : decode cX2_take 20 = .ok (.iconst 0, 1) := by decide +kernel
theorem dX2_take_21 : decode cX2_take 21 = .ok (.istore_n 2, 1) := by decide +kernel
theorem dX2_take_22 : decode cX2_take 22 = .ok (.iload_n 2, 1) := by decide +kernel
theorem dX2_take_23 : decode cX2_take 23 = .ok (.aload_n 0, 1) := by decide +kernel
theorem dX2_take_24 : decode cX2_take 24 = .ok (.getfield 24, 3) := by decide +kernel
theorem dX2_take_27 : decode cX2_take 27 = .ok (.if_icmp .ge 86, 3) := by decide +kernel
theorem dX2_take_30 : decode cX2_take 30 = .ok (.iconst 5, 1) := by decide +kernel
theorem dX2_take_31 : decode cX2_take 31 = .ok (.iconst 4, 1) := by decide +kernel
theorem dX2_take_32 : decode cX2_take 32 = .ok (.iload_n 2, 1) := by decide +kernel
theorem dX2_take_33 : decode cX2_take 33 = .ok (.imul, 1) := by decide +kernel
theorem dX2_take_34 : decode cX2_take 34 = .ok (.iadd, 1) := by decide +kernel
theorem dX2_take_35 : decode cX2_take 35 = .ok (.istore_n 3, 1) := by decide +kernel
theorem dX2_take_36 : decode cX2_take 36 = .ok (.aload_n 0, 1) := by decide +kernel
theorem dX2_take_37 : decode cX2_take 37 = .ok (.iload_n 2, 1) := by decide +kernel
theorem dX2_take_38 : decode cX2_take 38 = .ok (.invokevirtual 54, 3) := by decide +kernel
theorem dX2_take_41 : decode cX2_take 41 = .ok (.ifCond .eq 66, 3) := by decide +kernel
theorem dX2_take_44 : decode cX2_take 44 = .ok (.iload_n 3, 1) := by decide +kernel
theorem dX2_take_45 : decode cX2_take 45 = .ok (.iconst 3, 1) := by decide +kernel
theorem dX2_take_46 : decode cX2_take 46 = .ok (.iadd, 1) := by decide +kernel
theorem dX2_take_47 : decode cX2_take 47 = .ok (.aload_n 1, 1) := by decide +kernel
theorem dX2_take_48 : decode cX2_take 48 = .ok (.arraylength, 1) := by decide +kernel
theorem dX2_take_49 : decode cX2_take 49 = .ok (.if_icmp .ge 58, 3) := by decide +kernel
theorem dX2_take_52 : decode cX2_take 52 = .ok (.aload_n 0, 1) := by decide +kernel
theorem dX2_take_53 : decode cX2_take 53 = .ok (.getfield 11, 3) := by decide +kernel
theorem dX2_take_56 : decode cX2_take 56 = .ok (.iconst 3, 1) := by decide +kernel
theorem dX2_take_57 : decode cX2_take 57 = .ok (.iload_n 2, 1) := by decide +kernel
theorem dX2_take_58 : decode cX2_take 58 = .ok (.iadd, 1) := by decide +kernel
theorem dX2_take_59 : decode cX2_take 59 = .ok (.aload_n 1, 1) := by decide +kernel
theorem dX2_take_60 : decode cX2_take 60 = .ok (.iload_n 3, 1) := by decide +kernel
theorem dX2_take_61 : decode cX2_take 61 = .ok (.iaload, 1) := by decide +kernel
theorem dX2_take_62 : decode cX2_take 62 = .ok (.iastore, 1) := by decide +kernel
theorem dX2_take_63 : decode cX2_take 63 = .ok (.aload_n 0, 1) := by decide +kernel
theorem dX2_take_64 : decode cX2_take 64 = .ok (.getfield 11, 3) := by decide +kernel
theorem dX2_take_67 : decode cX2_take 67 = .ok (.bipush 9, 2) := by decide +kernel
theorem dX2_take_69 : decode cX2_take 69 = .ok (.iload_n 2, 1) := by decide +kernel
theorem dX2_take_70 : decode cX2_take 70 = .ok (.iadd, 1) := by decide +kernel
theorem dX2_take_71 : decode cX2_take 71 = .ok (.aload_n 1, 1) := by decide +kernel
theorem dX2_take_72 : decode cX2_take 72 = .ok (.iload_n 3, 1) := by decide +kernel
theorem dX2_take_73 : decode cX2_take 73 = .ok (.iconst 1, 1) := by decide +kernel
theorem dX2_take_74 : decode cX2_take 74 = .ok (.iadd, 1) := by decide +kernel
theorem dX2_take_75 : decode cX2_take 75 = .ok (.iaload, 1) := by decide +kernel
theorem dX2_take_76 : decode cX2_take 76 = .ok (.iastore, 1) := by decide +kernel
theorem dX2_take_77 : decode cX2_take 77 = .ok (.aload_n 0, 1) := by decide +kernel
theorem dX2_take_78 : decode cX2_take 78 = .ok (.getfield 11, 3) := by decide +kernel
theorem dX2_take_81 : decode cX2_take 81 = .ok (.bipush 15, 2) := by decide +kernel
theorem dX2_take_83 : decode cX2_take 83 = .ok (.iload_n 2, 1) := by decide +kernel
theorem dX2_take_84 : decode cX2_take 84 = .ok (.iadd, 1) := by decide +kernel
theorem dX2_take_85 : decode cX2_take 85 = .ok (.aload_n 1, 1) := by decide +kernel
theorem dX2_take_86 : decode cX2_take 86 = .ok (.iload_n 3, 1) := by decide +kernel
theorem dX2_take_87 : decode cX2_take 87 = .ok (.iconst 2, 1) := by decide +kernel
theorem dX2_take_88 : decode cX2_take 88 = .ok (.iadd, 1) := by decide +kernel
theorem dX2_take_89 : decode cX2_take 89 = .ok (.iaload, 1) := by decide +kernel
theorem dX2_take_90 : decode cX2_take 90 = .ok (.iastore, 1) := by decide +kernel
theorem dX2_take_91 : decode cX2_take 91 = .ok (.aload_n 0, 1) := by decide +kernel
theorem dX2_take_92 : decode cX2_take 92 = .ok (.getfield 11, 3) := by decide +kernel
theorem dX2_take_95 : decode cX2_take 95 = .ok (.bipush 21, 2) := by decide +kernel
theorem dX2_take_97 : decode cX2_take 97 = .ok (.iload_n 2, 1) := by decide +kernel
theorem dX2_take_98 : decode cX2_take 98 = .ok (.iadd, 1) := by decide +kernel
theorem dX2_take_99 : decode cX2_take 99 = .ok (.aload_n 1, 1) := by decide +kernel
theorem dX2_take_100 : decode cX2_take 100 = .ok (.iload_n 3, 1) := by decide +kernel
theorem dX2_take_101 : decode cX2_take 101 = .ok (.iconst 3, 1) := by decide +kernel
theorem dX2_take_102 : decode cX2_take 102 = .ok (.iadd, 1) := by decide +kernel
theorem dX2_take_103 : decode cX2_take 103 = .ok (.iaload, 1) := by decide +kernel
theorem dX2_take_104 : decode cX2_take 104 = .ok (.iconst 1, 1) := by decide +kernel
theorem dX2_take_105 : decode cX2_take 105 = .ok (.isub, 1) := by decide +kernel
theorem dX2_take_106 : decode cX2_take 106 = .ok (.iastore, 1) := by decide +kernel
theorem dX2_take_107 : decode cX2_take 107 = .ok (.iinc 2 1, 3) := by decide +kernel
theorem dX2_take_110 : decode cX2_take 110 = .ok (.goto (-88), 3) := by decide +kernel
theorem dX2_take_113 : decode cX2_take 113 = .ok (.return_, 1) := by decide +kernel
theorem dX3_init_0 : decode cX3_init 0 = .ok (.aload_n 0, 1) := by decide +kernel
theorem dX3_init_1 : decode cX3_init 1 = .ok (.invokespecial 5, 3) := by decide +kernel
theorem dX3_init_4 : decode cX3_init 4 = .ok (.aload_n 0, 1) := by decide +kernel
theorem dX3_init_5 : decode cX3_init 5 = .ok (.aload_n 1, 1) := by decide +kernel
theorem dX3_init_6 : decode cX3_init 6 = .ok (.putfield 11, 3) := by decide +kernel
theorem dX3_init_9 : decode cX3_init 9 = .ok (.aload_n 0, 1) := by decide +kernel
theorem dX3_init_10 : decode cX3_init 10 = .ok (.aconst_null, 1) := by decide +kernel
theorem dX3_init_11 : decode cX3_init 11 = .ok (.putfield 15, 3) := by decide +kernel
theorem dX3_init_14 : decode cX3_init 14 = .ok (.aload_n 0, 1) := by decide +kernel
theorem dX3_init_15 : decode cX3_init 15 = .ok (.lconst 0, 1) := by decide +kernel
theorem dX3_init_16 : decode cX3_init 16 = .ok (.putfield 19, 3) := by decide +kernel
theorem dX3_init_19 : decode cX3_init 19 = .ok (.return_, 1) := by decide +kernel
theorem dX3_readInto_0 : decode cX3_readInto 0 = .ok (.aload_n 1, 1) := by decide +kernel
theorem dX3_readInto_1 : decode cX3_readInto 1 = .ok (.ifnonnull 5, 3) := by decide +kernel
theorem dX3_readInto_4 : decode cX3_readInto 4 = .ok (.iconst 0, 1) := by decide +kernel
theorem dX3_readInto_5 : decode cX3_readInto 5 = .ok (.ireturn, 1) := by decide +kernel
theorem dX3_readInto_6 : decode cX3_readInto 6 = .ok (.aload_n 0, 1) := by decide +kernel
theorem dX3_readInto_7 : decode cX3_readInto 7 = .ok (.aload_n 1, 1) := by decide +kernel
theorem dX3_readInto_8 : decode cX3_readInto 8 = .ok (.putfield 15, 3) := by decide +kernel
theorem dX3_readInto_11 : decode cX3_readInto 11 = .ok (.aload_n 0, 1) := by decide +kernel
theorem dX3_readInto_12 : decode cX3_readInto 12 = .ok (.lload_n 3, 1) := by decide +kernel
theorem dX3_readInto_13 : decode cX3_readInto 13 = .ok (.putfield 19, 3) := by decide +kernel
theorem dX3_readInto_16 : decode cX3_readInto 16 = .ok (.aload_n 0, 1) := by decide +kernel
theorem dX3_readInto_17 : decode cX3_readInto 17 = .ok (.getfield 11, 3) := by decide +kernel
theorem dX3_readInto_20 : decode cX3_readInto 20 = .ok (.invokevirtual 23, 3) := by decide +kernel
theorem dX3_readInto_23 : decode cX3_readInto 23 = .ok (.aload_n 1, 1) := by decide +kernel
theorem dX3_readInto_24 : decode cX3_readInto 24 = .ok (.iload_n 2, 1) := by decide +kernel
theorem dX3_readInto_25 : decode cX3_readInto 25 = .ok (.invokevirtual 28, 3) := by decide +kernel
theorem dX3_readInto_28 : decode cX3_readInto 28 = .ok (.aload_n 0, 1) := by decide +kernel
theorem dX3_readInto_29 : decode cX3_readInto 29 = .ok (.iconst 0, 1) := by decide +kernel
theorem dX3_readInto_30 : decode cX3_readInto 30 = .ok (.invokevirtual 34, 3) := by decide +kernel
theorem dX3_readInto_33 : decode cX3_readInto 33 = .ok (.istore 5, 2) := by decide +kernel
theorem dX3_readInto_35 : decode cX3_readInto 35 = .ok (.aload_n 1, 1) := by decide +kernel
theorem dX3_readInto_36 : decode cX3_readInto 36 = .ok (.iload_n 2, 1) := by decide +kernel
theorem dX3_readInto_37 : decode cX3_readInto 37 = .ok (.invokevirtual 38, 3) := by decide +kernel
theorem dX3_readInto_40 : decode cX3_readInto 40 = .ok (.iload 5, 2) := by decide +kernel
theorem dX3_readInto_42 : decode cX3_readInto 42 = .ok (.ireturn, 1) := by decide +kernel
theorem dX3_readQuestion_0 : decode cX3_readQuestion 0 = .ok (.aload_n 0, 1) := by decide +kernel
theorem dX3_readQuestion_1 : decode cX3_readQuestion 1 = .ok (.getfield 11, 3) := by decide +kernel
theorem dX3_readQuestion_4 : decode cX3_readQuestion 4 = .ok (.invokevirtual 41, 3) := by decide +kernel
theorem dX3_readQuestion_7 : decode cX3_readQuestion 7 = .ok (.aload_n 1, 1) := by decide +kernel
theorem dX3_readQuestion_8 : decode cX3_readQuestion 8 = .ok (.ifnull 27, 3) := by decide +kernel
theorem dX3_readQuestion_11 : decode cX3_readQuestion 11 = .ok (.aload_n 0, 1) := by decide +kernel
theorem dX3_readQuestion_12 : decode cX3_readQuestion 12 = .ok (.getfield 11, 3) := by decide +kernel
theorem dX3_readQuestion_15 : decode cX3_readQuestion 15 = .ok (.getfield 44, 3) := by decide +kernel
theorem dX3_readQuestion_18 : decode cX3_readQuestion 18 = .ok (.bipush (-2), 2) := by decide +kernel
theorem dX3_readQuestion_20 : decode cX3_readQuestion 20 = .ok (.if_icmp .ne 15, 3) := by decide +kernel
theorem dX3_readQuestion_23 : decode cX3_readQuestion 23 = .ok (.aload_n 0, 1) := by decide +kernel
theorem dX3_readQuestion_24 : decode cX3_readQuestion 24 = .ok (.getfield 11, 3) := by decide +kernel
theorem dX3_readQuestion_27 : decode cX3_readQuestion 27 = .ok (.getfield 48, 3) := by decide +kernel
theorem dX3_readQuestion_30 : decode cX3_readQuestion 30 = .ok (.bipush 34, 2) := by decide +kernel
theorem dX3_readQuestion_32 : decode cX3_readQuestion 32 = .ok (.if_icmp .ge 14, 3) := by decide +kernel
theorem dX3_readQuestion_35 : decode cX3_readQuestion 35 = .ok (.aload_n 0, 1) := by decide +kernel
theorem dX3_readQuestion_36 : decode cX3_readQuestion 36 = .ok (.getfield 11, 3) := by decide +kernel
theorem dX3_readQuestion_39 : decode cX3_readQuestion 39 = .ok (.iconst 1, 1) := by decide +kernel
theorem dX3_readQuestion_40 : decode cX3_readQuestion 40 = .ok (.invokevirtual 51, 3) := by decide +kernel
theorem dX3_readQuestion_43 : decode cX3_readQuestion 43 = .ok (.pop, 1) := by decide +kernel
theorem dX3_readQuestion_44 : decode cX3_readQuestion 44 = .ok (.iconst (-1), 1) := by decide +kernel
theorem dX3_readQuestion_45 : decode cX3_readQuestion 45 = .ok (.ireturn, 1) := by decide +kernel
theorem dX3_readQuestion_46 : decode cX3_readQuestion 46 = .ok (.aload_n 0, 1) := by decide +kernel
theorem dX3_readQuestion_47 : decode cX3_readQuestion 47 = .ok (.getfield 11, 3) := by decide +kernel
theorem dX3_readQuestion_50 : decode cX3_readQuestion 50 = .ok (.getfield 48, 3) := by decide +kernel
theorem dX3_readQuestion_53 : decode cX3_readQuestion 53 = .ok (.istore_n 2, 1) := by decide +kernel
theorem dX3_readQuestion_54 : decode cX3_readQuestion 54 = .ok (.iload_n 2, 1) := by decide +kernel
theorem dX3_readQuestion_55 : decode cX3_readQuestion 55 = .ok (.bipush 34, 2) := by decide +kernel
theorem dX3_readQuestion_57 : decode cX3_readQuestion 57 = .ok (.if_icmp .eq 15, 3) := by decide +kernel
theorem dX3_readQuestion_60 : decode cX3_readQuestion 60 = .ok (.iload_n 2, 1) := by decide +kernel
theorem dX3_readQuestion_61 : decode cX3_readQuestion 61 = .ok (.bipush 35, 2) := by decide +kernel
theorem dX3_readQuestion_63 : decode cX3_readQuestion 63 = .ok (.if_icmp .eq 9, 3) := by decide +kernel
theorem dX3_readQuestion_66 : decode cX3_readQuestion 66 = .ok (.iload_n 2, 1) := by decide +kernel
theorem dX3_readQuestion_67 : decode cX3_readQuestion 67 = .ok (.bipush 36, 2) := by decide +kernel
theorem dX3_readQuestion_69 : decode cX3_readQuestion 69 = .ok (.if_icmp .ne 7, 3) := by decide +kernel
theorem dX3_readQuestion_72 : decode cX3_readQuestion 72 = .ok (.iconst 1, 1) := by decide +kernel
theorem dX3_readQuestion_73 : decode cX3_readQuestion 73 = .ok (.goto 4, 3) := by decide +kernel
theorem dX3_readQuestion_76 : decode cX3_readQuestion 76 = .ok (.iconst 0, 1) := by decide +kernel
theorem dX3_readQuestion_77 : decode cX3_readQuestion 77 = .ok (.istore_n 3, 1) := by decide +kernel
theorem dX3_readQuestion_78 : decode cX3_readQuestion 78 = .ok (.aload_n 0, 1) := by decide +kernel
theorem dX3_readQuestion_79 : decode cX3_readQuestion 79 = .ok (.aload_n 1, 1) := by decide +kernel
theorem dX3_readQuestion_80 : decode cX3_readQuestion 80 = .ok (.putfield 15, 3) := by decide +kernel
theorem dX3_readQuestion_83 : decode cX3_readQuestion 83 = .ok (.aload_n 0, 1) := by decide +kernel
theorem dX3_readQuestion_84 : decode cX3_readQuestion 84 = .ok (.ldc2_w 54, 3) := by decide +kernel
theorem dX3_readQuestion_87 : decode cX3_readQuestion 87 = .ok (.putfield 19, 3) := by decide +kernel
theorem dX3_readQuestion_90 : decode cX3_readQuestion 90 = .ok (.aload_n 0, 1) := by decide +kernel
theorem dX3_readQuestion_91 : decode cX3_readQuestion 91 = .ok (.getfield 11, 3) := by decide +kernel
theorem dX3_readQuestion_94 : decode cX3_readQuestion 94 = .ok (.invokevirtual 23, 3) := by decide +kernel
theorem dX3_readQuestion_97 : decode cX3_readQuestion 97 = .ok (.aload_n 1, 1) := by decide +kernel
theorem dX3_readQuestion_98 : decode cX3_readQuestion 98 = .ok (.iconst 0, 1) := by decide +kernel
theorem dX3_readQuestion_99 : decode cX3_readQuestion 99 = .ok (.invokevirtual 28, 3) := by decide +kernel
theorem dX3_readQuestion_102 : decode cX3_readQuestion 102 = .ok (.iload_n 3, 1) := by decide +kernel
theorem dX3_readQuestion_103 : decode cX3_readQuestion 103 = .ok (.ifCond .eq 11, 3) := by decide +kernel
theorem dX3_readQuestion_106 : decode cX3_readQuestion 106 = .ok (.aload_n 0, 1) := by decide +kernel
theorem dX3_readQuestion_107 : decode cX3_readQuestion 107 = .ok (.iconst 0, 1) := by decide +kernel
theorem dX3_readQuestion_108 : decode cX3_readQuestion 108 = .ok (.invokevirtual 56, 3) := by decide +kernel
theorem dX3_readQuestion_111 : decode cX3_readQuestion 111 = .ok (.goto 8, 3) := by decide +kernel
theorem dX3_readQuestion_114 : decode cX3_readQuestion 114 = .ok (.aload_n 0, 1) := by decide +kernel
theorem dX3_readQuestion_115 : decode cX3_readQuestion 115 = .ok (.iconst 0, 1) := by decide +kernel
theorem dX3_readQuestion_116 : decode cX3_readQuestion 116 = .ok (.invokevirtual 34, 3) := by decide +kernel
theorem dX3_readQuestion_119 : decode cX3_readQuestion 119 = .ok (.istore 4, 2) := by decide +kernel
theorem dX3_readQuestion_121 : decode cX3_readQuestion 121 = .ok (.aload_n 1, 1) := by decide +kernel
theorem dX3_readQuestion_122 : decode cX3_readQuestion 122 = .ok (.iconst 0, 1) := by decide +kernel
theorem dX3_readQuestion_123 : decode cX3_readQuestion 123 = .ok (.invokevirtual 38, 3) := by decide +kernel
theorem dX3_readQuestion_126 : decode cX3_readQuestion 126 = .ok (.iload 4, 2) := by decide +kernel
theorem dX3_readQuestion_128 : decode cX3_readQuestion 128 = .ok (.ifCond .eq 18, 3) := by decide +kernel
theorem dX3_readQuestion_131 : decode cX3_readQuestion 131 = .ok (.aload_n 0, 1) := by decide +kernel
theorem dX3_readQuestion_132 : decode cX3_readQuestion 132 = .ok (.getfield 11, 3) := by decide +kernel
theorem dX3_readQuestion_135 : decode cX3_readQuestion 135 = .ok (.iconst (-1), 1) := by decide +kernel
theorem dX3_readQuestion_136 : decode cX3_readQuestion 136 = .ok (.invokevirtual 59, 3) := by decide +kernel
theorem dX3_readQuestion_139 : decode cX3_readQuestion 139 = .ok (.ifCond .eq 7, 3) := by decide +kernel
theorem dX3_readQuestion_142 : decode cX3_readQuestion 142 = .ok (.iload_n 2, 1) := by decide +kernel
theorem dX3_readQuestion_143 : decode cX3_readQuestion 143 = .ok (.goto 4, 3) := by decide +kernel
theorem dX3_readQuestion_146 : decode cX3_readQuestion 146 = .ok (.iconst (-1), 1) := by decide +kernel
theorem dX3_readQuestion_147 : decode cX3_readQuestion 147 = .ok (.ireturn, 1) := by decide +kernel
theorem dX3_readTest_0 : decode cX3_readTest 0 = .ok (.aload_n 0, 1) := by decide +kernel
theorem dX3_readTest_1 : decode cX3_readTest 1 = .ok (.iload_n 1, 1) := by decide +kernel
theorem dX3_readTest_2 : decode cX3_readTest 2 = .ok (.invokevirtual 62, 3) := by decide +kernel
theorem dX3_readTest_5 : decode cX3_readTest 5 = .ok (.istore_n 2, 1) := by decide +kernel
theorem dX3_readTest_6 : decode cX3_readTest 6 = .ok (.iconst 0, 1) := by decide +kernel
theorem dX3_readTest_7 : decode cX3_readTest 7 = .ok (.istore_n 3, 1) := by decide +kernel
theorem dX3_readTest_8 : decode cX3_readTest 8 = .ok (.iload_n 3, 1) := by decide +kernel
theorem dX3_readTest_9 : decode cX3_readTest 9 = .ok (.sipush 1600, 3) := by decide +kernel
theorem dX3_readTest_12 : decode cX3_readTest 12 = .ok (.if_icmp .ge 44, 3) := by decide +kernel
theorem dX3_readTest_15 : decode cX3_readTest 15 = .ok (.iload_n 2, 1) := by decide +kernel
theorem dX3_readTest_16 : decode cX3_readTest 16 = .ok (.ifCond .eq 40, 3) := by decide +kernel
theorem dX3_readTest_19 : decode cX3_readTest 19 = .ok (.aload_n 0, 1) := by decide +kernel
theorem dX3_readTest_20 : decode cX3_readTest 20 = .ok (.getfield 11, 3) := by decide +kernel
theorem dX3_readTest_23 : decode cX3_readTest 23 = .ok (.bipush 28, 2) := by decide +kernel
theorem dX3_readTest_25 : decode cX3_readTest 25 = .ok (.invokevirtual 65, 3) := by decide +kernel
theorem dX3_readTest_28 : decode cX3_readTest 28 = .ok (.ifCond .eq 28, 3) := by decide +kernel
theorem dX3_readTest_31 : decode cX3_readTest 31 = .ok (.aload_n 0, 1) := by decide +kernel
theorem dX3_readTest_32 : decode cX3_readTest 32 = .ok (.getfield 11, 3) := by decide +kernel
theorem dX3_readTest_35 : decode cX3_readTest 35 = .ok (.invokevirtual 23, 3) := by decide +kernel
theorem dX3_readTest_38 : decode cX3_readTest 38 = .ok (.aload_n 0, 1) := by decide +kernel
theorem dX3_readTest_39 : decode cX3_readTest 39 = .ok (.iload_n 1, 1) := by decide +kernel
theorem dX3_readTest_40 : decode cX3_readTest 40 = .ok (.invokevirtual 62, 3) := by decide +kernel
theorem dX3_readTest_43 : decode cX3_readTest 43 = .ok (.istore_n 2, 1) := by decide +kernel
theorem dX3_readTest_44 : decode cX3_readTest 44 = .ok (.aload_n 0, 1) := by decide +kernel
theorem dX3_readTest_45 : decode cX3_readTest 45 = .ok (.bipush 28, 2) := by decide +kernel
theorem dX3_readTest_47 : decode cX3_readTest 47 = .ok (.invokevirtual 68, 3) := by decide +kernel
theorem dX3_readTest_50 : decode cX3_readTest 50 = .ok (.iinc 3 1, 3) := by decide +kernel
theorem dX3_readTest_53 : decode cX3_readTest 53 = .ok (.goto (-45), 3) := by decide +kernel
theorem dX3_readTest_56 : decode cX3_readTest 56 = .ok (.iload_n 2, 1) := by decide +kernel
theorem dX3_readTest_57 : decode cX3_readTest 57 = .ok (.ireturn, 1) := by decide +kernel
theorem dX3_readBoth_0 : decode cX3_readBoth 0 = .ok (.aload_n 0, 1) := by decide +kernel
theorem dX3_readBoth_1 : decode cX3_readBoth 1 = .ok (.iload_n 1, 1) := by decide +kernel
theorem dX3_readBoth_2 : decode cX3_readBoth 2 = .ok (.invokevirtual 71, 3) := by decide +kernel
theorem dX3_readBoth_5 : decode cX3_readBoth 5 = .ok (.istore_n 2, 1) := by decide +kernel
theorem dX3_readBoth_6 : decode cX3_readBoth 6 = .ok (.iconst 0, 1) := by decide +kernel
theorem dX3_readBoth_7 : decode cX3_readBoth 7 = .ok (.istore_n 3, 1) := by decide +kernel
theorem dX3_readBoth_8 : decode cX3_readBoth 8 = .ok (.iload_n 3, 1) := by decide +kernel
theorem dX3_readBoth_9 : decode cX3_readBoth 9 = .ok (.sipush 1600, 3) := by decide +kernel
theorem dX3_readBoth_12 : decode cX3_readBoth 12 = .ok (.if_icmp .ge 44, 3) := by decide +kernel
theorem dX3_readBoth_15 : decode cX3_readBoth 15 = .ok (.iload_n 2, 1) := by decide +kernel
theorem dX3_readBoth_16 : decode cX3_readBoth 16 = .ok (.ifCond .eq 40, 3) := by decide +kernel
theorem dX3_readBoth_19 : decode cX3_readBoth 19 = .ok (.aload_n 0, 1) := by decide +kernel
theorem dX3_readBoth_20 : decode cX3_readBoth 20 = .ok (.getfield 11, 3) := by decide +kernel
theorem dX3_readBoth_23 : decode cX3_readBoth 23 = .ok (.bipush 29, 2) := by decide +kernel
theorem dX3_readBoth_25 : decode cX3_readBoth 25 = .ok (.invokevirtual 65, 3) := by decide +kernel
theorem dX3_readBoth_28 : decode cX3_readBoth 28 = .ok (.ifCond .eq 28, 3) := by decide +kernel
theorem dX3_readBoth_31 : decode cX3_readBoth 31 = .ok (.aload_n 0, 1) := by decide +kernel
theorem dX3_readBoth_32 : decode cX3_readBoth 32 = .ok (.getfield 11, 3) := by decide +kernel
theorem dX3_readBoth_35 : decode cX3_readBoth 35 = .ok (.invokevirtual 23, 3) := by decide +kernel
theorem dX3_readBoth_38 : decode cX3_readBoth 38 = .ok (.aload_n 0, 1) := by decide +kernel
theorem dX3_readBoth_39 : decode cX3_readBoth 39 = .ok (.iload_n 1, 1) := by decide +kernel
theorem dX3_readBoth_40 : decode cX3_readBoth 40 = .ok (.invokevirtual 71, 3) := by decide +kernel
theorem dX3_readBoth_43 : decode cX3_readBoth 43 = .ok (.istore_n 2, 1) := by decide +kernel
theorem dX3_readBoth_44 : decode cX3_readBoth 44 = .ok (.aload_n 0, 1) := by decide +kernel
theorem dX3_readBoth_45 : decode cX3_readBoth 45 = .ok (.bipush 29, 2) := by decide +kernel
theorem dX3_readBoth_47 : decode cX3_readBoth 47 = .ok (.invokevirtual 68, 3) := by decide +kernel
theorem dX3_readBoth_50 : decode cX3_readBoth 50 = .ok (.iinc 3 1, 3) := by decide +kernel
theorem dX3_readBoth_53 : decode cX3_readBoth 53 = .ok (.goto (-45), 3) := by decide +kernel
theorem dX3_readBoth_56 : decode cX3_readBoth 56 = .ok (.iload_n 2, 1) := by decide +kernel
theorem dX3_readBoth_57 : decode cX3_readBoth 57 = .ok (.ireturn, 1) := by decide +kernel
theorem dX3_readFact_0 : decode cX3_readFact 0 = .ok (.aload_n 0, 1) := by decide +kernel
theorem dX3_readFact_1 : decode cX3_readFact 1 = .ok (.getfield 11, 3) := by decide +kernel
theorem dX3_readFact_4 : decode cX3_readFact 4 = .ok (.bipush 30, 2) := by decide +kernel
theorem dX3_readFact_6 : decode cX3_readFact 6 = .ok (.invokevirtual 65, 3) := by decide +kernel
theorem dX3_readFact_9 : decode cX3_readFact 9 = .ok (.ifCond .eq 35, 3) := by decide +kernel
theorem dX3_readFact_12 : decode cX3_readFact 12 = .ok (.aload_n 0, 1) := by decide +kernel
theorem dX3_readFact_13 : decode cX3_readFact 13 = .ok (.iload_n 1, 1) := by decide +kernel
theorem dX3_readFact_14 : decode cX3_readFact 14 = .ok (.invokevirtual 74, 3) := by decide +kernel
theorem dX3_readFact_17 : decode cX3_readFact 17 = .ok (.ifCond .eq 17, 3) := by decide +kernel
theorem dX3_readFact_20 : decode cX3_readFact 20 = .ok (.aload_n 0, 1) := by decide +kernel
theorem dX3_readFact_21 : decode cX3_readFact 21 = .ok (.iload_n 1, 1) := by decide +kernel
theorem dX3_readFact_22 : decode cX3_readFact 22 = .ok (.iconst 1, 1) := by decide +kernel
theorem dX3_readFact_23 : decode cX3_readFact 23 = .ok (.iadd, 1) := by decide +kernel
theorem dX3_readFact_24 : decode cX3_readFact 24 = .ok (.invokevirtual 71, 3) := by decide +kernel
theorem dX3_readFact_27 : decode cX3_readFact 27 = .ok (.ifCond .eq 7, 3) := by decide +kernel
theorem dX3_readFact_30 : decode cX3_readFact 30 = .ok (.iconst 1, 1) := by decide +kernel
theorem dX3_readFact_31 : decode cX3_readFact 31 = .ok (.goto 4, 3) := by decide +kernel
theorem dX3_readFact_34 : decode cX3_readFact 34 = .ok (.iconst 0, 1) := by decide +kernel
theorem dX3_readFact_35 : decode cX3_readFact 35 = .ok (.istore_n 2, 1) := by decide +kernel
theorem dX3_readFact_36 : decode cX3_readFact 36 = .ok (.aload_n 0, 1) := by decide +kernel
theorem dX3_readFact_37 : decode cX3_readFact 37 = .ok (.bipush 30, 2) := by decide +kernel
theorem dX3_readFact_39 : decode cX3_readFact 39 = .ok (.invokevirtual 68, 3) := by decide +kernel
theorem dX3_readFact_42 : decode cX3_readFact 42 = .ok (.iload_n 2, 1) := by decide +kernel
theorem dX3_readFact_43 : decode cX3_readFact 43 = .ok (.ireturn, 1) := by decide +kernel
theorem dX3_readFact_44 : decode cX3_readFact 44 = .ok (.aload_n 0, 1) := by decide +kernel
theorem dX3_readFact_45 : decode cX3_readFact 45 = .ok (.getfield 11, 3) := by decide +kernel
theorem dX3_readFact_48 : decode cX3_readFact 48 = .ok (.getfield 44, 3) := by decide +kernel
theorem dX3_readFact_51 : decode cX3_readFact 51 = .ok (.bipush 91, 2) := by decide +kernel
theorem dX3_readFact_53 : decode cX3_readFact 53 = .ok (.if_icmp .ne 39, 3) := by decide +kernel
theorem dX3_readFact_56 : decode cX3_readFact 56 = .ok (.aload_n 0, 1) := by decide +kernel
theorem dX3_readFact_57 : decode cX3_readFact 57 = .ok (.iload_n 1, 1) := by decide +kernel
theorem dX3_readFact_58 : decode cX3_readFact 58 = .ok (.invokevirtual 74, 3) := by decide +kernel
theorem dX3_readFact_61 : decode cX3_readFact 61 = .ok (.ifCond .eq 29, 3) := by decide +kernel
theorem dX3_readFact_64 : decode cX3_readFact 64 = .ok (.aload_n 0, 1) := by decide +kernel
theorem dX3_readFact_65 : decode cX3_readFact 65 = .ok (.iload_n 1, 1) := by decide +kernel
theorem dX3_readFact_66 : decode cX3_readFact 66 = .ok (.iconst 1, 1) := by decide +kernel
theorem dX3_readFact_67 : decode cX3_readFact 67 = .ok (.iadd, 1) := by decide +kernel
theorem dX3_readFact_68 : decode cX3_readFact 68 = .ok (.invokevirtual 56, 3) := by decide +kernel
theorem dX3_readFact_71 : decode cX3_readFact 71 = .ok (.ifCond .eq 19, 3) := by decide +kernel
theorem dX3_readFact_74 : decode cX3_readFact 74 = .ok (.aload_n 0, 1) := by decide +kernel
theorem dX3_readFact_75 : decode cX3_readFact 75 = .ok (.getfield 11, 3) := by decide +kernel
theorem dX3_readFact_78 : decode cX3_readFact 78 = .ok (.bipush 93, 2) := by decide +kernel
theorem dX3_readFact_80 : decode cX3_readFact 80 = .ok (.invokevirtual 59, 3) := by decide +kernel
theorem dX3_readFact_83 : decode cX3_readFact 83 = .ok (.ifCond .eq 7, 3) := by decide +kernel
theorem dX3_readFact_86 : decode cX3_readFact 86 = .ok (.iconst 1, 1) := by decide +kernel
theorem dX3_readFact_87 : decode cX3_readFact 87 = .ok (.goto 4, 3) := by decide +kernel
theorem dX3_readFact_90 : decode cX3_readFact 90 = .ok (.iconst 0, 1) := by decide +kernel
theorem dX3_readFact_91 : decode cX3_readFact 91 = .ok (.ireturn, 1) := by decide +kernel
theorem dX3_readFact_92 : decode cX3_readFact 92 = .ok (.aload_n 0, 1) := by decide +kernel
theorem dX3_readFact_93 : decode cX3_readFact 93 = .ok (.getfield 11, 3) := by decide +kernel
theorem dX3_readFact_96 : decode cX3_readFact 96 = .ok (.bipush 31, 2) := by decide +kernel
theorem dX3_readFact_98 : decode cX3_readFact 98 = .ok (.invokevirtual 65, 3) := by decide +kernel
theorem dX3_readFact_101 : decode cX3_readFact 101 = .ok (.ifCond .eq 17, 3) := by decide +kernel
theorem dX3_readFact_104 : decode cX3_readFact 104 = .ok (.aload_n 0, 1) := by decide +kernel
theorem dX3_readFact_105 : decode cX3_readFact 105 = .ok (.iconst 1, 1) := by decide +kernel
theorem dX3_readFact_106 : decode cX3_readFact 106 = .ok (.invokevirtual 77, 3) := by decide +kernel
theorem dX3_readFact_109 : decode cX3_readFact 109 = .ok (.aload_n 0, 1) := by decide +kernel
theorem dX3_readFact_110 : decode cX3_readFact 110 = .ok (.getfield 11, 3) := by decide +kernel
theorem dX3_readFact_113 : decode cX3_readFact 113 = .ok (.invokevirtual 23, 3) := by decide +kernel
theorem dX3_readFact_116 : decode cX3_readFact 116 = .ok (.iconst 1, 1) := by decide +kernel
theorem dX3_readFact_117 : decode cX3_readFact 117 = .ok (.ireturn, 1) := by decide +kernel
theorem dX3_readFact_118 : decode cX3_readFact 118 = .ok (.aload_n 0, 1) := by decide +kernel
theorem dX3_readFact_119 : decode cX3_readFact 119 = .ok (.iload_n 1, 1) := by decide +kernel
theorem dX3_readFact_120 : decode cX3_readFact 120 = .ok (.invokevirtual 80, 3) := by decide +kernel
theorem dX3_readFact_123 : decode cX3_readFact 123 = .ok (.ireturn, 1) := by decide +kernel
theorem dX3_readComparison_0 : decode cX3_readComparison 0 = .ok (.aload_n 0, 1) := by decide +kernel
theorem dX3_readComparison_1 : decode cX3_readComparison 1 = .ok (.iload_n 1, 1) := by decide +kernel
theorem dX3_readComparison_2 : decode cX3_readComparison 2 = .ok (.invokevirtual 34, 3) := by decide +kernel
theorem dX3_readComparison_5 : decode cX3_readComparison 5 = .ok (.ifCond .ne 5, 3) := by decide +kernel
theorem dX3_readComparison_8 : decode cX3_readComparison 8 = .ok (.iconst 0, 1) := by decide +kernel
theorem dX3_readComparison_9 : decode cX3_readComparison 9 = .ok (.ireturn, 1) := by decide +kernel
theorem dX3_readComparison_10 : decode cX3_readComparison 10 = .ok (.aload_n 0, 1) := by decide +kernel
theorem dX3_readComparison_11 : decode cX3_readComparison 11 = .ok (.getfield 11, 3) := by decide +kernel
theorem dX3_readComparison_14 : decode cX3_readComparison 14 = .ok (.getfield 44, 3) := by decide +kernel
theorem dX3_readComparison_17 : decode cX3_readComparison 17 = .ok (.istore_n 2, 1) := by decide +kernel
theorem dX3_readComparison_18 : decode cX3_readComparison 18 = .ok (.iload_n 2, 1) := by decide +kernel
theorem dX3_readComparison_19 : decode cX3_readComparison 19 = .ok (.bipush 60, 2) := by decide +kernel
theorem dX3_readComparison_21 : decode cX3_readComparison 21 = .ok (.if_icmp .eq 24, 3) := by decide +kernel
theorem dX3_readComparison_24 : decode cX3_readComparison 24 = .ok (.iload_n 2, 1) := by decide +kernel
theorem dX3_readComparison_25 : decode cX3_readComparison 25 = .ok (.bipush 62, 2) := by decide +kernel
theorem dX3_readComparison_27 : decode cX3_readComparison 27 = .ok (.if_icmp .eq 18, 3) := by decide +kernel
theorem dX3_readComparison_30 : decode cX3_readComparison 30 = .ok (.iload_n 2, 1) := by decide +kernel
theorem dX3_readComparison_31 : decode cX3_readComparison 31 = .ok (.bipush 61, 2) := by decide +kernel
theorem dX3_readComparison_33 : decode cX3_readComparison 33 = .ok (.if_icmp .eq 12, 3) := by decide +kernel
theorem dX3_readComparison_36 : decode cX3_readComparison 36 = .ok (.aload_n 0, 1) := by decide +kernel
theorem dX3_readComparison_37 : decode cX3_readComparison 37 = .ok (.getfield 11, 3) := by decide +kernel
theorem dX3_readComparison_40 : decode cX3_readComparison 40 = .ok (.iconst 1, 1) := by decide +kernel
theorem dX3_readComparison_41 : decode cX3_readComparison 41 = .ok (.invokevirtual 51, 3) := by decide +kernel
theorem dX3_readComparison_44 : decode cX3_readComparison 44 = .ok (.ireturn, 1) := by decide +kernel
theorem dX3_readComparison_45 : decode cX3_readComparison 45 = .ok (.aload_n 0, 1) := by decide +kernel
theorem dX3_readComparison_46 : decode cX3_readComparison 46 = .ok (.getfield 11, 3) := by decide +kernel
theorem dX3_readComparison_49 : decode cX3_readComparison 49 = .ok (.invokevirtual 23, 3) := by decide +kernel
theorem dX3_readComparison_52 : decode cX3_readComparison 52 = .ok (.aload_n 0, 1) := by decide +kernel
theorem dX3_readComparison_53 : decode cX3_readComparison 53 = .ok (.iload_n 1, 1) := by decide +kernel
theorem dX3_readComparison_54 : decode cX3_readComparison 54 = .ok (.invokevirtual 34, 3) := by decide +kernel
theorem dX3_readComparison_57 : decode cX3_readComparison 57 = .ok (.istore_n 3, 1) := by decide +kernel
theorem dX3_readComparison_58 : decode cX3_readComparison 58 = .ok (.aload_n 0, 1) := by decide +kernel
theorem dX3_readComparison_59 : decode cX3_readComparison 59 = .ok (.iload_n 2, 1) := by decide +kernel
theorem dX3_readComparison_60 : decode cX3_readComparison 60 = .ok (.invokevirtual 68, 3) := by decide +kernel
theorem dX3_readComparison_63 : decode cX3_readComparison 63 = .ok (.iload_n 3, 1) := by decide +kernel
theorem dX3_readComparison_64 : decode cX3_readComparison 64 = .ok (.ireturn, 1) := by decide +kernel
theorem dX3_readSum_0 : decode cX3_readSum 0 = .ok (.aload_n 0, 1) := by decide +kernel
theorem dX3_readSum_1 : decode cX3_readSum 1 = .ok (.iload_n 1, 1) := by decide +kernel
theorem dX3_readSum_2 : decode cX3_readSum 2 = .ok (.invokevirtual 83, 3) := by decide +kernel
theorem dX3_readSum_5 : decode cX3_readSum 5 = .ok (.istore_n 2, 1) := by decide +kernel
theorem dX3_readSum_6 : decode cX3_readSum 6 = .ok (.iconst 0, 1) := by decide +kernel
theorem dX3_readSum_7 : decode cX3_readSum 7 = .ok (.istore_n 3, 1) := by decide +kernel
theorem dX3_readSum_8 : decode cX3_readSum 8 = .ok (.iload_n 3, 1) := by decide +kernel
theorem dX3_readSum_9 : decode cX3_readSum 9 = .ok (.sipush 1600, 3) := by decide +kernel
theorem dX3_readSum_12 : decode cX3_readSum 12 = .ok (.if_icmp .ge 65, 3) := by decide +kernel
theorem dX3_readSum_15 : decode cX3_readSum 15 = .ok (.iload_n 2, 1) := by decide +kernel
theorem dX3_readSum_16 : decode cX3_readSum 16 = .ok (.ifCond .eq 61, 3) := by decide +kernel
theorem dX3_readSum_19 : decode cX3_readSum 19 = .ok (.aload_n 0, 1) := by decide +kernel
theorem dX3_readSum_20 : decode cX3_readSum 20 = .ok (.getfield 11, 3) := by decide +kernel
theorem dX3_readSum_23 : decode cX3_readSum 23 = .ok (.getfield 44, 3) := by decide +kernel
theorem dX3_readSum_26 : decode cX3_readSum 26 = .ok (.bipush 43, 2) := by decide +kernel
theorem dX3_readSum_28 : decode cX3_readSum 28 = .ok (.if_icmp .eq 15, 3) := by decide +kernel
theorem dX3_readSum_31 : decode cX3_readSum 31 = .ok (.aload_n 0, 1) := by decide +kernel
theorem dX3_readSum_32 : decode cX3_readSum 32 = .ok (.getfield 11, 3) := by decide +kernel
theorem dX3_readSum_35 : decode cX3_readSum 35 = .ok (.getfield 44, 3) := by decide +kernel
theorem dX3_readSum_38 : decode cX3_readSum 38 = .ok (.bipush 45, 2) := by decide +kernel
theorem dX3_readSum_40 : decode cX3_readSum 40 = .ok (.if_icmp .ne 37, 3) := by decide +kernel
theorem dX3_readSum_43 : decode cX3_readSum 43 = .ok (.aload_n 0, 1) := by decide +kernel
theorem dX3_readSum_44 : decode cX3_readSum 44 = .ok (.getfield 11, 3) := by decide +kernel
theorem dX3_readSum_47 : decode cX3_readSum 47 = .ok (.getfield 44, 3) := by decide +kernel
theorem dX3_readSum_50 : decode cX3_readSum 50 = .ok (.istore 4, 2) := by decide +kernel
theorem dX3_readSum_52 : decode cX3_readSum 52 = .ok (.aload_n 0, 1) := by decide +kernel
theorem dX3_readSum_53 : decode cX3_readSum 53 = .ok (.getfield 11, 3) := by decide +kernel
theorem dX3_readSum_56 : decode cX3_readSum 56 = .ok (.invokevirtual 23, 3) := by decide +kernel
theorem dX3_readSum_59 : decode cX3_readSum 59 = .ok (.aload_n 0, 1) := by decide +kernel
theorem dX3_readSum_60 : decode cX3_readSum 60 = .ok (.iload_n 1, 1) := by decide +kernel
theorem dX3_readSum_61 : decode cX3_readSum 61 = .ok (.invokevirtual 83, 3) := by decide +kernel
theorem dX3_readSum_64 : decode cX3_readSum 64 = .ok (.istore_n 2, 1) := by decide +kernel
theorem dX3_readSum_65 : decode cX3_readSum 65 = .ok (.aload_n 0, 1) := by decide +kernel
theorem dX3_readSum_66 : decode cX3_readSum 66 = .ok (.iload 4, 2) := by decide +kernel
theorem dX3_readSum_68 : decode cX3_readSum 68 = .ok (.invokevirtual 68, 3) := by decide +kernel
theorem dX3_readSum_71 : decode cX3_readSum 71 = .ok (.iinc 3 1, 3) := by decide +kernel
theorem dX3_readSum_74 : decode cX3_readSum 74 = .ok (.goto (-66), 3) := by decide +kernel
theorem dX3_readSum_77 : decode cX3_readSum 77 = .ok (.iload_n 2, 1) := by decide +kernel
theorem dX3_readSum_78 : decode cX3_readSum 78 = .ok (.ireturn, 1) := by decide +kernel
theorem dX3_readProduct_0 : decode cX3_readProduct 0 = .ok (.aload_n 0, 1) := by decide +kernel
theorem dX3_readProduct_1 : decode cX3_readProduct 1 = .ok (.iload_n 1, 1) := by decide +kernel
theorem dX3_readProduct_2 : decode cX3_readProduct 2 = .ok (.invokevirtual 86, 3) := by decide +kernel
theorem dX3_readProduct_5 : decode cX3_readProduct 5 = .ok (.istore_n 2, 1) := by decide +kernel
theorem dX3_readProduct_6 : decode cX3_readProduct 6 = .ok (.iconst 0, 1) := by decide +kernel
theorem dX3_readProduct_7 : decode cX3_readProduct 7 = .ok (.istore_n 3, 1) := by decide +kernel
theorem dX3_readProduct_8 : decode cX3_readProduct 8 = .ok (.iload_n 3, 1) := by decide +kernel
theorem dX3_readProduct_9 : decode cX3_readProduct 9 = .ok (.sipush 1600, 3) := by decide +kernel
theorem dX3_readProduct_12 : decode cX3_readProduct 12 = .ok (.if_icmp .ge 65, 3) := by decide +kernel
theorem dX3_readProduct_15 : decode cX3_readProduct 15 = .ok (.iload_n 2, 1) := by decide +kernel
theorem dX3_readProduct_16 : decode cX3_readProduct 16 = .ok (.ifCond .eq 61, 3) := by decide +kernel
theorem dX3_readProduct_19 : decode cX3_readProduct 19 = .ok (.aload_n 0, 1) := by decide +kernel
theorem dX3_readProduct_20 : decode cX3_readProduct 20 = .ok (.getfield 11, 3) := by decide +kernel
