theorem dX12_dread_31 : decode cX12_dread 31 = .ok (.if_icmp .ne 5, 3) := by decide +kernel
theorem dX12_dread_34 : decode cX12_dread 34 = .ok (.iconst (-1), 1) := by decide +kernel
theorem dX12_dread_35 : decode cX12_dread 35 = .ok (.ireturn, 1) := by decide +kernel
theorem dX12_dread_36 : decode cX12_dread 36 = .ok (.aload_n 0, 1) := by decide +kernel
theorem dX12_dread_37 : decode cX12_dread 37 = .ok (.iload_n 1, 1) := by decide +kernel
theorem dX12_dread_38 : decode cX12_dread 38 = .ok (.iload_n 2, 1) := by decide +kernel
theorem dX12_dread_39 : decode cX12_dread 39 = .ok (.iload_n 3, 1) := by decide +kernel
theorem dX12_dread_40 : decode cX12_dread 40 = .ok (.iconst (-1), 1) := by decide +kernel
theorem dX12_dread_41 : decode cX12_dread 41 = .ok (.if_icmp .ne 7, 3) := by decide +kernel
theorem dX12_dread_44 : decode cX12_dread 44 = .ok (.iconst (-1), 1) := by decide +kernel
theorem dX12_dread_45 : decode cX12_dread 45 = .ok (.goto 8, 3) := by decide +kernel
theorem dX12_dread_48 : decode cX12_dread 48 = .ok (.aload_n 0, 1) := by decide +kernel
theorem dX12_dread_49 : decode cX12_dread 49 = .ok (.iload_n 3, 1) := by decide +kernel
theorem dX12_dread_50 : decode cX12_dread 50 = .ok (.invokevirtual 522, 3) := by decide +kernel
theorem dX12_dread_53 : decode cX12_dread 53 = .ok (.invokevirtual 541, 3) := by decide +kernel
theorem dX12_dread_56 : decode cX12_dread 56 = .ok (.ireturn, 1) := by decide +kernel
theorem dX12_laysSteps_0 : decode cX12_laysSteps 0 = .ok (.iconst 0, 1) := by decide +kernel
theorem dX12_laysSteps_1 : decode cX12_laysSteps 1 = .ok (.istore_n 3, 1) := by decide +kernel
theorem dX12_laysSteps_2 : decode cX12_laysSteps 2 = .ok (.iload_n 3, 1) := by decide +kernel
theorem dX12_laysSteps_3 : decode cX12_laysSteps 3 = .ok (.aload_n 0, 1) := by decide +kernel
theorem dX12_laysSteps_4 : decode cX12_laysSteps 4 = .ok (.invokevirtual 480, 3) := by decide +kernel
theorem dX12_laysSteps_7 : decode cX12_laysSteps 7 = .ok (.if_icmp .ge 27, 3) := by decide +kernel
theorem dX12_laysSteps_10 : decode cX12_laysSteps 10 = .ok (.aload_n 0, 1) := by decide +kernel
theorem dX12_laysSteps_11 : decode cX12_laysSteps 11 = .ok (.getfield 175, 3) := by decide +kernel
theorem dX12_laysSteps_14 : decode cX12_laysSteps 14 = .ok (.iload_n 3, 1) := by decide +kernel
theorem dX12_laysSteps_15 : decode cX12_laysSteps 15 = .ok (.iload_n 3, 1) := by decide +kernel
theorem dX12_laysSteps_16 : decode cX12_laysSteps 16 = .ok (.iload_n 1, 1) := by decide +kernel
theorem dX12_laysSteps_17 : decode cX12_laysSteps 17 = .ok (.if_icmp .ne 7, 3) := by decide +kernel
theorem dX12_laysSteps_20 : decode cX12_laysSteps 20 = .ok (.iconst 0, 1) := by decide +kernel
theorem dX12_laysSteps_21 : decode cX12_laysSteps 21 = .ok (.goto 6, 3) := by decide +kernel
theorem dX12_laysSteps_24 : decode cX12_laysSteps 24 = .ok (.ldc_w 586, 3) := by decide +kernel
theorem dX12_laysSteps_27 : decode cX12_laysSteps 27 = .ok (.iastore, 1) := by decide +kernel
theorem dX12_laysSteps_28 : decode cX12_laysSteps 28 = .ok (.iinc 3 1, 3) := by decide +kernel
theorem dX12_laysSteps_31 : decode cX12_laysSteps 31 = .ok (.goto (-29), 3) := by decide +kernel
theorem dX12_laysSteps_34 : decode cX12_laysSteps 34 = .ok (.iconst 1, 1) := by decide +kernel
theorem dX12_laysSteps_35 : decode cX12_laysSteps 35 = .ok (.istore_n 3, 1) := by decide +kernel
theorem dX12_laysSteps_36 : decode cX12_laysSteps 36 = .ok (.iload_n 3, 1) := by decide +kernel
theorem dX12_laysSteps_37 : decode cX12_laysSteps 37 = .ok (.ifCond .eq 108, 3) := by decide +kernel
theorem dX12_laysSteps_40 : decode cX12_laysSteps 40 = .ok (.iconst 0, 1) := by decide +kernel
theorem dX12_laysSteps_41 : decode cX12_laysSteps 41 = .ok (.istore_n 3, 1) := by decide +kernel
theorem dX12_laysSteps_42 : decode cX12_laysSteps 42 = .ok (.iconst 0, 1) := by decide +kernel
theorem dX12_laysSteps_43 : decode cX12_laysSteps 43 = .ok (.istore 4, 2) := by decide +kernel
theorem dX12_laysSteps_45 : decode cX12_laysSteps 45 = .ok (.iload 4, 2) := by decide +kernel
theorem dX12_laysSteps_47 : decode cX12_laysSteps 47 = .ok (.aload_n 0, 1) := by decide +kernel
theorem dX12_laysSteps_48 : decode cX12_laysSteps 48 = .ok (.invokevirtual 480, 3) := by decide +kernel
theorem dX12_laysSteps_51 : decode cX12_laysSteps 51 = .ok (.if_icmp .ge 91, 3) := by decide +kernel
theorem dX12_laysSteps_54 : decode cX12_laysSteps 54 = .ok (.iconst 0, 1) := by decide +kernel
theorem dX12_laysSteps_55 : decode cX12_laysSteps 55 = .ok (.istore 5, 2) := by decide +kernel
theorem dX12_laysSteps_57 : decode cX12_laysSteps 57 = .ok (.iload 5, 2) := by decide +kernel
theorem dX12_laysSteps_59 : decode cX12_laysSteps 59 = .ok (.iconst 4, 1) := by decide +kernel
theorem dX12_laysSteps_60 : decode cX12_laysSteps 60 = .ok (.if_icmp .ge 76, 3) := by decide +kernel
theorem dX12_laysSteps_63 : decode cX12_laysSteps 63 = .ok (.aload_n 0, 1) := by decide +kernel
theorem dX12_laysSteps_64 : decode cX12_laysSteps 64 = .ok (.iload 4, 2) := by decide +kernel
theorem dX12_laysSteps_66 : decode cX12_laysSteps 66 = .ok (.iload 5, 2) := by decide +kernel
theorem dX12_laysSteps_68 : decode cX12_laysSteps 68 = .ok (.invokevirtual 587, 3) := by decide +kernel
theorem dX12_laysSteps_71 : decode cX12_laysSteps 71 = .ok (.istore 6, 2) := by decide +kernel
theorem dX12_laysSteps_73 : decode cX12_laysSteps 73 = .ok (.iload 6, 2) := by decide +kernel
theorem dX12_laysSteps_75 : decode cX12_laysSteps 75 = .ok (.iconst (-1), 1) := by decide +kernel
theorem dX12_laysSteps_76 : decode cX12_laysSteps 76 = .ok (.if_icmp .eq 54, 3) := by decide +kernel
theorem dX12_laysSteps_79 : decode cX12_laysSteps 79 = .ok (.aload_n 0, 1) := by decide +kernel
theorem dX12_laysSteps_80 : decode cX12_laysSteps 80 = .ok (.getfield 172, 3) := by decide +kernel
theorem dX12_laysSteps_83 : decode cX12_laysSteps 83 = .ok (.iload 6, 2) := by decide +kernel
theorem dX12_laysSteps_85 : decode cX12_laysSteps 85 = .ok (.iaload, 1) := by decide +kernel
theorem dX12_laysSteps_86 : decode cX12_laysSteps 86 = .ok (.iload_n 2, 1) := by decide +kernel
theorem dX12_laysSteps_87 : decode cX12_laysSteps 87 = .ok (.if_icmp .gt 43, 3) := by decide +kernel
theorem dX12_laysSteps_90 : decode cX12_laysSteps 90 = .ok (.aload_n 0, 1) := by decide +kernel
theorem dX12_laysSteps_91 : decode cX12_laysSteps 91 = .ok (.getfield 175, 3) := by decide +kernel
theorem dX12_laysSteps_94 : decode cX12_laysSteps 94 = .ok (.iload 6, 2) := by decide +kernel
theorem dX12_laysSteps_96 : decode cX12_laysSteps 96 = .ok (.iaload, 1) := by decide +kernel
theorem dX12_laysSteps_97 : decode cX12_laysSteps 97 = .ok (.iconst 1, 1) := by decide +kernel
theorem dX12_laysSteps_98 : decode cX12_laysSteps 98 = .ok (.iadd, 1) := by decide +kernel
theorem dX12_laysSteps_99 : decode cX12_laysSteps 99 = .ok (.aload_n 0, 1) := by decide +kernel
theorem dX12_laysSteps_100 : decode cX12_laysSteps 100 = .ok (.getfield 175, 3) := by decide +kernel
theorem dX12_laysSteps_103 : decode cX12_laysSteps 103 = .ok (.iload 4, 2) := by decide +kernel
theorem dX12_laysSteps_105 : decode cX12_laysSteps 105 = .ok (.iaload, 1) := by decide +kernel
theorem dX12_laysSteps_106 : decode cX12_laysSteps 106 = .ok (.if_icmp .lt 6, 3) := by decide +kernel
theorem dX12_laysSteps_109 : decode cX12_laysSteps 109 = .ok (.goto 21, 3) := by decide +kernel
theorem dX12_laysSteps_112 : decode cX12_laysSteps 112 = .ok (.aload_n 0, 1) := by decide +kernel
theorem dX12_laysSteps_113 : decode cX12_laysSteps 113 = .ok (.getfield 175, 3) := by decide +kernel
theorem dX12_laysSteps_116 : decode cX12_laysSteps 116 = .ok (.iload 4, 2) := by decide +kernel
theorem dX12_laysSteps_118 : decode cX12_laysSteps 118 = .ok (.aload_n 0, 1) := by decide +kernel
theorem dX12_laysSteps_119 : decode cX12_laysSteps 119 = .ok (.getfield 175, 3) := by decide +kernel
theorem dX12_laysSteps_122 : decode cX12_laysSteps 122 = .ok (.iload 6, 2) := by decide +kernel
theorem dX12_laysSteps_124 : decode cX12_laysSteps 124 = .ok (.iaload, 1) := by decide +kernel
theorem dX12_laysSteps_125 : decode cX12_laysSteps 125 = .ok (.iconst 1, 1) := by decide +kernel
theorem dX12_laysSteps_126 : decode cX12_laysSteps 126 = .ok (.iadd, 1) := by decide +kernel
theorem dX12_laysSteps_127 : decode cX12_laysSteps 127 = .ok (.iastore, 1) := by decide +kernel
theorem dX12_laysSteps_128 : decode cX12_laysSteps 128 = .ok (.iconst 1, 1) := by decide +kernel
theorem dX12_laysSteps_129 : decode cX12_laysSteps 129 = .ok (.istore_n 3, 1) := by decide +kernel
theorem dX12_laysSteps_130 : decode cX12_laysSteps 130 = .ok (.iinc 5 1, 3) := by decide +kernel
theorem dX12_laysSteps_133 : decode cX12_laysSteps 133 = .ok (.goto (-76), 3) := by decide +kernel
theorem dX12_laysSteps_136 : decode cX12_laysSteps 136 = .ok (.iinc 4 1, 3) := by decide +kernel
theorem dX12_laysSteps_139 : decode cX12_laysSteps 139 = .ok (.goto (-94), 3) := by decide +kernel
theorem dX12_laysSteps_142 : decode cX12_laysSteps 142 = .ok (.goto (-106), 3) := by decide +kernel
theorem dX12_laysSteps_145 : decode cX12_laysSteps 145 = .ok (.return_, 1) := by decide +kernel
theorem dX12_nextStep_0 : decode cX12_nextStep 0 = .ok (.iconst (-1), 1) := by decide +kernel
theorem dX12_nextStep_1 : decode cX12_nextStep 1 = .ok (.istore_n 3, 1) := by decide +kernel
theorem dX12_nextStep_2 : decode cX12_nextStep 2 = .ok (.iconst 0, 1) := by decide +kernel
theorem dX12_nextStep_3 : decode cX12_nextStep 3 = .ok (.istore 4, 2) := by decide +kernel
theorem dX12_nextStep_5 : decode cX12_nextStep 5 = .ok (.iload 4, 2) := by decide +kernel
theorem dX12_nextStep_7 : decode cX12_nextStep 7 = .ok (.iconst 4, 1) := by decide +kernel
theorem dX12_nextStep_8 : decode cX12_nextStep 8 = .ok (.if_icmp .ge 70, 3) := by decide +kernel
theorem dX12_nextStep_11 : decode cX12_nextStep 11 = .ok (.aload_n 0, 1) := by decide +kernel
theorem dX12_nextStep_12 : decode cX12_nextStep 12 = .ok (.iload_n 1, 1) := by decide +kernel
theorem dX12_nextStep_13 : decode cX12_nextStep 13 = .ok (.iload 4, 2) := by decide +kernel
theorem dX12_nextStep_15 : decode cX12_nextStep 15 = .ok (.invokevirtual 587, 3) := by decide +kernel
theorem dX12_nextStep_18 : decode cX12_nextStep 18 = .ok (.istore 5, 2) := by decide +kernel
theorem dX12_nextStep_20 : decode cX12_nextStep 20 = .ok (.iload 5, 2) := by decide +kernel
theorem dX12_nextStep_22 : decode cX12_nextStep 22 = .ok (.iconst (-1), 1) := by decide +kernel
theorem dX12_nextStep_23 : decode cX12_nextStep 23 = .ok (.if_icmp .eq 49, 3) := by decide +kernel
theorem dX12_nextStep_26 : decode cX12_nextStep 26 = .ok (.aload_n 0, 1) := by decide +kernel
theorem dX12_nextStep_27 : decode cX12_nextStep 27 = .ok (.getfield 172, 3) := by decide +kernel
theorem dX12_nextStep_30 : decode cX12_nextStep 30 = .ok (.iload 5, 2) := by decide +kernel
theorem dX12_nextStep_32 : decode cX12_nextStep 32 = .ok (.iaload, 1) := by decide +kernel
theorem dX12_nextStep_33 : decode cX12_nextStep 33 = .ok (.iload_n 2, 1) := by decide +kernel
theorem dX12_nextStep_34 : decode cX12_nextStep 34 = .ok (.if_icmp .gt 38, 3) := by decide +kernel
theorem dX12_nextStep_37 : decode cX12_nextStep 37 = .ok (.aload_n 0, 1) := by decide +kernel
theorem dX12_nextStep_38 : decode cX12_nextStep 38 = .ok (.getfield 175, 3) := by decide +kernel
theorem dX12_nextStep_41 : decode cX12_nextStep 41 = .ok (.iload 5, 2) := by decide +kernel
theorem dX12_nextStep_43 : decode cX12_nextStep 43 = .ok (.iaload, 1) := by decide +kernel
theorem dX12_nextStep_44 : decode cX12_nextStep 44 = .ok (.iconst 1, 1) := by decide +kernel
theorem dX12_nextStep_45 : decode cX12_nextStep 45 = .ok (.iadd, 1) := by decide +kernel
theorem dX12_nextStep_46 : decode cX12_nextStep 46 = .ok (.aload_n 0, 1) := by decide +kernel
theorem dX12_nextStep_47 : decode cX12_nextStep 47 = .ok (.getfield 175, 3) := by decide +kernel
theorem dX12_nextStep_50 : decode cX12_nextStep 50 = .ok (.iload_n 1, 1) := by decide +kernel
theorem dX12_nextStep_51 : decode cX12_nextStep 51 = .ok (.iaload, 1) := by decide +kernel
theorem dX12_nextStep_52 : decode cX12_nextStep 52 = .ok (.if_icmp .eq 6, 3) := by decide +kernel
theorem dX12_nextStep_55 : decode cX12_nextStep 55 = .ok (.goto 17, 3) := by decide +kernel
theorem dX12_nextStep_58 : decode cX12_nextStep 58 = .ok (.iload_n 3, 1) := by decide +kernel
theorem dX12_nextStep_59 : decode cX12_nextStep 59 = .ok (.iconst (-1), 1) := by decide +kernel
theorem dX12_nextStep_60 : decode cX12_nextStep 60 = .ok (.if_icmp .eq 9, 3) := by decide +kernel
theorem dX12_nextStep_63 : decode cX12_nextStep 63 = .ok (.iload 5, 2) := by decide +kernel
theorem dX12_nextStep_65 : decode cX12_nextStep 65 = .ok (.iload_n 3, 1) := by decide +kernel
theorem dX12_nextStep_66 : decode cX12_nextStep 66 = .ok (.if_icmp .ge 6, 3) := by decide +kernel
theorem dX12_nextStep_69 : decode cX12_nextStep 69 = .ok (.iload 5, 2) := by decide +kernel
theorem dX12_nextStep_71 : decode cX12_nextStep 71 = .ok (.istore_n 3, 1) := by decide +kernel
theorem dX12_nextStep_72 : decode cX12_nextStep 72 = .ok (.iinc 4 1, 3) := by decide +kernel
theorem dX12_nextStep_75 : decode cX12_nextStep 75 = .ok (.goto (-70), 3) := by decide +kernel
theorem dX12_nextStep_78 : decode cX12_nextStep 78 = .ok (.iload_n 3, 1) := by decide +kernel
theorem dX12_nextStep_79 : decode cX12_nextStep 79 = .ok (.ireturn, 1) := by decide +kernel
theorem dX12_route_0 : decode cX12_route 0 = .ok (.aload_n 0, 1) := by decide +kernel
theorem dX12_route_1 : decode cX12_route 1 = .ok (.iload_n 1, 1) := by decide +kernel
theorem dX12_route_2 : decode cX12_route 2 = .ok (.invokevirtual 564, 3) := by decide +kernel
theorem dX12_route_5 : decode cX12_route 5 = .ok (.ifCond .eq 16, 3) := by decide +kernel
theorem dX12_route_8 : decode cX12_route 8 = .ok (.aload_n 0, 1) := by decide +kernel
theorem dX12_route_9 : decode cX12_route 9 = .ok (.iload_n 2, 1) := by decide +kernel
theorem dX12_route_10 : decode cX12_route 10 = .ok (.invokevirtual 556, 3) := by decide +kernel
theorem dX12_route_13 : decode cX12_route 13 = .ok (.ifCond .eq 8, 3) := by decide +kernel
theorem dX12_route_16 : decode cX12_route 16 = .ok (.iload_n 3, 1) := by decide +kernel
theorem dX12_route_17 : decode cX12_route 17 = .ok (.iconst (-1), 1) := by decide +kernel
theorem dX12_route_18 : decode cX12_route 18 = .ok (.if_icmp .ge 5, 3) := by decide +kernel
theorem dX12_route_21 : decode cX12_route 21 = .ok (.iconst (-1), 1) := by decide +kernel
theorem dX12_route_22 : decode cX12_route 22 = .ok (.ireturn, 1) := by decide +kernel
theorem dX12_route_23 : decode cX12_route 23 = .ok (.aload_n 0, 1) := by decide +kernel
theorem dX12_route_24 : decode cX12_route 24 = .ok (.iload_n 1, 1) := by decide +kernel
theorem dX12_route_25 : decode cX12_route 25 = .ok (.invokevirtual 590, 3) := by decide +kernel
theorem dX12_route_28 : decode cX12_route 28 = .ok (.aload_n 0, 1) := by decide +kernel
theorem dX12_route_29 : decode cX12_route 29 = .ok (.iload_n 2, 1) := by decide +kernel
theorem dX12_route_30 : decode cX12_route 30 = .ok (.aload_n 0, 1) := by decide +kernel
theorem dX12_route_31 : decode cX12_route 31 = .ok (.iload_n 1, 1) := by decide +kernel
theorem dX12_route_32 : decode cX12_route 32 = .ok (.invokevirtual 522, 3) := by decide +kernel
theorem dX12_route_35 : decode cX12_route 35 = .ok (.invokevirtual 593, 3) := by decide +kernel
theorem dX12_route_38 : decode cX12_route 38 = .ok (.aload_n 0, 1) := by decide +kernel
theorem dX12_route_39 : decode cX12_route 39 = .ok (.iload_n 1, 1) := by decide +kernel
theorem dX12_route_40 : decode cX12_route 40 = .ok (.invokevirtual 504, 3) := by decide +kernel
theorem dX12_route_43 : decode cX12_route 43 = .ok (.istore 4, 2) := by decide +kernel
theorem dX12_route_45 : decode cX12_route 45 = .ok (.aload_n 0, 1) := by decide +kernel
theorem dX12_route_46 : decode cX12_route 46 = .ok (.getfield 175, 3) := by decide +kernel
theorem dX12_route_49 : decode cX12_route 49 = .ok (.iload 4, 2) := by decide +kernel
theorem dX12_route_51 : decode cX12_route 51 = .ok (.iaload, 1) := by decide +kernel
theorem dX12_route_52 : decode cX12_route 52 = .ok (.ldc_w 586, 3) := by decide +kernel
theorem dX12_route_55 : decode cX12_route 55 = .ok (.if_icmp .lt 5, 3) := by decide +kernel
theorem dX12_route_58 : decode cX12_route 58 = .ok (.iconst (-1), 1) := by decide +kernel
theorem dX12_route_59 : decode cX12_route 59 = .ok (.ireturn, 1) := by decide +kernel
theorem dX12_route_60 : decode cX12_route 60 = .ok (.iload_n 3, 1) := by decide +kernel
theorem dX12_route_61 : decode cX12_route 61 = .ok (.iconst (-1), 1) := by decide +kernel
theorem dX12_route_62 : decode cX12_route 62 = .ok (.if_icmp .ne 11, 3) := by decide +kernel
theorem dX12_route_65 : decode cX12_route 65 = .ok (.aload_n 0, 1) := by decide +kernel
theorem dX12_route_66 : decode cX12_route 66 = .ok (.getfield 175, 3) := by decide +kernel
theorem dX12_route_69 : decode cX12_route 69 = .ok (.iload 4, 2) := by decide +kernel
theorem dX12_route_71 : decode cX12_route 71 = .ok (.iaload, 1) := by decide +kernel
theorem dX12_route_72 : decode cX12_route 72 = .ok (.ireturn, 1) := by decide +kernel
theorem dX12_route_73 : decode cX12_route 73 = .ok (.iload_n 3, 1) := by decide +kernel
theorem dX12_route_74 : decode cX12_route 74 = .ok (.aload_n 0, 1) := by decide +kernel
theorem dX12_route_75 : decode cX12_route 75 = .ok (.getfield 175, 3) := by decide +kernel
theorem dX12_route_78 : decode cX12_route 78 = .ok (.iload 4, 2) := by decide +kernel
theorem dX12_route_80 : decode cX12_route 80 = .ok (.iaload, 1) := by decide +kernel
theorem dX12_route_81 : decode cX12_route 81 = .ok (.if_icmp .lt 5, 3) := by decide +kernel
theorem dX12_route_84 : decode cX12_route 84 = .ok (.iconst (-1), 1) := by decide +kernel
theorem dX12_route_85 : decode cX12_route 85 = .ok (.ireturn, 1) := by decide +kernel
theorem dX12_route_86 : decode cX12_route 86 = .ok (.iconst 0, 1) := by decide +kernel
theorem dX12_route_87 : decode cX12_route 87 = .ok (.istore 5, 2) := by decide +kernel
theorem dX12_route_89 : decode cX12_route 89 = .ok (.iload 5, 2) := by decide +kernel
theorem dX12_route_91 : decode cX12_route 91 = .ok (.iload_n 3, 1) := by decide +kernel
theorem dX12_route_92 : decode cX12_route 92 = .ok (.if_icmp .gt 22, 3) := by decide +kernel
theorem dX12_route_95 : decode cX12_route 95 = .ok (.aload_n 0, 1) := by decide +kernel
theorem dX12_route_96 : decode cX12_route 96 = .ok (.iload 4, 2) := by decide +kernel
theorem dX12_route_98 : decode cX12_route 98 = .ok (.aload_n 0, 1) := by decide +kernel
theorem dX12_route_99 : decode cX12_route 99 = .ok (.iload_n 1, 1) := by decide +kernel
theorem dX12_route_100 : decode cX12_route 100 = .ok (.invokevirtual 522, 3) := by decide +kernel
theorem dX12_route_103 : decode cX12_route 103 = .ok (.invokevirtual 596, 3) := by decide +kernel
theorem dX12_route_106 : decode cX12_route 106 = .ok (.istore 4, 2) := by decide +kernel
theorem dX12_route_108 : decode cX12_route 108 = .ok (.iinc 5 1, 3) := by decide +kernel
theorem dX12_route_111 : decode cX12_route 111 = .ok (.goto (-22), 3) := by decide +kernel
theorem dX12_route_114 : decode cX12_route 114 = .ok (.iload 4, 2) := by decide +kernel
theorem dX12_route_116 : decode cX12_route 116 = .ok (.ireturn, 1) := by decide +kernel
theorem dX12_greater_0 : decode cX12_greater 0 = .ok (.iload_n 0, 1) := by decide +kernel
theorem dX12_greater_1 : decode cX12_greater 1 = .ok (.iload_n 1, 1) := by decide +kernel
theorem dX12_greater_2 : decode cX12_greater 2 = .ok (.if_icmp .le 7, 3) := by decide +kernel
theorem dX12_greater_5 : decode cX12_greater 5 = .ok (.iload_n 0, 1) := by decide +kernel
theorem dX12_greater_6 : decode cX12_greater 6 = .ok (.goto 4, 3) := by decide +kernel
theorem dX12_greater_9 : decode cX12_greater 9 = .ok (.iload_n 1, 1) := by decide +kernel
theorem dX12_greater_10 : decode cX12_greater 10 = .ok (.ireturn, 1) := by decide +kernel
theorem dX12_laysGentle_0 : decode cX12_laysGentle 0 = .ok (.iconst 0, 1) := by decide +kernel
theorem dX12_laysGentle_1 : decode cX12_laysGentle 1 = .ok (.istore_n 2, 1) := by decide +kernel
theorem dX12_laysGentle_2 : decode cX12_laysGentle 2 = .ok (.iload_n 2, 1) := by decide +kernel
theorem dX12_laysGentle_3 : decode cX12_laysGentle 3 = .ok (.aload_n 0, 1) := by decide +kernel
theorem dX12_laysGentle_4 : decode cX12_laysGentle 4 = .ok (.invokevirtual 480, 3) := by decide +kernel
theorem dX12_laysGentle_7 : decode cX12_laysGentle 7 = .ok (.if_icmp .ge 27, 3) := by decide +kernel
theorem dX12_laysGentle_10 : decode cX12_laysGentle 10 = .ok (.aload_n 0, 1) := by decide +kernel
theorem dX12_laysGentle_11 : decode cX12_laysGentle 11 = .ok (.getfield 175, 3) := by decide +kernel
theorem dX12_laysGentle_14 : decode cX12_laysGentle 14 = .ok (.iload_n 2, 1) := by decide +kernel
theorem dX12_laysGentle_15 : decode cX12_laysGentle 15 = .ok (.iload_n 2, 1) := by decide +kernel
theorem dX12_laysGentle_16 : decode cX12_laysGentle 16 = .ok (.iload_n 1, 1) := by decide +kernel
theorem dX12_laysGentle_17 : decode cX12_laysGentle 17 = .ok (.if_icmp .ne 7, 3) := by decide +kernel
theorem dX12_laysGentle_20 : decode cX12_laysGentle 20 = .ok (.iconst 0, 1) := by decide +kernel
theorem dX12_laysGentle_21 : decode cX12_laysGentle 21 = .ok (.goto 6, 3) := by decide +kernel
theorem dX12_laysGentle_24 : decode cX12_laysGentle 24 = .ok (.ldc_w 586, 3) := by decide +kernel
theorem dX12_laysGentle_27 : decode cX12_laysGentle 27 = .ok (.iastore, 1) := by decide +kernel
theorem dX12_laysGentle_28 : decode cX12_laysGentle 28 = .ok (.iinc 2 1, 3) := by decide +kernel
theorem dX12_laysGentle_31 : decode cX12_laysGentle 31 = .ok (.goto (-29), 3) := by decide +kernel
theorem dX12_laysGentle_34 : decode cX12_laysGentle 34 = .ok (.iconst 1, 1) := by decide +kernel
theorem dX12_laysGentle_35 : decode cX12_laysGentle 35 = .ok (.istore_n 2, 1) := by decide +kernel
theorem dX12_laysGentle_36 : decode cX12_laysGentle 36 = .ok (.iload_n 2, 1) := by decide +kernel
theorem dX12_laysGentle_37 : decode cX12_laysGentle 37 = .ok (.ifCond .eq 108, 3) := by decide +kernel
theorem dX12_laysGentle_40 : decode cX12_laysGentle 40 = .ok (.iconst 0, 1) := by decide +kernel
theorem dX12_laysGentle_41 : decode cX12_laysGentle 41 = .ok (.istore_n 2, 1) := by decide +kernel
theorem dX12_laysGentle_42 : decode cX12_laysGentle 42 = .ok (.iconst 0, 1) := by decide +kernel
theorem dX12_laysGentle_43 : decode cX12_laysGentle 43 = .ok (.istore_n 3, 1) := by decide +kernel
theorem dX12_laysGentle_44 : decode cX12_laysGentle 44 = .ok (.iload_n 3, 1) := by decide +kernel
theorem dX12_laysGentle_45 : decode cX12_laysGentle 45 = .ok (.aload_n 0, 1) := by decide +kernel
theorem dX12_laysGentle_46 : decode cX12_laysGentle 46 = .ok (.invokevirtual 480, 3) := by decide +kernel
theorem dX12_laysGentle_49 : decode cX12_laysGentle 49 = .ok (.if_icmp .ge 93, 3) := by decide +kernel
theorem dX12_laysGentle_52 : decode cX12_laysGentle 52 = .ok (.iconst 0, 1) := by decide +kernel
theorem dX12_laysGentle_53 : decode cX12_laysGentle 53 = .ok (.istore 4, 2) := by decide +kernel
theorem dX12_laysGentle_55 : decode cX12_laysGentle 55 = .ok (.iload 4, 2) := by decide +kernel
theorem dX12_laysGentle_57 : decode cX12_laysGentle 57 = .ok (.iconst 4, 1) := by decide +kernel
theorem dX12_laysGentle_58 : decode cX12_laysGentle 58 = .ok (.if_icmp .ge 78, 3) := by decide +kernel
theorem dX12_laysGentle_61 : decode cX12_laysGentle 61 = .ok (.aload_n 0, 1) := by decide +kernel
theorem dX12_laysGentle_62 : decode cX12_laysGentle 62 = .ok (.iload_n 3, 1) := by decide +kernel
theorem dX12_laysGentle_63 : decode cX12_laysGentle 63 = .ok (.iload 4, 2) := by decide +kernel
theorem dX12_laysGentle_65 : decode cX12_laysGentle 65 = .ok (.invokevirtual 587, 3) := by decide +kernel
theorem dX12_laysGentle_68 : decode cX12_laysGentle 68 = .ok (.istore 5, 2) := by decide +kernel
theorem dX12_laysGentle_70 : decode cX12_laysGentle 70 = .ok (.iload 5, 2) := by decide +kernel
theorem dX12_laysGentle_72 : decode cX12_laysGentle 72 = .ok (.iconst (-1), 1) := by decide +kernel
theorem dX12_laysGentle_73 : decode cX12_laysGentle 73 = .ok (.if_icmp .eq 57, 3) := by decide +kernel
theorem dX12_laysGentle_76 : decode cX12_laysGentle 76 = .ok (.aload_n 0, 1) := by decide +kernel
theorem dX12_laysGentle_77 : decode cX12_laysGentle 77 = .ok (.getfield 172, 3) := by decide +kernel
theorem dX12_laysGentle_80 : decode cX12_laysGentle 80 = .ok (.iload 5, 2) := by decide +kernel
theorem dX12_laysGentle_82 : decode cX12_laysGentle 82 = .ok (.iaload, 1) := by decide +kernel
theorem dX12_laysGentle_83 : decode cX12_laysGentle 83 = .ok (.aload_n 0, 1) := by decide +kernel
theorem dX12_laysGentle_84 : decode cX12_laysGentle 84 = .ok (.getfield 175, 3) := by decide +kernel
theorem dX12_laysGentle_87 : decode cX12_laysGentle 87 = .ok (.iload 5, 2) := by decide +kernel
theorem dX12_laysGentle_89 : decode cX12_laysGentle 89 = .ok (.iaload, 1) := by decide +kernel
theorem dX12_laysGentle_90 : decode cX12_laysGentle 90 = .ok (.invokestatic 599, 3) := by decide +kernel
theorem dX12_laysGentle_93 : decode cX12_laysGentle 93 = .ok (.aload_n 0, 1) := by decide +kernel
theorem dX12_laysGentle_94 : decode cX12_laysGentle 94 = .ok (.getfield 175, 3) := by decide +kernel
theorem dX12_laysGentle_97 : decode cX12_laysGentle 97 = .ok (.iload_n 3, 1) := by decide +kernel
theorem dX12_laysGentle_98 : decode cX12_laysGentle 98 = .ok (.iaload, 1) := by decide +kernel
theorem dX12_laysGentle_99 : decode cX12_laysGentle 99 = .ok (.if_icmp .lt 6, 3) := by decide +kernel
theorem dX12_laysGentle_102 : decode cX12_laysGentle 102 = .ok (.goto 28, 3) := by decide +kernel
theorem dX12_laysGentle_105 : decode cX12_laysGentle 105 = .ok (.aload_n 0, 1) := by decide +kernel
theorem dX12_laysGentle_106 : decode cX12_laysGentle 106 = .ok (.getfield 175, 3) := by decide +kernel
theorem dX12_laysGentle_109 : decode cX12_laysGentle 109 = .ok (.iload_n 3, 1) := by decide +kernel
theorem dX12_laysGentle_110 : decode cX12_laysGentle 110 = .ok (.aload_n 0, 1) := by decide +kernel
theorem dX12_laysGentle_111 : decode cX12_laysGentle 111 = .ok (.getfield 172, 3) := by decide +kernel
theorem dX12_laysGentle_114 : decode cX12_laysGentle 114 = .ok (.iload 5, 2) := by decide +kernel
theorem dX12_laysGentle_116 : decode cX12_laysGentle 116 = .ok (.iaload, 1) := by decide +kernel
theorem dX12_laysGentle_117 : decode cX12_laysGentle 117 = .ok (.aload_n 0, 1) := by decide +kernel
theorem dX12_laysGentle_118 : decode cX12_laysGentle 118 = .ok (.getfield 175, 3) := by decide +kernel
theorem dX12_laysGentle_121 : decode cX12_laysGentle 121 = .ok (.iload 5, 2) := by decide +kernel
theorem dX12_laysGentle_123 : decode cX12_laysGentle 123 = .ok (.iaload, 1) := by decide +kernel
theorem dX12_laysGentle_124 : decode cX12_laysGentle 124 = .ok (.invokestatic 599, 3) := by decide +kernel
theorem dX12_laysGentle_127 : decode cX12_laysGentle 127 = .ok (.iastore, 1) := by decide +kernel
theorem dX12_laysGentle_128 : decode cX12_laysGentle 128 = .ok (.iconst 1, 1) := by decide +kernel
theorem dX12_laysGentle_129 : decode cX12_laysGentle 129 = .ok (.istore_n 2, 1) := by decide +kernel
theorem dX12_laysGentle_130 : decode cX12_laysGentle 130 = .ok (.iinc 4 1, 3) := by decide +kernel
theorem dX12_laysGentle_133 : decode cX12_laysGentle 133 = .ok (.goto (-78), 3) := by decide +kernel
theorem dX12_laysGentle_136 : decode cX12_laysGentle 136 = .ok (.iinc 3 1, 3) := by decide +kernel
theorem dX12_laysGentle_139 : decode cX12_laysGentle 139 = .ok (.goto (-95), 3) := by decide +kernel
theorem dX12_laysGentle_142 : decode cX12_laysGentle 142 = .ok (.goto (-106), 3) := by decide +kernel
theorem dX12_laysGentle_145 : decode cX12_laysGentle 145 = .ok (.return_, 1) := by decide +kernel
theorem dX12_gentle_0 : decode cX12_gentle 0 = .ok (.aload_n 0, 1) := by decide +kernel
theorem dX12_gentle_1 : decode cX12_gentle 1 = .ok (.iload_n 1, 1) := by decide +kernel
theorem dX12_gentle_2 : decode cX12_gentle 2 = .ok (.invokevirtual 564, 3) := by decide +kernel
theorem dX12_gentle_5 : decode cX12_gentle 5 = .ok (.ifCond .eq 21, 3) := by decide +kernel
theorem dX12_gentle_8 : decode cX12_gentle 8 = .ok (.aload_n 0, 1) := by decide +kernel
theorem dX12_gentle_9 : decode cX12_gentle 9 = .ok (.iload_n 2, 1) := by decide +kernel
theorem dX12_gentle_10 : decode cX12_gentle 10 = .ok (.invokevirtual 556, 3) := by decide +kernel
theorem dX12_gentle_13 : decode cX12_gentle 13 = .ok (.ifCond .eq 13, 3) := by decide +kernel
theorem dX12_gentle_16 : decode cX12_gentle 16 = .ok (.iload_n 3, 1) := by decide +kernel
theorem dX12_gentle_17 : decode cX12_gentle 17 = .ok (.i2l, 1) := by decide +kernel
theorem dX12_gentle_18 : decode cX12_gentle 18 = .ok (.lconst 0, 1) := by decide +kernel
theorem dX12_gentle_19 : decode cX12_gentle 19 = .ok (.lconst 1, 1) := by decide +kernel
theorem dX12_gentle_20 : decode cX12_gentle 20 = .ok (.invokestatic 321, 3) := by decide +kernel
theorem dX12_gentle_23 : decode cX12_gentle 23 = .ok (.ifCond .ne 5, 3) := by decide +kernel
theorem dX12_gentle_26 : decode cX12_gentle 26 = .ok (.iconst (-1), 1) := by decide +kernel
theorem dX12_gentle_27 : decode cX12_gentle 27 = .ok (.ireturn, 1) := by decide +kernel
theorem dX12_gentle_28 : decode cX12_gentle 28 = .ok (.aload_n 0, 1) := by decide +kernel
theorem dX12_gentle_29 : decode cX12_gentle 29 = .ok (.iload_n 1, 1) := by decide +kernel
theorem dX12_gentle_30 : decode cX12_gentle 30 = .ok (.invokevirtual 590, 3) := by decide +kernel
theorem dX12_gentle_33 : decode cX12_gentle 33 = .ok (.aload_n 0, 1) := by decide +kernel
theorem dX12_gentle_34 : decode cX12_gentle 34 = .ok (.iload_n 2, 1) := by decide +kernel
theorem dX12_gentle_35 : decode cX12_gentle 35 = .ok (.invokevirtual 602, 3) := by decide +kernel
theorem dX12_gentle_38 : decode cX12_gentle 38 = .ok (.aload_n 0, 1) := by decide +kernel
theorem dX12_gentle_39 : decode cX12_gentle 39 = .ok (.getfield 175, 3) := by decide +kernel
theorem dX12_gentle_42 : decode cX12_gentle 42 = .ok (.aload_n 0, 1) := by decide +kernel
theorem dX12_gentle_43 : decode cX12_gentle 43 = .ok (.iload_n 1, 1) := by decide +kernel
theorem dX12_gentle_44 : decode cX12_gentle 44 = .ok (.invokevirtual 504, 3) := by decide +kernel
theorem dX12_gentle_47 : decode cX12_gentle 47 = .ok (.iaload, 1) := by decide +kernel
theorem dX12_gentle_48 : decode cX12_gentle 48 = .ok (.istore 4, 2) := by decide +kernel
theorem dX12_gentle_50 : decode cX12_gentle 50 = .ok (.iload 4, 2) := by decide +kernel
theorem dX12_gentle_52 : decode cX12_gentle 52 = .ok (.ldc_w 586, 3) := by decide +kernel
theorem dX12_gentle_55 : decode cX12_gentle 55 = .ok (.if_icmp .lt 5, 3) := by decide +kernel
theorem dX12_gentle_58 : decode cX12_gentle 58 = .ok (.iconst (-1), 1) := by decide +kernel
theorem dX12_gentle_59 : decode cX12_gentle 59 = .ok (.ireturn, 1) := by decide +kernel
theorem dX12_gentle_60 : decode cX12_gentle 60 = .ok (.iload 4, 2) := by decide +kernel
theorem dX12_gentle_62 : decode cX12_gentle 62 = .ok (.aload_n 0, 1) := by decide +kernel
theorem dX12_gentle_63 : decode cX12_gentle 63 = .ok (.iload_n 1, 1) := by decide +kernel
theorem dX12_gentle_64 : decode cX12_gentle 64 = .ok (.invokevirtual 522, 3) := by decide +kernel
theorem dX12_gentle_67 : decode cX12_gentle 67 = .ok (.isub, 1) := by decide +kernel
theorem dX12_gentle_68 : decode cX12_gentle 68 = .ok (.istore 5, 2) := by decide +kernel
theorem dX12_gentle_70 : decode cX12_gentle 70 = .ok (.iload_n 3, 1) := by decide +kernel
theorem dX12_gentle_71 : decode cX12_gentle 71 = .ok (.ifCond .ne 8, 3) := by decide +kernel
theorem dX12_gentle_74 : decode cX12_gentle 74 = .ok (.iload 4, 2) := by decide +kernel
theorem dX12_gentle_76 : decode cX12_gentle 76 = .ok (.goto 30, 3) := by decide +kernel
theorem dX12_gentle_79 : decode cX12_gentle 79 = .ok (.iload 5, 2) := by decide +kernel
theorem dX12_gentle_81 : decode cX12_gentle 81 = .ok (.ifCond .gt 7, 3) := by decide +kernel
theorem dX12_gentle_84 : decode cX12_gentle 84 = .ok (.iconst 0, 1) := by decide +kernel
theorem dX12_gentle_85 : decode cX12_gentle 85 = .ok (.goto 21, 3) := by decide +kernel
theorem dX12_gentle_88 : decode cX12_gentle 88 = .ok (.iload 5, 2) := by decide +kernel
theorem dX12_gentle_90 : decode cX12_gentle 90 = .ok (.aload_n 0, 1) := by decide +kernel
theorem dX12_gentle_91 : decode cX12_gentle 91 = .ok (.getfield 145, 3) := by decide +kernel
theorem dX12_gentle_94 : decode cX12_gentle 94 = .ok (.iconst 1, 1) := by decide +kernel
theorem dX12_gentle_95 : decode cX12_gentle 95 = .ok (.iaload, 1) := by decide +kernel
theorem dX12_gentle_96 : decode cX12_gentle 96 = .ok (.iadd, 1) := by decide +kernel
theorem dX12_gentle_97 : decode cX12_gentle 97 = .ok (.iconst 1, 1) := by decide +kernel
theorem dX12_gentle_98 : decode cX12_gentle 98 = .ok (.isub, 1) := by decide +kernel
theorem dX12_gentle_99 : decode cX12_gentle 99 = .ok (.aload_n 0, 1) := by decide +kernel
theorem dX12_gentle_100 : decode cX12_gentle 100 = .ok (.getfield 145, 3) := by decide +kernel
theorem dX12_gentle_103 : decode cX12_gentle 103 = .ok (.iconst 1, 1) := by decide +kernel
theorem dX12_gentle_104 : decode cX12_gentle 104 = .ok (.iaload, 1) := by decide +kernel
theorem dX12_gentle_105 : decode cX12_gentle 105 = .ok (.idiv, 1) := by decide +kernel
theorem dX12_gentle_106 : decode cX12_gentle 106 = .ok (.ireturn, 1) := by decide +kernel
theorem dX12_leastBeside_0 : decode cX12_leastBeside 0 = .ok (.iconst (-1), 1) := by decide +kernel
theorem dX12_leastBeside_1 : decode cX12_leastBeside 1 = .ok (.istore_n 2, 1) := by decide +kernel
theorem dX12_leastBeside_2 : decode cX12_leastBeside 2 = .ok (.iconst 0, 1) := by decide +kernel
theorem dX12_leastBeside_3 : decode cX12_leastBeside 3 = .ok (.istore_n 3, 1) := by decide +kernel
theorem dX12_leastBeside_4 : decode cX12_leastBeside 4 = .ok (.iload_n 3, 1) := by decide +kernel
theorem dX12_leastBeside_5 : decode cX12_leastBeside 5 = .ok (.iconst 4, 1) := by decide +kernel
theorem dX12_leastBeside_6 : decode cX12_leastBeside 6 = .ok (.if_icmp .ge 81, 3) := by decide +kernel
theorem dX12_leastBeside_9 : decode cX12_leastBeside 9 = .ok (.aload_n 0, 1) := by decide +kernel
theorem dX12_leastBeside_10 : decode cX12_leastBeside 10 = .ok (.iload_n 1, 1) := by decide +kernel
theorem dX12_leastBeside_11 : decode cX12_leastBeside 11 = .ok (.iload_n 3, 1) := by decide +kernel
theorem dX12_leastBeside_12 : decode cX12_leastBeside 12 = .ok (.invokevirtual 587, 3) := by decide +kernel
theorem dX12_leastBeside_15 : decode cX12_leastBeside 15 = .ok (.istore 4, 2) := by decide +kernel
theorem dX12_leastBeside_17 : decode cX12_leastBeside 17 = .ok (.iload 4, 2) := by decide +kernel
theorem dX12_leastBeside_19 : decode cX12_leastBeside 19 = .ok (.iconst (-1), 1) := by decide +kernel
theorem dX12_leastBeside_20 : decode cX12_leastBeside 20 = .ok (.if_icmp .eq 61, 3) := by decide +kernel
theorem dX12_leastBeside_23 : decode cX12_leastBeside 23 = .ok (.aload_n 0, 1) := by decide +kernel
theorem dX12_leastBeside_24 : decode cX12_leastBeside 24 = .ok (.iload 4, 2) := by decide +kernel
theorem dX12_leastBeside_26 : decode cX12_leastBeside 26 = .ok (.invokevirtual 492, 3) := by decide +kernel
theorem dX12_leastBeside_29 : decode cX12_leastBeside 29 = .ok (.ifCond .eq 6, 3) := by decide +kernel
theorem dX12_leastBeside_32 : decode cX12_leastBeside 32 = .ok (.goto 49, 3) := by decide +kernel
theorem dX12_leastBeside_35 : decode cX12_leastBeside 35 = .ok (.iload_n 2, 1) := by decide +kernel
theorem dX12_leastBeside_36 : decode cX12_leastBeside 36 = .ok (.iconst (-1), 1) := by decide +kernel
theorem dX12_leastBeside_37 : decode cX12_leastBeside 37 = .ok (.if_icmp .eq 41, 3) := by decide +kernel
theorem dX12_leastBeside_40 : decode cX12_leastBeside 40 = .ok (.aload_n 0, 1) := by decide +kernel
theorem dX12_leastBeside_41 : decode cX12_leastBeside 41 = .ok (.getfield 172, 3) := by decide +kernel
theorem dX12_leastBeside_44 : decode cX12_leastBeside 44 = .ok (.iload 4, 2) := by decide +kernel
theorem dX12_leastBeside_46 : decode cX12_leastBeside 46 = .ok (.iaload, 1) := by decide +kernel
theorem dX12_leastBeside_47 : decode cX12_leastBeside 47 = .ok (.aload_n 0, 1) := by decide +kernel
theorem dX12_leastBeside_48 : decode cX12_leastBeside 48 = .ok (.getfield 172, 3) := by decide +kernel
theorem dX12_leastBeside_51 : decode cX12_leastBeside 51 = .ok (.iload_n 2, 1) := by decide +kernel
theorem dX12_leastBeside_52 : decode cX12_leastBeside 52 = .ok (.iaload, 1) := by decide +kernel
theorem dX12_leastBeside_53 : decode cX12_leastBeside 53 = .ok (.if_icmp .lt 25, 3) := by decide +kernel
theorem dX12_leastBeside_56 : decode cX12_leastBeside 56 = .ok (.aload_n 0, 1) := by decide +kernel
theorem dX12_leastBeside_57 : decode cX12_leastBeside 57 = .ok (.getfield 172, 3) := by decide +kernel
theorem dX12_leastBeside_60 : decode cX12_leastBeside 60 = .ok (.iload 4, 2) := by decide +kernel
theorem dX12_leastBeside_62 : decode cX12_leastBeside 62 = .ok (.iaload, 1) := by decide +kernel
theorem dX12_leastBeside_63 : decode cX12_leastBeside 63 = .ok (.aload_n 0, 1) := by decide +kernel
theorem dX12_leastBeside_64 : decode cX12_leastBeside 64 = .ok (.getfield 172, 3) := by decide +kernel
theorem dX12_leastBeside_67 : decode cX12_leastBeside 67 = .ok (.iload_n 2, 1) := by decide +kernel
theorem dX12_leastBeside_68 : decode cX12_leastBeside 68 = .ok (.iaload, 1) := by decide +kernel
theorem dX12_leastBeside_69 : decode cX12_leastBeside 69 = .ok (.if_icmp .ne 12, 3) := by decide +kernel
theorem dX12_leastBeside_72 : decode cX12_leastBeside 72 = .ok (.iload 4, 2) := by decide +kernel
theorem dX12_leastBeside_74 : decode cX12_leastBeside 74 = .ok (.iload_n 2, 1) := by decide +kernel
theorem dX12_leastBeside_75 : decode cX12_leastBeside 75 = .ok (.if_icmp .ge 6, 3) := by decide +kernel
theorem dX12_leastBeside_78 : decode cX12_leastBeside 78 = .ok (.iload 4, 2) := by decide +kernel
theorem dX12_leastBeside_80 : decode cX12_leastBeside 80 = .ok (.istore_n 2, 1) := by decide +kernel
theorem dX12_leastBeside_81 : decode cX12_leastBeside 81 = .ok (.iinc 3 1, 3) := by decide +kernel
theorem dX12_leastBeside_84 : decode cX12_leastBeside 84 = .ok (.goto (-80), 3) := by decide +kernel
theorem dX12_leastBeside_87 : decode cX12_leastBeside 87 = .ok (.iload_n 2, 1) := by decide +kernel
theorem dX12_leastBeside_88 : decode cX12_leastBeside 88 = .ok (.ireturn, 1) := by decide +kernel
theorem dX12_runs_0 : decode cX12_runs 0 = .ok (.aload_n 0, 1) := by decide +kernel
theorem dX12_runs_1 : decode cX12_runs 1 = .ok (.iload_n 1, 1) := by decide +kernel
theorem dX12_runs_2 : decode cX12_runs 2 = .ok (.invokevirtual 564, 3) := by decide +kernel
theorem dX12_runs_5 : decode cX12_runs 5 = .ok (.ifCond .eq 13, 3) := by decide +kernel
theorem dX12_runs_8 : decode cX12_runs 8 = .ok (.iload_n 2, 1) := by decide +kernel
theorem dX12_runs_9 : decode cX12_runs 9 = .ok (.i2l, 1) := by decide +kernel
theorem dX12_runs_10 : decode cX12_runs 10 = .ok (.lconst 0, 1) := by decide +kernel
theorem dX12_runs_11 : decode cX12_runs 11 = .ok (.lconst 1, 1) := by decide +kernel
theorem dX12_runs_12 : decode cX12_runs 12 = .ok (.invokestatic 321, 3) := by decide +kernel
theorem dX12_runs_15 : decode cX12_runs 15 = .ok (.ifCond .ne 5, 3) := by decide +kernel
theorem dX12_runs_18 : decode cX12_runs 18 = .ok (.iconst (-1), 1) := by decide +kernel
theorem dX12_runs_19 : decode cX12_runs 19 = .ok (.ireturn, 1) := by decide +kernel
theorem dX12_runs_20 : decode cX12_runs 20 = .ok (.aload_n 0, 1) := by decide +kernel
theorem dX12_runs_21 : decode cX12_runs 21 = .ok (.iload_n 1, 1) := by decide +kernel
theorem dX12_runs_22 : decode cX12_runs 22 = .ok (.invokevirtual 590, 3) := by decide +kernel
theorem dX12_runs_25 : decode cX12_runs 25 = .ok (.aload_n 0, 1) := by decide +kernel
theorem dX12_runs_26 : decode cX12_runs 26 = .ok (.iload_n 1, 1) := by decide +kernel
theorem dX12_runs_27 : decode cX12_runs 27 = .ok (.invokevirtual 504, 3) := by decide +kernel
theorem dX12_runs_30 : decode cX12_runs 30 = .ok (.istore_n 3, 1) := by decide +kernel
theorem dX12_runs_31 : decode cX12_runs 31 = .ok (.iconst 0, 1) := by decide +kernel
theorem dX12_runs_32 : decode cX12_runs 32 = .ok (.istore 4, 2) := by decide +kernel
theorem dX12_runs_34 : decode cX12_runs 34 = .ok (.aload_n 0, 1) := by decide +kernel
theorem dX12_runs_35 : decode cX12_runs 35 = .ok (.iload_n 3, 1) := by decide +kernel
theorem dX12_runs_36 : decode cX12_runs 36 = .ok (.invokevirtual 605, 3) := by decide +kernel
theorem dX12_runs_39 : decode cX12_runs 39 = .ok (.istore 5, 2) := by decide +kernel
theorem dX12_runs_41 : decode cX12_runs 41 = .ok (.iload 5, 2) := by decide +kernel
theorem dX12_runs_43 : decode cX12_runs 43 = .ok (.iconst (-1), 1) := by decide +kernel
theorem dX12_runs_44 : decode cX12_runs 44 = .ok (.if_icmp .eq 35, 3) := by decide +kernel
theorem dX12_runs_47 : decode cX12_runs 47 = .ok (.aload_n 0, 1) := by decide +kernel
theorem dX12_runs_48 : decode cX12_runs 48 = .ok (.getfield 172, 3) := by decide +kernel
theorem dX12_runs_51 : decode cX12_runs 51 = .ok (.iload 5, 2) := by decide +kernel
theorem dX12_runs_53 : decode cX12_runs 53 = .ok (.iaload, 1) := by decide +kernel
theorem dX12_runs_54 : decode cX12_runs 54 = .ok (.aload_n 0, 1) := by decide +kernel
theorem dX12_runs_55 : decode cX12_runs 55 = .ok (.getfield 172, 3) := by decide +kernel
theorem dX12_runs_58 : decode cX12_runs 58 = .ok (.iload_n 3, 1) := by decide +kernel
theorem dX12_runs_59 : decode cX12_runs 59 = .ok (.iaload, 1) := by decide +kernel
theorem dX12_runs_60 : decode cX12_runs 60 = .ok (.if_icmp .ge 19, 3) := by decide +kernel
theorem dX12_runs_63 : decode cX12_runs 63 = .ok (.iload 5, 2) := by decide +kernel
theorem dX12_runs_65 : decode cX12_runs 65 = .ok (.istore_n 3, 1) := by decide +kernel
theorem dX12_runs_66 : decode cX12_runs 66 = .ok (.iinc 4 1, 3) := by decide +kernel
theorem dX12_runs_69 : decode cX12_runs 69 = .ok (.aload_n 0, 1) := by decide +kernel
theorem dX12_runs_70 : decode cX12_runs 70 = .ok (.iload_n 3, 1) := by decide +kernel
theorem dX12_runs_71 : decode cX12_runs 71 = .ok (.invokevirtual 605, 3) := by decide +kernel
theorem dX12_runs_74 : decode cX12_runs 74 = .ok (.istore 5, 2) := by decide +kernel
theorem dX12_runs_76 : decode cX12_runs 76 = .ok (.goto (-35), 3) := by decide +kernel
theorem dX12_runs_79 : decode cX12_runs 79 = .ok (.iload_n 2, 1) := by decide +kernel
theorem dX12_runs_80 : decode cX12_runs 80 = .ok (.ifCond .ne 7, 3) := by decide +kernel
theorem dX12_runs_83 : decode cX12_runs 83 = .ok (.iload_n 3, 1) := by decide +kernel
theorem dX12_runs_84 : decode cX12_runs 84 = .ok (.goto 5, 3) := by decide +kernel
theorem dX12_runs_87 : decode cX12_runs 87 = .ok (.iload 4, 2) := by decide +kernel
theorem dX12_runs_89 : decode cX12_runs 89 = .ok (.ireturn, 1) := by decide +kernel
theorem dX12_canFile_0 : decode cX12_canFile 0 = .ok (.iload_n 1, 1) := by decide +kernel
theorem dX12_canFile_1 : decode cX12_canFile 1 = .ok (.ifCond .le 13, 3) := by decide +kernel
theorem dX12_canFile_4 : decode cX12_canFile 4 = .ok (.iload_n 1, 1) := by decide +kernel
theorem dX12_canFile_5 : decode cX12_canFile 5 = .ok (.iconst 1, 1) := by decide +kernel
theorem dX12_canFile_6 : decode cX12_canFile 6 = .ok (.aload_n 0, 1) := by decide +kernel
theorem dX12_canFile_7 : decode cX12_canFile 7 = .ok (.invokevirtual 483, 3) := by decide +kernel
theorem dX12_canFile_10 : decode cX12_canFile 10 = .ok (.ishl, 1) := by decide +kernel
theorem dX12_canFile_11 : decode cX12_canFile 11 = .ok (.if_icmp .lt 5, 3) := by decide +kernel
theorem dX12_canFile_14 : decode cX12_canFile 14 = .ok (.iconst 0, 1) := by decide +kernel
theorem dX12_canFile_15 : decode cX12_canFile 15 = .ok (.ireturn, 1) := by decide +kernel
theorem dX12_canFile_16 : decode cX12_canFile 16 = .ok (.iconst (-1), 1) := by decide +kernel
theorem dX12_canFile_17 : decode cX12_canFile 17 = .ok (.istore_n 3, 1) := by decide +kernel
theorem dX12_canFile_18 : decode cX12_canFile 18 = .ok (.iconst 0, 1) := by decide +kernel
theorem dX12_canFile_19 : decode cX12_canFile 19 = .ok (.istore 4, 2) := by decide +kernel
theorem dX12_canFile_21 : decode cX12_canFile 21 = .ok (.iload 4, 2) := by decide +kernel
theorem dX12_canFile_23 : decode cX12_canFile 23 = .ok (.aload_n 0, 1) := by decide +kernel
theorem dX12_canFile_24 : decode cX12_canFile 24 = .ok (.invokevirtual 483, 3) := by decide +kernel
theorem dX12_canFile_27 : decode cX12_canFile 27 = .ok (.if_icmp .ge 45, 3) := by decide +kernel
theorem dX12_canFile_30 : decode cX12_canFile 30 = .ok (.iload_n 1, 1) := by decide +kernel
theorem dX12_canFile_31 : decode cX12_canFile 31 = .ok (.iload 4, 2) := by decide +kernel
theorem dX12_canFile_33 : decode cX12_canFile 33 = .ok (.ishr, 1) := by decide +kernel
theorem dX12_canFile_34 : decode cX12_canFile 34 = .ok (.iconst 1, 1) := by decide +kernel
theorem dX12_canFile_35 : decode cX12_canFile 35 = .ok (.iand, 1) := by decide +kernel
theorem dX12_canFile_36 : decode cX12_canFile 36 = .ok (.ifCond .ne 6, 3) := by decide +kernel
theorem dX12_canFile_39 : decode cX12_canFile 39 = .ok (.goto 27, 3) := by decide +kernel
theorem dX12_canFile_42 : decode cX12_canFile 42 = .ok (.iload_n 3, 1) := by decide +kernel
theorem dX12_canFile_43 : decode cX12_canFile 43 = .ok (.iconst (-1), 1) := by decide +kernel
theorem dX12_canFile_44 : decode cX12_canFile 44 = .ok (.if_icmp .eq 15, 3) := by decide +kernel
theorem dX12_canFile_47 : decode cX12_canFile 47 = .ok (.aload_n 0, 1) := by decide +kernel
theorem dX12_canFile_48 : decode cX12_canFile 48 = .ok (.iload 4, 2) := by decide +kernel
theorem dX12_canFile_50 : decode cX12_canFile 50 = .ok (.invokevirtual 504, 3) := by decide +kernel
theorem dX12_canFile_53 : decode cX12_canFile 53 = .ok (.iload_n 3, 1) := by decide +kernel
theorem dX12_canFile_54 : decode cX12_canFile 54 = .ok (.if_icmp .eq 5, 3) := by decide +kernel
theorem dX12_canFile_57 : decode cX12_canFile 57 = .ok (.iconst 0, 1) := by decide +kernel
theorem dX12_canFile_58 : decode cX12_canFile 58 = .ok (.ireturn, 1) := by decide +kernel
theorem dX12_canFile_59 : decode cX12_canFile 59 = .ok (.aload_n 0, 1) := by decide +kernel
theorem dX12_canFile_60 : decode cX12_canFile 60 = .ok (.iload 4, 2) := by decide +kernel
theorem dX12_canFile_62 : decode cX12_canFile 62 = .ok (.invokevirtual 504, 3) := by decide +kernel
theorem dX12_canFile_65 : decode cX12_canFile 65 = .ok (.istore_n 3, 1) := by decide +kernel
theorem dX12_canFile_66 : decode cX12_canFile 66 = .ok (.iinc 4 1, 3) := by decide +kernel
theorem dX12_canFile_69 : decode cX12_canFile 69 = .ok (.goto (-48), 3) := by decide +kernel
theorem dX12_canFile_72 : decode cX12_canFile 72 = .ok (.aload_n 0, 1) := by decide +kernel
theorem dX12_canFile_73 : decode cX12_canFile 73 = .ok (.iload_n 3, 1) := by decide +kernel
theorem dX12_canFile_74 : decode cX12_canFile 74 = .ok (.iload_n 2, 1) := by decide +kernel
theorem dX12_canFile_75 : decode cX12_canFile 75 = .ok (.invokevirtual 608, 3) := by decide +kernel
theorem dX12_canFile_78 : decode cX12_canFile 78 = .ok (.ireturn, 1) := by decide +kernel
theorem dX12_files_0 : decode cX12_files 0 = .ok (.iconst (-1), 1) := by decide +kernel
theorem dX12_files_1 : decode cX12_files 1 = .ok (.istore_n 3, 1) := by decide +kernel
theorem dX12_files_2 : decode cX12_files 2 = .ok (.iconst 0, 1) := by decide +kernel
theorem dX12_files_3 : decode cX12_files 3 = .ok (.istore 4, 2) := by decide +kernel
theorem dX12_files_5 : decode cX12_files 5 = .ok (.iconst 0, 1) := by decide +kernel
theorem dX12_files_6 : decode cX12_files 6 = .ok (.istore 5, 2) := by decide +kernel
theorem dX12_files_8 : decode cX12_files 8 = .ok (.iload 5, 2) := by decide +kernel
theorem dX12_files_10 : decode cX12_files 10 = .ok (.iload_n 1, 1) := by decide +kernel
theorem dX12_files_11 : decode cX12_files 11 = .ok (.if_icmp .ge 43, 3) := by decide +kernel
theorem dX12_files_14 : decode cX12_files 14 = .ok (.aload_n 0, 1) := by decide +kernel
theorem dX12_files_15 : decode cX12_files 15 = .ok (.aload_n 0, 1) := by decide +kernel
theorem dX12_files_16 : decode cX12_files 16 = .ok (.getfield 178, 3) := by decide +kernel
theorem dX12_files_19 : decode cX12_files 19 = .ok (.iload 5, 2) := by decide +kernel
theorem dX12_files_21 : decode cX12_files 21 = .ok (.iaload, 1) := by decide +kernel
theorem dX12_files_22 : decode cX12_files 22 = .ok (.iload_n 2, 1) := by decide +kernel
theorem dX12_files_23 : decode cX12_files 23 = .ok (.iload_n 3, 1) := by decide +kernel
theorem dX12_files_24 : decode cX12_files 24 = .ok (.invokevirtual 612, 3) := by decide +kernel
theorem dX12_files_27 : decode cX12_files 27 = .ok (.ifCond .ne 6, 3) := by decide +kernel
theorem dX12_files_30 : decode cX12_files 30 = .ok (.goto 18, 3) := by decide +kernel
theorem dX12_files_33 : decode cX12_files 33 = .ok (.iinc 4 1, 3) := by decide +kernel
theorem dX12_files_36 : decode cX12_files 36 = .ok (.aload_n 0, 1) := by decide +kernel
theorem dX12_files_37 : decode cX12_files 37 = .ok (.aload_n 0, 1) := by decide +kernel
theorem dX12_files_38 : decode cX12_files 38 = .ok (.getfield 178, 3) := by decide +kernel
theorem dX12_files_41 : decode cX12_files 41 = .ok (.iload 5, 2) := by decide +kernel
theorem dX12_files_43 : decode cX12_files 43 = .ok (.iaload, 1) := by decide +kernel
theorem dX12_files_44 : decode cX12_files 44 = .ok (.invokevirtual 522, 3) := by decide +kernel
theorem dX12_files_47 : decode cX12_files 47 = .ok (.istore_n 3, 1) := by decide +kernel
theorem dX12_files_48 : decode cX12_files 48 = .ok (.iinc 5 1, 3) := by decide +kernel
theorem dX12_files_51 : decode cX12_files 51 = .ok (.goto (-43), 3) := by decide +kernel
theorem dX12_files_54 : decode cX12_files 54 = .ok (.iload 4, 2) := by decide +kernel
theorem dX12_files_56 : decode cX12_files 56 = .ok (.ireturn, 1) := by decide +kernel
theorem dX12_isRow_0 : decode cX12_isRow 0 = .ok (.iload_n 1, 1) := by decide +kernel
theorem dX12_isRow_1 : decode cX12_isRow 1 = .ok (.istore 4, 2) := by decide +kernel
theorem dX12_isRow_3 : decode cX12_isRow 3 = .ok (.iconst 0, 1) := by decide +kernel
theorem dX12_isRow_4 : decode cX12_isRow 4 = .ok (.istore 5, 2) := by decide +kernel
theorem dX12_isRow_6 : decode cX12_isRow 6 = .ok (.iload_n 2, 1) := by decide +kernel
theorem dX12_isRow_7 : decode cX12_isRow 7 = .ok (.iconst 1, 1) := by decide +kernel
theorem dX12_isRow_8 : decode cX12_isRow 8 = .ok (.isub, 1) := by decide +kernel
theorem dX12_isRow_9 : decode cX12_isRow 9 = .ok (.istore 6, 2) := by decide +kernel
theorem dX12_isRow_11 : decode cX12_isRow 11 = .ok (.iload 6, 2) := by decide +kernel
theorem dX12_isRow_13 : decode cX12_isRow 13 = .ok (.ifCond .lt 42, 3) := by decide +kernel
theorem dX12_isRow_16 : decode cX12_isRow 16 = .ok (.aload_n 0, 1) := by decide +kernel
theorem dX12_isRow_17 : decode cX12_isRow 17 = .ok (.getfield 178, 3) := by decide +kernel
theorem dX12_isRow_20 : decode cX12_isRow 20 = .ok (.iload 6, 2) := by decide +kernel
theorem dX12_isRow_22 : decode cX12_isRow 22 = .ok (.iload 4, 2) := by decide +kernel
theorem dX12_isRow_24 : decode cX12_isRow 24 = .ok (.bipush 6, 2) := by decide +kernel
theorem dX12_isRow_26 : decode cX12_isRow 26 = .ok (.irem, 1) := by decide +kernel
theorem dX12_isRow_27 : decode cX12_isRow 27 = .ok (.iastore, 1) := by decide +kernel
theorem dX12_isRow_28 : decode cX12_isRow 28 = .ok (.iload 4, 2) := by decide +kernel
theorem dX12_isRow_30 : decode cX12_isRow 30 = .ok (.bipush 6, 2) := by decide +kernel
theorem dX12_isRow_32 : decode cX12_isRow 32 = .ok (.idiv, 1) := by decide +kernel
theorem dX12_isRow_33 : decode cX12_isRow 33 = .ok (.istore 4, 2) := by decide +kernel
theorem dX12_isRow_35 : decode cX12_isRow 35 = .ok (.iload 5, 2) := by decide +kernel
theorem dX12_isRow_37 : decode cX12_isRow 37 = .ok (.iconst 1, 1) := by decide +kernel
theorem dX12_isRow_38 : decode cX12_isRow 38 = .ok (.aload_n 0, 1) := by decide +kernel
theorem dX12_isRow_39 : decode cX12_isRow 39 = .ok (.getfield 178, 3) := by decide +kernel
theorem dX12_isRow_42 : decode cX12_isRow 42 = .ok (.iload 6, 2) := by decide +kernel
theorem dX12_isRow_44 : decode cX12_isRow 44 = .ok (.iaload, 1) := by decide +kernel
theorem dX12_isRow_45 : decode cX12_isRow 45 = .ok (.ishl, 1) := by decide +kernel
theorem dX12_isRow_46 : decode cX12_isRow 46 = .ok (.ior, 1) := by decide +kernel
theorem dX12_isRow_47 : decode cX12_isRow 47 = .ok (.istore 5, 2) := by decide +kernel
theorem dX12_isRow_49 : decode cX12_isRow 49 = .ok (.iinc 6 (-1), 3) := by decide +kernel
theorem dX12_isRow_52 : decode cX12_isRow 52 = .ok (.goto (-41), 3) := by decide +kernel
theorem dX12_isRow_55 : decode cX12_isRow 55 = .ok (.iload 5, 2) := by decide +kernel
theorem dX12_isRow_57 : decode cX12_isRow 57 = .ok (.iload_n 3, 1) := by decide +kernel
theorem dX12_isRow_58 : decode cX12_isRow 58 = .ok (.if_icmp .ne 7, 3) := by decide +kernel
theorem dX12_isRow_61 : decode cX12_isRow 61 = .ok (.iconst 1, 1) := by decide +kernel
theorem dX12_isRow_62 : decode cX12_isRow 62 = .ok (.goto 4, 3) := by decide +kernel
theorem dX12_isRow_65 : decode cX12_isRow 65 = .ok (.iconst 0, 1) := by decide +kernel
theorem dX12_isRow_66 : decode cX12_isRow 66 = .ok (.ireturn, 1) := by decide +kernel
theorem dX12_order_0 : decode cX12_order 0 = .ok (.aload_n 0, 1) := by decide +kernel
theorem dX12_order_1 : decode cX12_order 1 = .ok (.iload_n 1, 1) := by decide +kernel
theorem dX12_order_2 : decode cX12_order 2 = .ok (.iload_n 2, 1) := by decide +kernel
theorem dX12_order_3 : decode cX12_order 3 = .ok (.invokevirtual 615, 3) := by decide +kernel
theorem dX12_order_6 : decode cX12_order 6 = .ok (.ifCond .eq 16, 3) := by decide +kernel
theorem dX12_order_9 : decode cX12_order 9 = .ok (.iload_n 3, 1) := by decide +kernel
theorem dX12_order_10 : decode cX12_order 10 = .ok (.iconst (-1), 1) := by decide +kernel
theorem dX12_order_11 : decode cX12_order 11 = .ok (.if_icmp .lt 11, 3) := by decide +kernel
theorem dX12_order_14 : decode cX12_order 14 = .ok (.iload_n 3, 1) := by decide +kernel
theorem dX12_order_15 : decode cX12_order 15 = .ok (.iload_n 1, 1) := by decide +kernel
theorem dX12_order_16 : decode cX12_order 16 = .ok (.invokestatic 618, 3) := by decide +kernel
theorem dX12_order_19 : decode cX12_order 19 = .ok (.if_icmp .lt 5, 3) := by decide +kernel
theorem dX12_order_22 : decode cX12_order 22 = .ok (.iconst (-1), 1) := by decide +kernel
theorem dX12_order_23 : decode cX12_order 23 = .ok (.ireturn, 1) := by decide +kernel
theorem dX12_order_24 : decode cX12_order 24 = .ok (.iload_n 1, 1) := by decide +kernel
theorem dX12_order_25 : decode cX12_order 25 = .ok (.invokestatic 618, 3) := by decide +kernel
theorem dX12_order_28 : decode cX12_order 28 = .ok (.istore 4, 2) := by decide +kernel
theorem dX12_order_30 : decode cX12_order 30 = .ok (.iconst 1, 1) := by decide +kernel
theorem dX12_order_31 : decode cX12_order 31 = .ok (.istore 5, 2) := by decide +kernel
theorem dX12_order_33 : decode cX12_order 33 = .ok (.iconst 0, 1) := by decide +kernel
theorem dX12_order_34 : decode cX12_order 34 = .ok (.istore 6, 2) := by decide +kernel
theorem dX12_order_36 : decode cX12_order 36 = .ok (.iload 6, 2) := by decide +kernel
theorem dX12_order_38 : decode cX12_order 38 = .ok (.iload 4, 2) := by decide +kernel
theorem dX12_order_40 : decode cX12_order 40 = .ok (.if_icmp .ge 16, 3) := by decide +kernel
theorem dX12_order_43 : decode cX12_order 43 = .ok (.iload 5, 2) := by decide +kernel
theorem dX12_order_45 : decode cX12_order 45 = .ok (.bipush 6, 2) := by decide +kernel
theorem dX12_order_47 : decode cX12_order 47 = .ok (.imul, 1) := by decide +kernel
theorem dX12_order_48 : decode cX12_order 48 = .ok (.istore 5, 2) := by decide +kernel
theorem dX12_order_50 : decode cX12_order 50 = .ok (.iinc 6 1, 3) := by decide +kernel
theorem dX12_order_53 : decode cX12_order 53 = .ok (.goto (-17), 3) := by decide +kernel
theorem dX12_order_56 : decode cX12_order 56 = .ok (.iconst (-1), 1) := by decide +kernel
theorem dX12_order_57 : decode cX12_order 57 = .ok (.istore 6, 2) := by decide +kernel
theorem dX12_order_59 : decode cX12_order 59 = .ok (.aload_n 0, 1) := by decide +kernel
theorem dX12_order_60 : decode cX12_order 60 = .ok (.invokevirtual 621, 3) := by decide +kernel
theorem dX12_order_63 : decode cX12_order 63 = .ok (.iconst 0, 1) := by decide +kernel
theorem dX12_order_64 : decode cX12_order 64 = .ok (.istore 7, 2) := by decide +kernel
theorem dX12_order_66 : decode cX12_order 66 = .ok (.iload 7, 2) := by decide +kernel
theorem dX12_order_68 : decode cX12_order 68 = .ok (.iload 5, 2) := by decide +kernel
theorem dX12_order_70 : decode cX12_order 70 = .ok (.if_icmp .ge 81, 3) := by decide +kernel
theorem dX12_order_73 : decode cX12_order 73 = .ok (.aload_n 0, 1) := by decide +kernel
theorem dX12_order_74 : decode cX12_order 74 = .ok (.iload 7, 2) := by decide +kernel
theorem dX12_order_76 : decode cX12_order 76 = .ok (.iload 4, 2) := by decide +kernel
theorem dX12_order_78 : decode cX12_order 78 = .ok (.iload_n 1, 1) := by decide +kernel
theorem dX12_order_79 : decode cX12_order 79 = .ok (.invokevirtual 624, 3) := by decide +kernel
theorem dX12_order_82 : decode cX12_order 82 = .ok (.ifCond .ne 6, 3) := by decide +kernel
theorem dX12_order_85 : decode cX12_order 85 = .ok (.goto 60, 3) := by decide +kernel
theorem dX12_order_88 : decode cX12_order 88 = .ok (.aload_n 0, 1) := by decide +kernel
theorem dX12_order_89 : decode cX12_order 89 = .ok (.iload 4, 2) := by decide +kernel
theorem dX12_order_91 : decode cX12_order 91 = .ok (.iload_n 2, 1) := by decide +kernel
theorem dX12_order_92 : decode cX12_order 92 = .ok (.invokevirtual 627, 3) := by decide +kernel
theorem dX12_order_95 : decode cX12_order 95 = .ok (.istore 8, 2) := by decide +kernel
theorem dX12_order_97 : decode cX12_order 97 = .ok (.aload_n 0, 1) := by decide +kernel
theorem dX12_order_98 : decode cX12_order 98 = .ok (.invokevirtual 630, 3) := by decide +kernel
theorem dX12_order_101 : decode cX12_order 101 = .ok (.iload 8, 2) := by decide +kernel
theorem dX12_order_103 : decode cX12_order 103 = .ok (.iload 6, 2) := by decide +kernel
theorem dX12_order_105 : decode cX12_order 105 = .ok (.if_icmp .gt 6, 3) := by decide +kernel
theorem dX12_order_108 : decode cX12_order 108 = .ok (.goto 37, 3) := by decide +kernel
theorem dX12_order_111 : decode cX12_order 111 = .ok (.iload 8, 2) := by decide +kernel
theorem dX12_order_113 : decode cX12_order 113 = .ok (.istore 6, 2) := by decide +kernel
theorem dX12_order_115 : decode cX12_order 115 = .ok (.iconst 0, 1) := by decide +kernel
theorem dX12_order_116 : decode cX12_order 116 = .ok (.istore 9, 2) := by decide +kernel
theorem dX12_order_118 : decode cX12_order 118 = .ok (.iload 9, 2) := by decide +kernel
theorem dX12_order_120 : decode cX12_order 120 = .ok (.iload 4, 2) := by decide +kernel
theorem dX12_order_122 : decode cX12_order 122 = .ok (.if_icmp .ge 23, 3) := by decide +kernel
theorem dX12_order_125 : decode cX12_order 125 = .ok (.aload_n 0, 1) := by decide +kernel
theorem dX12_order_126 : decode cX12_order 126 = .ok (.getfield 181, 3) := by decide +kernel
theorem dX12_order_129 : decode cX12_order 129 = .ok (.iload 9, 2) := by decide +kernel
theorem dX12_order_131 : decode cX12_order 131 = .ok (.aload_n 0, 1) := by decide +kernel
theorem dX12_order_132 : decode cX12_order 132 = .ok (.getfield 178, 3) := by decide +kernel
theorem dX12_order_135 : decode cX12_order 135 = .ok (.iload 9, 2) := by decide +kernel
theorem dX12_order_137 : decode cX12_order 137 = .ok (.iaload, 1) := by decide +kernel
theorem dX12_order_138 : decode cX12_order 138 = .ok (.iastore, 1) := by decide +kernel
theorem dX12_order_139 : decode cX12_order 139 = .ok (.iinc 9 1, 3) := by decide +kernel
theorem dX12_order_142 : decode cX12_order 142 = .ok (.goto (-24), 3) := by decide +kernel
theorem dX12_order_145 : decode cX12_order 145 = .ok (.iinc 7 1, 3) := by decide +kernel
theorem dX12_order_148 : decode cX12_order 148 = .ok (.goto (-82), 3) := by decide +kernel
theorem dX12_order_151 : decode cX12_order 151 = .ok (.iload_n 3, 1) := by decide +kernel
theorem dX12_order_152 : decode cX12_order 152 = .ok (.iconst (-1), 1) := by decide +kernel
theorem dX12_order_153 : decode cX12_order 153 = .ok (.if_icmp .ne 8, 3) := by decide +kernel
theorem dX12_order_156 : decode cX12_order 156 = .ok (.iload 6, 2) := by decide +kernel
theorem dX12_order_158 : decode cX12_order 158 = .ok (.goto 9, 3) := by decide +kernel
theorem dX12_order_161 : decode cX12_order 161 = .ok (.aload_n 0, 1) := by decide +kernel
theorem dX12_order_162 : decode cX12_order 162 = .ok (.getfield 181, 3) := by decide +kernel
theorem dX12_order_165 : decode cX12_order 165 = .ok (.iload_n 3, 1) := by decide +kernel
theorem dX12_order_166 : decode cX12_order 166 = .ok (.iaload, 1) := by decide +kernel
theorem dX12_order_167 : decode cX12_order 167 = .ok (.ireturn, 1) := by decide +kernel
theorem dX12_behindIt_0 : decode cX12_behindIt 0 = .ok (.aload_n 0, 1) := by decide +kernel
theorem dX12_behindIt_1 : decode cX12_behindIt 1 = .ok (.iload_n 2, 1) := by decide +kernel
theorem dX12_behindIt_2 : decode cX12_behindIt 2 = .ok (.iload_n 3, 1) := by decide +kernel
theorem dX12_behindIt_3 : decode cX12_behindIt 3 = .ok (.iconst (-1), 1) := by decide +kernel
theorem dX12_behindIt_4 : decode cX12_behindIt 4 = .ok (.iconst 1, 1) := by decide +kernel
theorem dX12_behindIt_5 : decode cX12_behindIt 5 = .ok (.invokevirtual 548, 3) := by decide +kernel
theorem dX12_behindIt_8 : decode cX12_behindIt 8 = .ok (.istore 4, 2) := by decide +kernel
theorem dX12_behindIt_10 : decode cX12_behindIt 10 = .ok (.iconst 1, 1) := by decide +kernel
theorem dX12_behindIt_11 : decode cX12_behindIt 11 = .ok (.istore 5, 2) := by decide +kernel
theorem dX12_behindIt_13 : decode cX12_behindIt 13 = .ok (.iconst 0, 1) := by decide +kernel
theorem dX12_behindIt_14 : decode cX12_behindIt 14 = .ok (.istore 6, 2) := by decide +kernel
theorem dX12_behindIt_16 : decode cX12_behindIt 16 = .ok (.iload 6, 2) := by decide +kernel
theorem dX12_behindIt_18 : decode cX12_behindIt 18 = .ok (.aload_n 0, 1) := by decide +kernel
theorem dX12_behindIt_19 : decode cX12_behindIt 19 = .ok (.invokevirtual 483, 3) := by decide +kernel
theorem dX12_behindIt_22 : decode cX12_behindIt 22 = .ok (.if_icmp .ge 40, 3) := by decide +kernel
theorem dX12_behindIt_25 : decode cX12_behindIt 25 = .ok (.iload 6, 2) := by decide +kernel
theorem dX12_behindIt_27 : decode cX12_behindIt 27 = .ok (.iload_n 2, 1) := by decide +kernel
theorem dX12_behindIt_28 : decode cX12_behindIt 28 = .ok (.if_icmp .eq 28, 3) := by decide +kernel
theorem dX12_behindIt_31 : decode cX12_behindIt 31 = .ok (.iload_n 1, 1) := by decide +kernel
theorem dX12_behindIt_32 : decode cX12_behindIt 32 = .ok (.iload 6, 2) := by decide +kernel
theorem dX12_behindIt_34 : decode cX12_behindIt 34 = .ok (.ishr, 1) := by decide +kernel
theorem dX12_behindIt_35 : decode cX12_behindIt 35 = .ok (.iconst 1, 1) := by decide +kernel
theorem dX12_behindIt_36 : decode cX12_behindIt 36 = .ok (.iand, 1) := by decide +kernel
theorem dX12_behindIt_37 : decode cX12_behindIt 37 = .ok (.iconst 1, 1) := by decide +kernel
theorem dX12_behindIt_38 : decode cX12_behindIt 38 = .ok (.if_icmp .ne 18, 3) := by decide +kernel
theorem dX12_behindIt_41 : decode cX12_behindIt 41 = .ok (.aload_n 0, 1) := by decide +kernel
theorem dX12_behindIt_42 : decode cX12_behindIt 42 = .ok (.iload 6, 2) := by decide +kernel
theorem dX12_behindIt_44 : decode cX12_behindIt 44 = .ok (.iload_n 3, 1) := by decide +kernel
theorem dX12_behindIt_45 : decode cX12_behindIt 45 = .ok (.iload 4, 2) := by decide +kernel
theorem dX12_behindIt_47 : decode cX12_behindIt 47 = .ok (.invokevirtual 545, 3) := by decide +kernel
theorem dX12_behindIt_50 : decode cX12_behindIt 50 = .ok (.ifCond .eq 6, 3) := by decide +kernel
theorem dX12_behindIt_53 : decode cX12_behindIt 53 = .ok (.iinc 5 1, 3) := by decide +kernel
theorem dX12_behindIt_56 : decode cX12_behindIt 56 = .ok (.iinc 6 1, 3) := by decide +kernel
theorem dX12_behindIt_59 : decode cX12_behindIt 59 = .ok (.goto (-43), 3) := by decide +kernel
theorem dX12_behindIt_62 : decode cX12_behindIt 62 = .ok (.iload 5, 2) := by decide +kernel
theorem dX12_behindIt_64 : decode cX12_behindIt 64 = .ok (.ireturn, 1) := by decide +kernel
theorem dX12_lead_0 : decode cX12_lead 0 = .ok (.aload_n 0, 1) := by decide +kernel
theorem dX12_lead_1 : decode cX12_lead 1 = .ok (.iload_n 1, 1) := by decide +kernel
theorem dX12_lead_2 : decode cX12_lead 2 = .ok (.iload_n 2, 1) := by decide +kernel
theorem dX12_lead_3 : decode cX12_lead 3 = .ok (.invokevirtual 615, 3) := by decide +kernel
theorem dX12_lead_6 : decode cX12_lead 6 = .ok (.ifCond .eq 13, 3) := by decide +kernel
theorem dX12_lead_9 : decode cX12_lead 9 = .ok (.iload_n 3, 1) := by decide +kernel
theorem dX12_lead_10 : decode cX12_lead 10 = .ok (.i2l, 1) := by decide +kernel
theorem dX12_lead_11 : decode cX12_lead 11 = .ok (.lconst 0, 1) := by decide +kernel
theorem dX12_lead_12 : decode cX12_lead 12 = .ok (.lconst 1, 1) := by decide +kernel
theorem dX12_lead_13 : decode cX12_lead 13 = .ok (.invokestatic 321, 3) := by decide +kernel
theorem dX12_lead_16 : decode cX12_lead 16 = .ok (.ifCond .ne 5, 3) := by decide +kernel
theorem dX12_lead_19 : decode cX12_lead 19 = .ok (.iconst (-1), 1) := by decide +kernel
theorem dX12_lead_20 : decode cX12_lead 20 = .ok (.ireturn, 1) := by decide +kernel
theorem dX12_lead_21 : decode cX12_lead 21 = .ok (.iconst (-1), 1) := by decide +kernel
theorem dX12_lead_22 : decode cX12_lead 22 = .ok (.istore 4, 2) := by decide +kernel
theorem dX12_lead_24 : decode cX12_lead 24 = .ok (.iconst (-1), 1) := by decide +kernel
theorem dX12_lead_25 : decode cX12_lead 25 = .ok (.istore 5, 2) := by decide +kernel
theorem dX12_lead_27 : decode cX12_lead 27 = .ok (.iconst 0, 1) := by decide +kernel
theorem dX12_lead_28 : decode cX12_lead 28 = .ok (.istore 6, 2) := by decide +kernel
theorem dX12_lead_30 : decode cX12_lead 30 = .ok (.iload 6, 2) := by decide +kernel
theorem dX12_lead_32 : decode cX12_lead 32 = .ok (.aload_n 0, 1) := by decide +kernel
theorem dX12_lead_33 : decode cX12_lead 33 = .ok (.invokevirtual 483, 3) := by decide +kernel
theorem dX12_lead_36 : decode cX12_lead 36 = .ok (.if_icmp .ge 60, 3) := by decide +kernel
theorem dX12_lead_39 : decode cX12_lead 39 = .ok (.iload_n 1, 1) := by decide +kernel
theorem dX12_lead_40 : decode cX12_lead 40 = .ok (.iload 6, 2) := by decide +kernel
theorem dX12_lead_42 : decode cX12_lead 42 = .ok (.ishr, 1) := by decide +kernel
theorem dX12_lead_43 : decode cX12_lead 43 = .ok (.iconst 1, 1) := by decide +kernel
theorem dX12_lead_44 : decode cX12_lead 44 = .ok (.iand, 1) := by decide +kernel
theorem dX12_lead_45 : decode cX12_lead 45 = .ok (.ifCond .eq 45, 3) := by decide +kernel
theorem dX12_lead_48 : decode cX12_lead 48 = .ok (.aload_n 0, 1) := by decide +kernel
theorem dX12_lead_49 : decode cX12_lead 49 = .ok (.iload 6, 2) := by decide +kernel
theorem dX12_lead_51 : decode cX12_lead 51 = .ok (.iload_n 2, 1) := by decide +kernel
theorem dX12_lead_52 : decode cX12_lead 52 = .ok (.iconst (-1), 1) := by decide +kernel
theorem dX12_lead_53 : decode cX12_lead 53 = .ok (.invokevirtual 545, 3) := by decide +kernel
theorem dX12_lead_56 : decode cX12_lead 56 = .ok (.ifCond .ne 6, 3) := by decide +kernel
theorem dX12_lead_59 : decode cX12_lead 59 = .ok (.goto 31, 3) := by decide +kernel
theorem dX12_lead_62 : decode cX12_lead 62 = .ok (.aload_n 0, 1) := by decide +kernel
theorem dX12_lead_63 : decode cX12_lead 63 = .ok (.iload_n 1, 1) := by decide +kernel
theorem dX12_lead_64 : decode cX12_lead 64 = .ok (.iload 6, 2) := by decide +kernel
theorem dX12_lead_66 : decode cX12_lead 66 = .ok (.iload_n 2, 1) := by decide +kernel
theorem dX12_lead_67 : decode cX12_lead 67 = .ok (.invokevirtual 633, 3) := by decide +kernel
theorem dX12_lead_70 : decode cX12_lead 70 = .ok (.istore 7, 2) := by decide +kernel
theorem dX12_lead_72 : decode cX12_lead 72 = .ok (.iload 7, 2) := by decide +kernel
theorem dX12_lead_74 : decode cX12_lead 74 = .ok (.iload 5, 2) := by decide +kernel
theorem dX12_lead_76 : decode cX12_lead 76 = .ok (.if_icmp .gt 6, 3) := by decide +kernel
theorem dX12_lead_79 : decode cX12_lead 79 = .ok (.goto 11, 3) := by decide +kernel
theorem dX12_lead_82 : decode cX12_lead 82 = .ok (.iload 7, 2) := by decide +kernel
theorem dX12_lead_84 : decode cX12_lead 84 = .ok (.istore 5, 2) := by decide +kernel
theorem dX12_lead_86 : decode cX12_lead 86 = .ok (.iload 6, 2) := by decide +kernel
theorem dX12_lead_88 : decode cX12_lead 88 = .ok (.istore 4, 2) := by decide +kernel
theorem dX12_lead_90 : decode cX12_lead 90 = .ok (.iinc 6 1, 3) := by decide +kernel
theorem dX12_lead_93 : decode cX12_lead 93 = .ok (.goto (-63), 3) := by decide +kernel
theorem dX12_lead_96 : decode cX12_lead 96 = .ok (.iload_n 3, 1) := by decide +kernel
theorem dX12_lead_97 : decode cX12_lead 97 = .ok (.ifCond .ne 8, 3) := by decide +kernel
theorem dX12_lead_100 : decode cX12_lead 100 = .ok (.iload 4, 2) := by decide +kernel
theorem dX12_lead_102 : decode cX12_lead 102 = .ok (.goto 5, 3) := by decide +kernel
theorem dX12_lead_105 : decode cX12_lead 105 = .ok (.iload 5, 2) := by decide +kernel
theorem dX12_lead_107 : decode cX12_lead 107 = .ok (.ireturn, 1) := by decide +kernel
theorem dX12_liesBest_0 : decode cX12_liesBest 0 = .ok (.iconst (-1), 1) := by decide +kernel
theorem dX12_liesBest_1 : decode cX12_liesBest 1 = .ok (.istore_n 2, 1) := by decide +kernel
theorem dX12_liesBest_2 : decode cX12_liesBest 2 = .ok (.iconst 0, 1) := by decide +kernel
theorem dX12_liesBest_3 : decode cX12_liesBest 3 = .ok (.istore_n 3, 1) := by decide +kernel
theorem dX12_liesBest_4 : decode cX12_liesBest 4 = .ok (.iload_n 3, 1) := by decide +kernel
theorem dX12_liesBest_5 : decode cX12_liesBest 5 = .ok (.aload_n 0, 1) := by decide +kernel
theorem dX12_liesBest_6 : decode cX12_liesBest 6 = .ok (.invokevirtual 572, 3) := by decide +kernel
theorem dX12_liesBest_9 : decode cX12_liesBest 9 = .ok (.if_icmp .ge 44, 3) := by decide +kernel
theorem dX12_liesBest_12 : decode cX12_liesBest 12 = .ok (.aload_n 0, 1) := by decide +kernel
theorem dX12_liesBest_13 : decode cX12_liesBest 13 = .ok (.getfield 187, 3) := by decide +kernel
theorem dX12_liesBest_16 : decode cX12_liesBest 16 = .ok (.iload_n 1, 1) := by decide +kernel
theorem dX12_liesBest_17 : decode cX12_liesBest 17 = .ok (.iaload, 1) := by decide +kernel
theorem dX12_liesBest_18 : decode cX12_liesBest 18 = .ok (.iload_n 3, 1) := by decide +kernel
theorem dX12_liesBest_19 : decode cX12_liesBest 19 = .ok (.ishr, 1) := by decide +kernel
theorem dX12_liesBest_20 : decode cX12_liesBest 20 = .ok (.iconst 1, 1) := by decide +kernel
theorem dX12_liesBest_21 : decode cX12_liesBest 21 = .ok (.iand, 1) := by decide +kernel
theorem dX12_liesBest_22 : decode cX12_liesBest 22 = .ok (.ifCond .ne 25, 3) := by decide +kernel
theorem dX12_liesBest_25 : decode cX12_liesBest 25 = .ok (.iload_n 2, 1) := by decide +kernel
theorem dX12_liesBest_26 : decode cX12_liesBest 26 = .ok (.iconst (-1), 1) := by decide +kernel
theorem dX12_liesBest_27 : decode cX12_liesBest 27 = .ok (.if_icmp .eq 18, 3) := by decide +kernel
theorem dX12_liesBest_30 : decode cX12_liesBest 30 = .ok (.aload_n 0, 1) := by decide +kernel
theorem dX12_liesBest_31 : decode cX12_liesBest 31 = .ok (.iload_n 1, 1) := by decide +kernel
theorem dX12_liesBest_32 : decode cX12_liesBest 32 = .ok (.iload_n 3, 1) := by decide +kernel
theorem dX12_liesBest_33 : decode cX12_liesBest 33 = .ok (.invokevirtual 581, 3) := by decide +kernel
theorem dX12_liesBest_36 : decode cX12_liesBest 36 = .ok (.aload_n 0, 1) := by decide +kernel
theorem dX12_liesBest_37 : decode cX12_liesBest 37 = .ok (.iload_n 1, 1) := by decide +kernel
theorem dX12_liesBest_38 : decode cX12_liesBest 38 = .ok (.iload_n 2, 1) := by decide +kernel
theorem dX12_liesBest_39 : decode cX12_liesBest 39 = .ok (.invokevirtual 581, 3) := by decide +kernel
theorem dX12_liesBest_42 : decode cX12_liesBest 42 = .ok (.if_icmp .le 5, 3) := by decide +kernel
theorem dX12_liesBest_45 : decode cX12_liesBest 45 = .ok (.iload_n 3, 1) := by decide +kernel
theorem dX12_liesBest_46 : decode cX12_liesBest 46 = .ok (.istore_n 2, 1) := by decide +kernel
theorem dX12_liesBest_47 : decode cX12_liesBest 47 = .ok (.iinc 3 1, 3) := by decide +kernel
theorem dX12_liesBest_50 : decode cX12_liesBest 50 = .ok (.goto (-46), 3) := by decide +kernel
theorem dX12_liesBest_53 : decode cX12_liesBest 53 = .ok (.iload_n 2, 1) := by decide +kernel
theorem dX12_liesBest_54 : decode cX12_liesBest 54 = .ok (.ireturn, 1) := by decide +kernel
theorem dX12_asksOne_0 : decode cX12_asksOne 0 = .ok (.aload_n 0, 1) := by decide +kernel
theorem dX12_asksOne_1 : decode cX12_asksOne 1 = .ok (.iload_n 1, 1) := by decide +kernel
theorem dX12_asksOne_2 : decode cX12_asksOne 2 = .ok (.invokevirtual 636, 3) := by decide +kernel
theorem dX12_asksOne_5 : decode cX12_asksOne 5 = .ok (.istore_n 2, 1) := by decide +kernel
theorem dX12_asksOne_6 : decode cX12_asksOne 6 = .ok (.iload_n 2, 1) := by decide +kernel
theorem dX12_asksOne_7 : decode cX12_asksOne 7 = .ok (.iconst (-1), 1) := by decide +kernel
theorem dX12_asksOne_8 : decode cX12_asksOne 8 = .ok (.if_icmp .ne 5, 3) := by decide +kernel
theorem dX12_asksOne_11 : decode cX12_asksOne 11 = .ok (.iconst 0, 1) := by decide +kernel
theorem dX12_asksOne_12 : decode cX12_asksOne 12 = .ok (.ireturn, 1) := by decide +kernel
theorem dX12_asksOne_13 : decode cX12_asksOne 13 = .ok (.aload_n 0, 1) := by decide +kernel
theorem dX12_asksOne_14 : decode cX12_asksOne 14 = .ok (.getfield 184, 3) := by decide +kernel
theorem dX12_asksOne_17 : decode cX12_asksOne 17 = .ok (.iload_n 2, 1) := by decide +kernel
theorem dX12_asksOne_18 : decode cX12_asksOne 18 = .ok (.iaload, 1) := by decide +kernel
theorem dX12_asksOne_19 : decode cX12_asksOne 19 = .ok (.istore_n 3, 1) := by decide +kernel
theorem dX12_asksOne_20 : decode cX12_asksOne 20 = .ok (.iload_n 3, 1) := by decide +kernel
theorem dX12_asksOne_21 : decode cX12_asksOne 21 = .ok (.iconst (-1), 1) := by decide +kernel
theorem dX12_asksOne_22 : decode cX12_asksOne 22 = .ok (.if_icmp .eq 34, 3) := by decide +kernel
theorem dX12_asksOne_25 : decode cX12_asksOne 25 = .ok (.aload_n 0, 1) := by decide +kernel
theorem dX12_asksOne_26 : decode cX12_asksOne 26 = .ok (.iload_n 1, 1) := by decide +kernel
theorem dX12_asksOne_27 : decode cX12_asksOne 27 = .ok (.invokevirtual 522, 3) := by decide +kernel
theorem dX12_asksOne_30 : decode cX12_asksOne 30 = .ok (.aload_n 0, 1) := by decide +kernel
theorem dX12_asksOne_31 : decode cX12_asksOne 31 = .ok (.iload_n 3, 1) := by decide +kernel
theorem dX12_asksOne_32 : decode cX12_asksOne 32 = .ok (.invokevirtual 522, 3) := by decide +kernel
theorem dX12_asksOne_35 : decode cX12_asksOne 35 = .ok (.if_icmp .gt 21, 3) := by decide +kernel
theorem dX12_asksOne_38 : decode cX12_asksOne 38 = .ok (.aload_n 0, 1) := by decide +kernel
theorem dX12_asksOne_39 : decode cX12_asksOne 39 = .ok (.iload_n 1, 1) := by decide +kernel
theorem dX12_asksOne_40 : decode cX12_asksOne 40 = .ok (.invokevirtual 522, 3) := by decide +kernel
theorem dX12_asksOne_43 : decode cX12_asksOne 43 = .ok (.aload_n 0, 1) := by decide +kernel
theorem dX12_asksOne_44 : decode cX12_asksOne 44 = .ok (.iload_n 3, 1) := by decide +kernel
theorem dX12_asksOne_45 : decode cX12_asksOne 45 = .ok (.invokevirtual 522, 3) := by decide +kernel
theorem dX12_asksOne_48 : decode cX12_asksOne 48 = .ok (.if_icmp .ne 12, 3) := by decide +kernel
theorem dX12_asksOne_51 : decode cX12_asksOne 51 = .ok (.iload_n 1, 1) := by decide +kernel
theorem dX12_asksOne_52 : decode cX12_asksOne 52 = .ok (.iload_n 3, 1) := by decide +kernel
theorem dX12_asksOne_53 : decode cX12_asksOne 53 = .ok (.if_icmp .ge 7, 3) := by decide +kernel
theorem dX12_asksOne_56 : decode cX12_asksOne 56 = .ok (.iconst 1, 1) := by decide +kernel
theorem dX12_asksOne_57 : decode cX12_asksOne 57 = .ok (.goto 4, 3) := by decide +kernel
theorem dX12_asksOne_60 : decode cX12_asksOne 60 = .ok (.iconst 0, 1) := by decide +kernel
theorem dX12_asksOne_61 : decode cX12_asksOne 61 = .ok (.istore 4, 2) := by decide +kernel
theorem dX12_asksOne_63 : decode cX12_asksOne 63 = .ok (.iload 4, 2) := by decide +kernel
theorem dX12_asksOne_65 : decode cX12_asksOne 65 = .ok (.ifCond .eq 10, 3) := by decide +kernel
theorem dX12_asksOne_68 : decode cX12_asksOne 68 = .ok (.aload_n 0, 1) := by decide +kernel
theorem dX12_asksOne_69 : decode cX12_asksOne 69 = .ok (.getfield 184, 3) := by decide +kernel
theorem dX12_asksOne_72 : decode cX12_asksOne 72 = .ok (.iload_n 2, 1) := by decide +kernel
theorem dX12_asksOne_73 : decode cX12_asksOne 73 = .ok (.iload_n 1, 1) := by decide +kernel
theorem dX12_asksOne_74 : decode cX12_asksOne 74 = .ok (.iastore, 1) := by decide +kernel
theorem dX12_asksOne_75 : decode cX12_asksOne 75 = .ok (.iload 4, 2) := by decide +kernel
theorem dX12_asksOne_77 : decode cX12_asksOne 77 = .ok (.ifCond .eq 7, 3) := by decide +kernel
theorem dX12_asksOne_80 : decode cX12_asksOne 80 = .ok (.iload_n 3, 1) := by decide +kernel
theorem dX12_asksOne_81 : decode cX12_asksOne 81 = .ok (.goto 4, 3) := by decide +kernel
theorem dX12_asksOne_84 : decode cX12_asksOne 84 = .ok (.iload_n 1, 1) := by decide +kernel
theorem dX12_asksOne_85 : decode cX12_asksOne 85 = .ok (.istore 5, 2) := by decide +kernel
theorem dX12_asksOne_87 : decode cX12_asksOne 87 = .ok (.iload 5, 2) := by decide +kernel
theorem dX12_asksOne_89 : decode cX12_asksOne 89 = .ok (.iconst (-1), 1) := by decide +kernel
theorem dX12_asksOne_90 : decode cX12_asksOne 90 = .ok (.if_icmp .eq 16, 3) := by decide +kernel
theorem dX12_asksOne_93 : decode cX12_asksOne 93 = .ok (.aload_n 0, 1) := by decide +kernel
theorem dX12_asksOne_94 : decode cX12_asksOne 94 = .ok (.getfield 187, 3) := by decide +kernel
theorem dX12_asksOne_97 : decode cX12_asksOne 97 = .ok (.iload 5, 2) := by decide +kernel
theorem dX12_asksOne_99 : decode cX12_asksOne 99 = .ok (.dup2, 1) := by decide +kernel
theorem dX12_asksOne_100 : decode cX12_asksOne 100 = .ok (.iaload, 1) := by decide +kernel
theorem dX12_asksOne_101 : decode cX12_asksOne 101 = .ok (.iconst 1, 1) := by decide +kernel
theorem dX12_asksOne_102 : decode cX12_asksOne 102 = .ok (.iload_n 2, 1) := by decide +kernel
theorem dX12_asksOne_103 : decode cX12_asksOne 103 = .ok (.ishl, 1) := by decide +kernel
theorem dX12_asksOne_104 : decode cX12_asksOne 104 = .ok (.ior, 1) := by decide +kernel
theorem dX12_asksOne_105 : decode cX12_asksOne 105 = .ok (.iastore, 1) := by decide +kernel
theorem dX12_asksOne_106 : decode cX12_asksOne 106 = .ok (.iconst 1, 1) := by decide +kernel
theorem dX12_asksOne_107 : decode cX12_asksOne 107 = .ok (.ireturn, 1) := by decide +kernel
theorem dX12_isFree_0 : decode cX12_isFree 0 = .ok (.iconst 0, 1) := by decide +kernel
theorem dX12_isFree_1 : decode cX12_isFree 1 = .ok (.istore_n 2, 1) := by decide +kernel
theorem dX12_isFree_2 : decode cX12_isFree 2 = .ok (.iload_n 2, 1) := by decide +kernel
theorem dX12_isFree_3 : decode cX12_isFree 3 = .ok (.aload_n 0, 1) := by decide +kernel
theorem dX12_isFree_4 : decode cX12_isFree 4 = .ok (.invokevirtual 572, 3) := by decide +kernel
theorem dX12_isFree_7 : decode cX12_isFree 7 = .ok (.if_icmp .ge 21, 3) := by decide +kernel
theorem dX12_isFree_10 : decode cX12_isFree 10 = .ok (.aload_n 0, 1) := by decide +kernel
theorem dX12_isFree_11 : decode cX12_isFree 11 = .ok (.getfield 184, 3) := by decide +kernel
theorem dX12_isFree_14 : decode cX12_isFree 14 = .ok (.iload_n 2, 1) := by decide +kernel
theorem dX12_isFree_15 : decode cX12_isFree 15 = .ok (.iaload, 1) := by decide +kernel
theorem dX12_isFree_16 : decode cX12_isFree 16 = .ok (.iload_n 1, 1) := by decide +kernel
theorem dX12_isFree_17 : decode cX12_isFree 17 = .ok (.if_icmp .ne 5, 3) := by decide +kernel
theorem dX12_isFree_20 : decode cX12_isFree 20 = .ok (.iconst 0, 1) := by decide +kernel
theorem dX12_isFree_21 : decode cX12_isFree 21 = .ok (.ireturn, 1) := by decide +kernel
theorem dX12_isFree_22 : decode cX12_isFree 22 = .ok (.iinc 2 1, 3) := by decide +kernel
theorem dX12_isFree_25 : decode cX12_isFree 25 = .ok (.goto (-23), 3) := by decide +kernel
theorem dX12_isFree_28 : decode cX12_isFree 28 = .ok (.iconst 1, 1) := by decide +kernel
theorem dX12_isFree_29 : decode cX12_isFree 29 = .ok (.ireturn, 1) := by decide +kernel
theorem dX12_match_0 : decode cX12_match 0 = .ok (.aload_n 0, 1) := by decide +kernel
theorem dX12_match_1 : decode cX12_match 1 = .ok (.iload_n 1, 1) := by decide +kernel
theorem dX12_match_2 : decode cX12_match 2 = .ok (.invokevirtual 564, 3) := by decide +kernel
theorem dX12_match_5 : decode cX12_match 5 = .ok (.ifCond .ne 5, 3) := by decide +kernel
theorem dX12_match_8 : decode cX12_match 8 = .ok (.iconst (-1), 1) := by decide +kernel
theorem dX12_match_9 : decode cX12_match 9 = .ok (.ireturn, 1) := by decide +kernel
theorem dX12_match_10 : decode cX12_match 10 = .ok (.iconst 0, 1) := by decide +kernel
theorem dX12_match_11 : decode cX12_match 11 = .ok (.istore_n 2, 1) := by decide +kernel
theorem dX12_match_12 : decode cX12_match 12 = .ok (.iload_n 2, 1) := by decide +kernel
theorem dX12_match_13 : decode cX12_match 13 = .ok (.bipush 6, 2) := by decide +kernel
theorem dX12_match_15 : decode cX12_match 15 = .ok (.if_icmp .ge 23, 3) := by decide +kernel
theorem dX12_match_18 : decode cX12_match 18 = .ok (.aload_n 0, 1) := by decide +kernel
theorem dX12_match_19 : decode cX12_match 19 = .ok (.getfield 184, 3) := by decide +kernel
theorem dX12_match_22 : decode cX12_match 22 = .ok (.iload_n 2, 1) := by decide +kernel
theorem dX12_match_23 : decode cX12_match 23 = .ok (.iconst (-1), 1) := by decide +kernel
theorem dX12_match_24 : decode cX12_match 24 = .ok (.iastore, 1) := by decide +kernel
theorem dX12_match_25 : decode cX12_match 25 = .ok (.aload_n 0, 1) := by decide +kernel
theorem dX12_match_26 : decode cX12_match 26 = .ok (.getfield 187, 3) := by decide +kernel
theorem dX12_match_29 : decode cX12_match 29 = .ok (.iload_n 2, 1) := by decide +kernel
theorem dX12_match_30 : decode cX12_match 30 = .ok (.iconst 0, 1) := by decide +kernel
theorem dX12_match_31 : decode cX12_match 31 = .ok (.iastore, 1) := by decide +kernel
theorem dX12_match_32 : decode cX12_match 32 = .ok (.iinc 2 1, 3) := by decide +kernel
theorem dX12_match_35 : decode cX12_match 35 = .ok (.goto (-23), 3) := by decide +kernel
theorem dX12_match_38 : decode cX12_match 38 = .ok (.iconst 1, 1) := by decide +kernel
theorem dX12_match_39 : decode cX12_match 39 = .ok (.istore_n 2, 1) := by decide +kernel
theorem dX12_match_40 : decode cX12_match 40 = .ok (.iload_n 2, 1) := by decide +kernel
theorem dX12_match_41 : decode cX12_match 41 = .ok (.ifCond .eq 42, 3) := by decide +kernel
theorem dX12_match_44 : decode cX12_match 44 = .ok (.iconst 0, 1) := by decide +kernel
theorem dX12_match_45 : decode cX12_match 45 = .ok (.istore_n 2, 1) := by decide +kernel
theorem dX12_match_46 : decode cX12_match 46 = .ok (.iconst 0, 1) := by decide +kernel
theorem dX12_match_47 : decode cX12_match 47 = .ok (.istore_n 3, 1) := by decide +kernel
theorem dX12_match_48 : decode cX12_match 48 = .ok (.iload_n 3, 1) := by decide +kernel
theorem dX12_match_49 : decode cX12_match 49 = .ok (.aload_n 0, 1) := by decide +kernel
theorem dX12_match_50 : decode cX12_match 50 = .ok (.invokevirtual 483, 3) := by decide +kernel
theorem dX12_match_53 : decode cX12_match 53 = .ok (.if_icmp .ge 27, 3) := by decide +kernel
theorem dX12_match_56 : decode cX12_match 56 = .ok (.aload_n 0, 1) := by decide +kernel
theorem dX12_match_57 : decode cX12_match 57 = .ok (.iload_n 3, 1) := by decide +kernel
theorem dX12_match_58 : decode cX12_match 58 = .ok (.invokevirtual 639, 3) := by decide +kernel
theorem dX12_match_61 : decode cX12_match 61 = .ok (.ifCond .eq 13, 3) := by decide +kernel
theorem dX12_match_64 : decode cX12_match 64 = .ok (.aload_n 0, 1) := by decide +kernel
theorem dX12_match_65 : decode cX12_match 65 = .ok (.iload_n 3, 1) := by decide +kernel
theorem dX12_match_66 : decode cX12_match 66 = .ok (.invokevirtual 642, 3) := by decide +kernel
theorem dX12_match_69 : decode cX12_match 69 = .ok (.ifCond .eq 5, 3) := by decide +kernel
theorem dX12_match_72 : decode cX12_match 72 = .ok (.iconst 1, 1) := by decide +kernel
theorem dX12_match_73 : decode cX12_match 73 = .ok (.istore_n 2, 1) := by decide +kernel
theorem dX12_match_74 : decode cX12_match 74 = .ok (.iinc 3 1, 3) := by decide +kernel
theorem dX12_match_77 : decode cX12_match 77 = .ok (.goto (-29), 3) := by decide +kernel
theorem dX12_match_80 : decode cX12_match 80 = .ok (.goto (-40), 3) := by decide +kernel
theorem dX12_match_83 : decode cX12_match 83 = .ok (.iconst 0, 1) := by decide +kernel
theorem dX12_match_84 : decode cX12_match 84 = .ok (.istore_n 3, 1) := by decide +kernel
theorem dX12_match_85 : decode cX12_match 85 = .ok (.iload_n 3, 1) := by decide +kernel
theorem dX12_match_86 : decode cX12_match 86 = .ok (.aload_n 0, 1) := by decide +kernel
theorem dX12_match_87 : decode cX12_match 87 = .ok (.invokevirtual 572, 3) := by decide +kernel
theorem dX12_match_90 : decode cX12_match 90 = .ok (.if_icmp .ge 21, 3) := by decide +kernel
theorem dX12_match_93 : decode cX12_match 93 = .ok (.aload_n 0, 1) := by decide +kernel
theorem dX12_match_94 : decode cX12_match 94 = .ok (.getfield 184, 3) := by decide +kernel
theorem dX12_match_97 : decode cX12_match 97 = .ok (.iload_n 3, 1) := by decide +kernel
theorem dX12_match_98 : decode cX12_match 98 = .ok (.iaload, 1) := by decide +kernel
theorem dX12_match_99 : decode cX12_match 99 = .ok (.iload_n 1, 1) := by decide +kernel
theorem dX12_match_100 : decode cX12_match 100 = .ok (.if_icmp .ne 5, 3) := by decide +kernel
theorem dX12_match_103 : decode cX12_match 103 = .ok (.iload_n 3, 1) := by decide +kernel
theorem dX12_match_104 : decode cX12_match 104 = .ok (.ireturn, 1) := by decide +kernel
theorem dX12_match_105 : decode cX12_match 105 = .ok (.iinc 3 1, 3) := by decide +kernel
theorem dX12_match_108 : decode cX12_match 108 = .ok (.goto (-23), 3) := by decide +kernel
theorem dX12_match_111 : decode cX12_match 111 = .ok (.iconst (-1), 1) := by decide +kernel
theorem dX12_match_112 : decode cX12_match 112 = .ok (.ireturn, 1) := by decide +kernel
theorem dX12_trials_0 : decode cX12_trials 0 = .ok (.aload_n 0, 1) := by decide +kernel
theorem dX12_trials_1 : decode cX12_trials 1 = .ok (.getfield 275, 3) := by decide +kernel
theorem dX12_trials_4 : decode cX12_trials 4 = .ok (.istore_n 2, 1) := by decide +kernel
theorem dX12_trials_5 : decode cX12_trials 5 = .ok (.aload_n 0, 1) := by decide +kernel
theorem dX12_trials_6 : decode cX12_trials 6 = .ok (.iconst 0, 1) := by decide +kernel
theorem dX12_trials_7 : decode cX12_trials 7 = .ok (.putfield 275, 3) := by decide +kernel
theorem dX12_trials_10 : decode cX12_trials 10 = .ok (.aload_n 0, 1) := by decide +kernel
theorem dX12_trials_11 : decode cX12_trials 11 = .ok (.iload_n 1, 1) := by decide +kernel
theorem dX12_trials_12 : decode cX12_trials 12 = .ok (.invokevirtual 564, 3) := by decide +kernel
theorem dX12_trials_15 : decode cX12_trials 15 = .ok (.ifCond .eq 25, 3) := by decide +kernel
theorem dX12_trials_18 : decode cX12_trials 18 = .ok (.iload_n 2, 1) := by decide +kernel
theorem dX12_trials_19 : decode cX12_trials 19 = .ok (.ifCond .le 21, 3) := by decide +kernel
theorem dX12_trials_22 : decode cX12_trials 22 = .ok (.iload_n 2, 1) := by decide +kernel
theorem dX12_trials_23 : decode cX12_trials 23 = .ok (.iconst 2, 1) := by decide +kernel
theorem dX12_trials_24 : decode cX12_trials 24 = .ok (.irem, 1) := by decide +kernel
theorem dX12_trials_25 : decode cX12_trials 25 = .ok (.ifCond .ne 15, 3) := by decide +kernel
theorem dX12_trials_28 : decode cX12_trials 28 = .ok (.iload_n 2, 1) := by decide +kernel
theorem dX12_trials_29 : decode cX12_trials 29 = .ok (.iconst 2, 1) := by decide +kernel
theorem dX12_trials_30 : decode cX12_trials 30 = .ok (.idiv, 1) := by decide +kernel
theorem dX12_trials_31 : decode cX12_trials 31 = .ok (.bipush 20, 2) := by decide +kernel
theorem dX12_trials_33 : decode cX12_trials 33 = .ok (.if_icmp .gt 7, 3) := by decide +kernel
theorem dX12_trials_36 : decode cX12_trials 36 = .ok (.iconst 1, 1) := by decide +kernel
theorem dX12_trials_37 : decode cX12_trials 37 = .ok (.goto 4, 3) := by decide +kernel
theorem dX12_trials_40 : decode cX12_trials 40 = .ok (.iconst 0, 1) := by decide +kernel
theorem dX12_trials_41 : decode cX12_trials 41 = .ok (.istore_n 3, 1) := by decide +kernel
theorem dX12_trials_42 : decode cX12_trials 42 = .ok (.iconst 0, 1) := by decide +kernel
theorem dX12_trials_43 : decode cX12_trials 43 = .ok (.istore 4, 2) := by decide +kernel
theorem dX12_trials_45 : decode cX12_trials 45 = .ok (.iload 4, 2) := by decide +kernel
theorem dX12_trials_47 : decode cX12_trials 47 = .ok (.iload_n 2, 1) := by decide +kernel
theorem dX12_trials_48 : decode cX12_trials 48 = .ok (.if_icmp .ge 46, 3) := by decide +kernel
theorem dX12_trials_51 : decode cX12_trials 51 = .ok (.iload_n 3, 1) := by decide +kernel
theorem dX12_trials_52 : decode cX12_trials 52 = .ok (.ifCond .eq 42, 3) := by decide +kernel
theorem dX12_trials_55 : decode cX12_trials 55 = .ok (.aload_n 0, 1) := by decide +kernel
theorem dX12_trials_56 : decode cX12_trials 56 = .ok (.aload_n 0, 1) := by decide +kernel
theorem dX12_trials_57 : decode cX12_trials 57 = .ok (.getfield 7, 3) := by decide +kernel
theorem dX12_trials_60 : decode cX12_trials 60 = .ok (.iload 4, 2) := by decide +kernel
theorem dX12_trials_62 : decode cX12_trials 62 = .ok (.iaload, 1) := by decide +kernel
theorem dX12_trials_63 : decode cX12_trials 63 = .ok (.invokevirtual 556, 3) := by decide +kernel
theorem dX12_trials_66 : decode cX12_trials 66 = .ok (.ifCond .eq 20, 3) := by decide +kernel
theorem dX12_trials_69 : decode cX12_trials 69 = .ok (.aload_n 0, 1) := by decide +kernel
theorem dX12_trials_70 : decode cX12_trials 70 = .ok (.getfield 7, 3) := by decide +kernel
theorem dX12_trials_73 : decode cX12_trials 73 = .ok (.iload 4, 2) := by decide +kernel
theorem dX12_trials_75 : decode cX12_trials 75 = .ok (.iconst 1, 1) := by decide +kernel
theorem dX12_trials_76 : decode cX12_trials 76 = .ok (.iadd, 1) := by decide +kernel
theorem dX12_trials_77 : decode cX12_trials 77 = .ok (.iaload, 1) := by decide +kernel
theorem dX12_trials_78 : decode cX12_trials 78 = .ok (.iconst 2, 1) := by decide +kernel
theorem dX12_trials_79 : decode cX12_trials 79 = .ok (.if_icmp .ge 7, 3) := by decide +kernel
theorem dX12_trials_82 : decode cX12_trials 82 = .ok (.iconst 1, 1) := by decide +kernel
theorem dX12_trials_83 : decode cX12_trials 83 = .ok (.goto 4, 3) := by decide +kernel
theorem dX12_trials_86 : decode cX12_trials 86 = .ok (.iconst 0, 1) := by decide +kernel
theorem dX12_trials_87 : decode cX12_trials 87 = .ok (.istore_n 3, 1) := by decide +kernel
theorem dX12_trials_88 : decode cX12_trials 88 = .ok (.iinc 4 2, 3) := by decide +kernel
theorem dX12_trials_91 : decode cX12_trials 91 = .ok (.goto (-46), 3) := by decide +kernel
theorem dX12_trials_94 : decode cX12_trials 94 = .ok (.iload_n 3, 1) := by decide +kernel
theorem dX12_trials_95 : decode cX12_trials 95 = .ok (.ifCond .ne 15, 3) := by decide +kernel
theorem dX12_trials_98 : decode cX12_trials 98 = .ok (.aload_n 0, 1) := by decide +kernel
theorem dX12_trials_99 : decode cX12_trials 99 = .ok (.getfield 17, 3) := by decide +kernel
theorem dX12_trials_102 : decode cX12_trials 102 = .ok (.iconst 1, 1) := by decide +kernel
theorem dX12_trials_103 : decode cX12_trials 103 = .ok (.dup2, 1) := by decide +kernel
theorem dX12_trials_104 : decode cX12_trials 104 = .ok (.iaload, 1) := by decide +kernel
theorem dX12_trials_105 : decode cX12_trials 105 = .ok (.iconst 1, 1) := by decide +kernel
theorem dX12_trials_106 : decode cX12_trials 106 = .ok (.iadd, 1) := by decide +kernel
theorem dX12_trials_107 : decode cX12_trials 107 = .ok (.iastore, 1) := by decide +kernel
theorem dX12_trials_108 : decode cX12_trials 108 = .ok (.iconst (-1), 1) := by decide +kernel
theorem dX12_trials_109 : decode cX12_trials 109 = .ok (.ireturn, 1) := by decide +kernel
theorem dX12_trials_110 : decode cX12_trials 110 = .ok (.iconst 0, 1) := by decide +kernel
theorem dX12_trials_111 : decode cX12_trials 111 = .ok (.istore 4, 2) := by decide +kernel
theorem dX12_trials_113 : decode cX12_trials 113 = .ok (.iload 4, 2) := by decide +kernel
theorem dX12_trials_115 : decode cX12_trials 115 = .ok (.iload_n 2, 1) := by decide +kernel
theorem dX12_trials_116 : decode cX12_trials 116 = .ok (.if_icmp .ge 23, 3) := by decide +kernel
theorem dX12_trials_119 : decode cX12_trials 119 = .ok (.aload_n 0, 1) := by decide +kernel
theorem dX12_trials_120 : decode cX12_trials 120 = .ok (.getfield 190, 3) := by decide +kernel
theorem dX12_trials_123 : decode cX12_trials 123 = .ok (.iload 4, 2) := by decide +kernel
theorem dX12_trials_125 : decode cX12_trials 125 = .ok (.aload_n 0, 1) := by decide +kernel
theorem dX12_trials_126 : decode cX12_trials 126 = .ok (.getfield 7, 3) := by decide +kernel
theorem dX12_trials_129 : decode cX12_trials 129 = .ok (.iload 4, 2) := by decide +kernel
theorem dX12_trials_131 : decode cX12_trials 131 = .ok (.iaload, 1) := by decide +kernel
theorem dX12_trials_132 : decode cX12_trials 132 = .ok (.iastore, 1) := by decide +kernel
theorem dX12_trials_133 : decode cX12_trials 133 = .ok (.iinc 4 1, 3) := by decide +kernel
theorem dX12_trials_136 : decode cX12_trials 136 = .ok (.goto (-23), 3) := by decide +kernel
theorem dX12_trials_139 : decode cX12_trials 139 = .ok (.aload_n 0, 1) := by decide +kernel
theorem dX12_trials_140 : decode cX12_trials 140 = .ok (.iload_n 2, 1) := by decide +kernel
theorem dX12_trials_141 : decode cX12_trials 141 = .ok (.iconst 2, 1) := by decide +kernel
theorem dX12_trials_142 : decode cX12_trials 142 = .ok (.idiv, 1) := by decide +kernel
theorem dX12_trials_143 : decode cX12_trials 143 = .ok (.putfield 428, 3) := by decide +kernel
theorem dX12_trials_146 : decode cX12_trials 146 = .ok (.aload_n 0, 1) := by decide +kernel
theorem dX12_trials_147 : decode cX12_trials 147 = .ok (.iload_n 1, 1) := by decide +kernel
theorem dX12_trials_148 : decode cX12_trials 148 = .ok (.putfield 645, 3) := by decide +kernel
theorem dX12_trials_151 : decode cX12_trials 151 = .ok (.aload_n 0, 1) := by decide +kernel
theorem dX12_trials_152 : decode cX12_trials 152 = .ok (.getfield 428, 3) := by decide +kernel
theorem dX12_trials_155 : decode cX12_trials 155 = .ok (.ireturn, 1) := by decide +kernel
theorem dX12_canTrust_0 : decode cX12_canTrust 0 = .ok (.iconst 0, 1) := by decide +kernel
theorem dX12_canTrust_1 : decode cX12_canTrust 1 = .ok (.istore_n 2, 1) := by decide +kernel
theorem dX12_canTrust_2 : decode cX12_canTrust 2 = .ok (.iload_n 2, 1) := by decide +kernel
theorem dX12_canTrust_3 : decode cX12_canTrust 3 = .ok (.aload_n 0, 1) := by decide +kernel
theorem dX12_canTrust_4 : decode cX12_canTrust 4 = .ok (.getfield 428, 3) := by decide +kernel
theorem dX12_canTrust_7 : decode cX12_canTrust 7 = .ok (.if_icmp .ge 46, 3) := by decide +kernel
theorem dX12_canTrust_10 : decode cX12_canTrust 10 = .ok (.aload_n 0, 1) := by decide +kernel
theorem dX12_canTrust_11 : decode cX12_canTrust 11 = .ok (.getfield 172, 3) := by decide +kernel
theorem dX12_canTrust_14 : decode cX12_canTrust 14 = .ok (.aload_n 0, 1) := by decide +kernel
theorem dX12_canTrust_15 : decode cX12_canTrust 15 = .ok (.getfield 190, 3) := by decide +kernel
theorem dX12_canTrust_18 : decode cX12_canTrust 18 = .ok (.iconst 2, 1) := by decide +kernel
theorem dX12_canTrust_19 : decode cX12_canTrust 19 = .ok (.iload_n 2, 1) := by decide +kernel
theorem dX12_canTrust_20 : decode cX12_canTrust 20 = .ok (.imul, 1) := by decide +kernel
theorem dX12_canTrust_21 : decode cX12_canTrust 21 = .ok (.iaload, 1) := by decide +kernel
theorem dX12_canTrust_22 : decode cX12_canTrust 22 = .ok (.iaload, 1) := by decide +kernel
theorem dX12_canTrust_23 : decode cX12_canTrust 23 = .ok (.iload_n 1, 1) := by decide +kernel
theorem dX12_canTrust_24 : decode cX12_canTrust 24 = .ok (.if_icmp .gt 7, 3) := by decide +kernel
theorem dX12_canTrust_27 : decode cX12_canTrust 27 = .ok (.iconst 1, 1) := by decide +kernel
theorem dX12_canTrust_28 : decode cX12_canTrust 28 = .ok (.goto 4, 3) := by decide +kernel
theorem dX12_canTrust_31 : decode cX12_canTrust 31 = .ok (.iconst 0, 1) := by decide +kernel
theorem dX12_canTrust_32 : decode cX12_canTrust 32 = .ok (.aload_n 0, 1) := by decide +kernel
theorem dX12_canTrust_33 : decode cX12_canTrust 33 = .ok (.getfield 190, 3) := by decide +kernel
theorem dX12_canTrust_36 : decode cX12_canTrust 36 = .ok (.iconst 2, 1) := by decide +kernel
theorem dX12_canTrust_37 : decode cX12_canTrust 37 = .ok (.iload_n 2, 1) := by decide +kernel
theorem dX12_canTrust_38 : decode cX12_canTrust 38 = .ok (.imul, 1) := by decide +kernel
theorem dX12_canTrust_39 : decode cX12_canTrust 39 = .ok (.iconst 1, 1) := by decide +kernel
theorem dX12_canTrust_40 : decode cX12_canTrust 40 = .ok (.iadd, 1) := by decide +kernel
theorem dX12_canTrust_41 : decode cX12_canTrust 41 = .ok (.iaload, 1) := by decide +kernel
theorem dX12_canTrust_42 : decode cX12_canTrust 42 = .ok (.if_icmp .eq 5, 3) := by decide +kernel
theorem dX12_canTrust_45 : decode cX12_canTrust 45 = .ok (.iconst 0, 1) := by decide +kernel
theorem dX12_canTrust_46 : decode cX12_canTrust 46 = .ok (.ireturn, 1) := by decide +kernel
theorem dX12_canTrust_47 : decode cX12_canTrust 47 = .ok (.iinc 2 1, 3) := by decide +kernel
theorem dX12_canTrust_50 : decode cX12_canTrust 50 = .ok (.goto (-48), 3) := by decide +kernel
theorem dX12_canTrust_53 : decode cX12_canTrust 53 = .ok (.iconst 1, 1) := by decide +kernel
theorem dX12_canTrust_54 : decode cX12_canTrust 54 = .ok (.ireturn, 1) := by decide +kernel
theorem dX12_trusts_0 : decode cX12_trusts 0 = .ok (.aload_n 0, 1) := by decide +kernel
theorem dX12_trusts_1 : decode cX12_trusts 1 = .ok (.getfield 428, 3) := by decide +kernel
theorem dX12_trusts_4 : decode cX12_trusts 4 = .ok (.ifCond .eq 15, 3) := by decide +kernel
theorem dX12_trusts_7 : decode cX12_trusts 7 = .ok (.iload_n 1, 1) := by decide +kernel
theorem dX12_trusts_8 : decode cX12_trusts 8 = .ok (.i2l, 1) := by decide +kernel
theorem dX12_trusts_9 : decode cX12_trusts 9 = .ok (.lconst 0, 1) := by decide +kernel
theorem dX12_trusts_10 : decode cX12_trusts 10 = .ok (.ldc2_w 648, 3) := by decide +kernel
theorem dX12_trusts_13 : decode cX12_trusts 13 = .ok (.invokestatic 321, 3) := by decide +kernel
theorem dX12_trusts_16 : decode cX12_trusts 16 = .ok (.ifCond .ne 5, 3) := by decide +kernel
theorem dX12_trusts_19 : decode cX12_trusts 19 = .ok (.iconst (-1), 1) := by decide +kernel
theorem dX12_trusts_20 : decode cX12_trusts 20 = .ok (.ireturn, 1) := by decide +kernel
theorem dX12_trusts_21 : decode cX12_trusts 21 = .ok (.aload_n 0, 1) := by decide +kernel
theorem dX12_trusts_22 : decode cX12_trusts 22 = .ok (.aload_n 0, 1) := by decide +kernel
theorem dX12_trusts_23 : decode cX12_trusts 23 = .ok (.getfield 645, 3) := by decide +kernel
theorem dX12_trusts_26 : decode cX12_trusts 26 = .ok (.invokevirtual 590, 3) := by decide +kernel
theorem dX12_trusts_29 : decode cX12_trusts 29 = .ok (.iconst 0, 1) := by decide +kernel
theorem dX12_trusts_30 : decode cX12_trusts 30 = .ok (.istore_n 2, 1) := by decide +kernel
theorem dX12_trusts_31 : decode cX12_trusts 31 = .ok (.iconst (-1), 1) := by decide +kernel
theorem dX12_trusts_32 : decode cX12_trusts 32 = .ok (.istore_n 3, 1) := by decide +kernel
theorem dX12_trusts_33 : decode cX12_trusts 33 = .ok (.iconst (-1), 1) := by decide +kernel
theorem dX12_trusts_34 : decode cX12_trusts 34 = .ok (.istore 4, 2) := by decide +kernel
theorem dX12_trusts_36 : decode cX12_trusts 36 = .ok (.iconst 0, 1) := by decide +kernel
theorem dX12_trusts_37 : decode cX12_trusts 37 = .ok (.istore 5, 2) := by decide +kernel
theorem dX12_trusts_39 : decode cX12_trusts 39 = .ok (.iload 5, 2) := by decide +kernel
theorem dX12_trusts_41 : decode cX12_trusts 41 = .ok (.bipush 99, 2) := by decide +kernel
theorem dX12_trusts_43 : decode cX12_trusts 43 = .ok (.if_icmp .gt 36, 3) := by decide +kernel
theorem dX12_trusts_46 : decode cX12_trusts 46 = .ok (.aload_n 0, 1) := by decide +kernel
theorem dX12_trusts_47 : decode cX12_trusts 47 = .ok (.iload 5, 2) := by decide +kernel
theorem dX12_trusts_49 : decode cX12_trusts 49 = .ok (.invokevirtual 650, 3) := by decide +kernel
theorem dX12_trusts_52 : decode cX12_trusts 52 = .ok (.ifCond .ne 6, 3) := by decide +kernel
theorem dX12_trusts_55 : decode cX12_trusts 55 = .ok (.goto 18, 3) := by decide +kernel
theorem dX12_trusts_58 : decode cX12_trusts 58 = .ok (.iinc 2 1, 3) := by decide +kernel
theorem dX12_trusts_61 : decode cX12_trusts 61 = .ok (.iload_n 3, 1) := by decide +kernel
theorem dX12_trusts_62 : decode cX12_trusts 62 = .ok (.iconst (-1), 1) := by decide +kernel
theorem dX12_trusts_63 : decode cX12_trusts 63 = .ok (.if_icmp .ne 6, 3) := by decide +kernel
theorem dX12_trusts_66 : decode cX12_trusts 66 = .ok (.iload 5, 2) := by decide +kernel
theorem dX12_trusts_68 : decode cX12_trusts 68 = .ok (.istore_n 3, 1) := by decide +kernel
theorem dX12_trusts_69 : decode cX12_trusts 69 = .ok (.iload 5, 2) := by decide +kernel
theorem dX12_trusts_71 : decode cX12_trusts 71 = .ok (.istore 4, 2) := by decide +kernel
theorem dX12_trusts_73 : decode cX12_trusts 73 = .ok (.iinc 5 1, 3) := by decide +kernel
theorem dX12_trusts_76 : decode cX12_trusts 76 = .ok (.goto (-37), 3) := by decide +kernel
theorem dX12_trusts_79 : decode cX12_trusts 79 = .ok (.iload_n 1, 1) := by decide +kernel
theorem dX12_trusts_80 : decode cX12_trusts 80 = .ok (.ifCond .ne 7, 3) := by decide +kernel
theorem dX12_trusts_83 : decode cX12_trusts 83 = .ok (.iload_n 2, 1) := by decide +kernel
theorem dX12_trusts_84 : decode cX12_trusts 84 = .ok (.goto 14, 3) := by decide +kernel
theorem dX12_trusts_87 : decode cX12_trusts 87 = .ok (.iload_n 1, 1) := by decide +kernel
theorem dX12_trusts_88 : decode cX12_trusts 88 = .ok (.iconst 1, 1) := by decide +kernel
theorem dX12_trusts_89 : decode cX12_trusts 89 = .ok (.if_icmp .ne 7, 3) := by decide +kernel
theorem dX12_trusts_92 : decode cX12_trusts 92 = .ok (.iload_n 3, 1) := by decide +kernel
theorem dX12_trusts_93 : decode cX12_trusts 93 = .ok (.goto 5, 3) := by decide +kernel
theorem dX12_trusts_96 : decode cX12_trusts 96 = .ok (.iload 4, 2) := by decide +kernel
theorem dX12_trusts_98 : decode cX12_trusts 98 = .ok (.ireturn, 1) := by decide +kernel
theorem dX12_next_0 : decode cX12_next 0 = .ok (.aload_n 0, 1) := by decide +kernel
theorem dX12_next_1 : decode cX12_next 1 = .ok (.getfield 428, 3) := by decide +kernel
theorem dX12_next_4 : decode cX12_next 4 = .ok (.ifCond .eq 13, 3) := by decide +kernel
theorem dX12_next_7 : decode cX12_next 7 = .ok (.iload_n 1, 1) := by decide +kernel
theorem dX12_next_8 : decode cX12_next 8 = .ok (.i2l, 1) := by decide +kernel
theorem dX12_next_9 : decode cX12_next 9 = .ok (.lconst 0, 1) := by decide +kernel
theorem dX12_next_10 : decode cX12_next 10 = .ok (.lconst 1, 1) := by decide +kernel
theorem dX12_next_11 : decode cX12_next 11 = .ok (.invokestatic 321, 3) := by decide +kernel
theorem dX12_next_14 : decode cX12_next 14 = .ok (.ifCond .ne 5, 3) := by decide +kernel
theorem dX12_next_17 : decode cX12_next 17 = .ok (.iconst (-1), 1) := by decide +kernel
theorem dX12_next_18 : decode cX12_next 18 = .ok (.ireturn, 1) := by decide +kernel
theorem dX12_next_19 : decode cX12_next 19 = .ok (.aload_n 0, 1) := by decide +kernel
theorem dX12_next_20 : decode cX12_next 20 = .ok (.aload_n 0, 1) := by decide +kernel
theorem dX12_next_21 : decode cX12_next 21 = .ok (.getfield 645, 3) := by decide +kernel
theorem dX12_next_24 : decode cX12_next 24 = .ok (.invokevirtual 590, 3) := by decide +kernel
theorem dX12_next_27 : decode cX12_next 27 = .ok (.iconst (-1), 1) := by decide +kernel
theorem dX12_next_28 : decode cX12_next 28 = .ok (.istore_n 2, 1) := by decide +kernel
theorem dX12_next_29 : decode cX12_next 29 = .ok (.iconst (-1), 1) := by decide +kernel
theorem dX12_next_30 : decode cX12_next 30 = .ok (.istore_n 3, 1) := by decide +kernel
theorem dX12_next_31 : decode cX12_next 31 = .ok (.iconst 0, 1) := by decide +kernel
theorem dX12_next_32 : decode cX12_next 32 = .ok (.istore 4, 2) := by decide +kernel
theorem dX12_next_34 : decode cX12_next 34 = .ok (.iload 4, 2) := by decide +kernel
theorem dX12_next_36 : decode cX12_next 36 = .ok (.aload_n 0, 1) := by decide +kernel
theorem dX12_next_37 : decode cX12_next 37 = .ok (.invokevirtual 480, 3) := by decide +kernel
theorem dX12_next_40 : decode cX12_next 40 = .ok (.if_icmp .ge 111, 3) := by decide +kernel
theorem dX12_next_43 : decode cX12_next 43 = .ok (.iconst 0, 1) := by decide +kernel
theorem dX12_next_44 : decode cX12_next 44 = .ok (.istore 5, 2) := by decide +kernel
theorem dX12_next_46 : decode cX12_next 46 = .ok (.iconst 0, 1) := by decide +kernel
theorem dX12_next_47 : decode cX12_next 47 = .ok (.istore 6, 2) := by decide +kernel
theorem dX12_next_49 : decode cX12_next 49 = .ok (.iconst 0, 1) := by decide +kernel
theorem dX12_next_50 : decode cX12_next 50 = .ok (.istore 7, 2) := by decide +kernel
theorem dX12_next_52 : decode cX12_next 52 = .ok (.iload 7, 2) := by decide +kernel
theorem dX12_next_54 : decode cX12_next 54 = .ok (.bipush 99, 2) := by decide +kernel
theorem dX12_next_56 : decode cX12_next 56 = .ok (.if_icmp .gt 51, 3) := by decide +kernel
theorem dX12_next_59 : decode cX12_next 59 = .ok (.aload_n 0, 1) := by decide +kernel
theorem dX12_next_60 : decode cX12_next 60 = .ok (.iload 4, 2) := by decide +kernel
theorem dX12_next_62 : decode cX12_next 62 = .ok (.invokevirtual 492, 3) := by decide +kernel
theorem dX12_next_65 : decode cX12_next 65 = .ok (.ifCond .ne 42, 3) := by decide +kernel
theorem dX12_next_68 : decode cX12_next 68 = .ok (.aload_n 0, 1) := by decide +kernel
theorem dX12_next_69 : decode cX12_next 69 = .ok (.iload 7, 2) := by decide +kernel
theorem dX12_next_71 : decode cX12_next 71 = .ok (.invokevirtual 650, 3) := by decide +kernel
theorem dX12_next_74 : decode cX12_next 74 = .ok (.ifCond .ne 6, 3) := by decide +kernel
theorem dX12_next_77 : decode cX12_next 77 = .ok (.goto 24, 3) := by decide +kernel
theorem dX12_next_80 : decode cX12_next 80 = .ok (.aload_n 0, 1) := by decide +kernel
theorem dX12_next_81 : decode cX12_next 81 = .ok (.getfield 172, 3) := by decide +kernel
theorem dX12_next_84 : decode cX12_next 84 = .ok (.iload 4, 2) := by decide +kernel
theorem dX12_next_86 : decode cX12_next 86 = .ok (.iaload, 1) := by decide +kernel
theorem dX12_next_87 : decode cX12_next 87 = .ok (.iload 7, 2) := by decide +kernel
theorem dX12_next_89 : decode cX12_next 89 = .ok (.if_icmp .gt 9, 3) := by decide +kernel
theorem dX12_next_92 : decode cX12_next 92 = .ok (.iinc 5 1, 3) := by decide +kernel
theorem dX12_next_95 : decode cX12_next 95 = .ok (.goto 6, 3) := by decide +kernel
theorem dX12_next_98 : decode cX12_next 98 = .ok (.iinc 6 1, 3) := by decide +kernel
theorem dX12_next_101 : decode cX12_next 101 = .ok (.iinc 7 1, 3) := by decide +kernel
theorem dX12_next_104 : decode cX12_next 104 = .ok (.goto (-52), 3) := by decide +kernel
theorem dX12_next_107 : decode cX12_next 107 = .ok (.iload 5, 2) := by decide +kernel
theorem dX12_next_109 : decode cX12_next 109 = .ok (.iload 6, 2) := by decide +kernel
theorem dX12_next_111 : decode cX12_next 111 = .ok (.iadd, 1) := by decide +kernel
theorem dX12_next_112 : decode cX12_next 112 = .ok (.ifCond .eq 33, 3) := by decide +kernel
theorem dX12_next_115 : decode cX12_next 115 = .ok (.iload_n 3, 1) := by decide +kernel
theorem dX12_next_116 : decode cX12_next 116 = .ok (.iconst (-1), 1) := by decide +kernel
theorem dX12_next_117 : decode cX12_next 117 = .ok (.if_icmp .eq 17, 3) := by decide +kernel
theorem dX12_next_120 : decode cX12_next 120 = .ok (.iload 5, 2) := by decide +kernel
theorem dX12_next_122 : decode cX12_next 122 = .ok (.iload 6, 2) := by decide +kernel
theorem dX12_next_124 : decode cX12_next 124 = .ok (.invokestatic 599, 3) := by decide +kernel
theorem dX12_next_127 : decode cX12_next 127 = .ok (.iload_n 3, 1) := by decide +kernel
theorem dX12_next_128 : decode cX12_next 128 = .ok (.if_icmp .lt 6, 3) := by decide +kernel
theorem dX12_next_131 : decode cX12_next 131 = .ok (.goto 14, 3) := by decide +kernel
theorem dX12_next_134 : decode cX12_next 134 = .ok (.iload 5, 2) := by decide +kernel
theorem dX12_next_136 : decode cX12_next 136 = .ok (.iload 6, 2) := by decide +kernel
theorem dX12_next_138 : decode cX12_next 138 = .ok (.invokestatic 599, 3) := by decide +kernel
theorem dX12_next_141 : decode cX12_next 141 = .ok (.istore_n 3, 1) := by decide +kernel
theorem dX12_next_142 : decode cX12_next 142 = .ok (.iload 4, 2) := by decide +kernel
theorem dX12_next_144 : decode cX12_next 144 = .ok (.istore_n 2, 1) := by decide +kernel
theorem dX12_next_145 : decode cX12_next 145 = .ok (.iinc 4 1, 3) := by decide +kernel
theorem dX12_next_148 : decode cX12_next 148 = .ok (.goto (-114), 3) := by decide +kernel
theorem dX12_next_151 : decode cX12_next 151 = .ok (.iload_n 1, 1) := by decide +kernel
theorem dX12_next_152 : decode cX12_next 152 = .ok (.ifCond .ne 7, 3) := by decide +kernel
theorem dX12_next_155 : decode cX12_next 155 = .ok (.iload_n 2, 1) := by decide +kernel
theorem dX12_next_156 : decode cX12_next 156 = .ok (.goto 4, 3) := by decide +kernel
theorem dX12_next_159 : decode cX12_next 159 = .ok (.iload_n 3, 1) := by decide +kernel
theorem dX12_next_160 : decode cX12_next 160 = .ok (.ireturn, 1) := by decide +kernel
theorem dX12_keeps_0 : decode cX12_keeps 0 = .ok (.aload_n 0, 1) := by decide +kernel
theorem dX12_keeps_1 : decode cX12_keeps 1 = .ok (.aload_n 0, 1) := by decide +kernel
theorem dX12_keeps_2 : decode cX12_keeps 2 = .ok (.getfield 653, 3) := by decide +kernel
theorem dX12_keeps_5 : decode cX12_keeps 5 = .ok (.iconst 1, 1) := by decide +kernel
theorem dX12_keeps_6 : decode cX12_keeps 6 = .ok (.iadd, 1) := by decide +kernel
theorem dX12_keeps_7 : decode cX12_keeps 7 = .ok (.bipush 20, 2) := by decide +kernel
theorem dX12_keeps_9 : decode cX12_keeps 9 = .ok (.irem, 1) := by decide +kernel
theorem dX12_keeps_10 : decode cX12_keeps 10 = .ok (.putfield 653, 3) := by decide +kernel
theorem dX12_keeps_13 : decode cX12_keeps 13 = .ok (.iconst 0, 1) := by decide +kernel
theorem dX12_keeps_14 : decode cX12_keeps 14 = .ok (.istore_n 1, 1) := by decide +kernel
theorem dX12_keeps_15 : decode cX12_keeps 15 = .ok (.iload_n 1, 1) := by decide +kernel
theorem dX12_keeps_16 : decode cX12_keeps 16 = .ok (.sipush 187, 3) := by decide +kernel
theorem dX12_keeps_19 : decode cX12_keeps 19 = .ok (.if_icmp .ge 30, 3) := by decide +kernel
theorem dX12_keeps_22 : decode cX12_keeps 22 = .ok (.aload_n 0, 1) := by decide +kernel
theorem dX12_keeps_23 : decode cX12_keeps 23 = .ok (.getfield 193, 3) := by decide +kernel
theorem dX12_keeps_26 : decode cX12_keeps 26 = .ok (.sipush 187, 3) := by decide +kernel
theorem dX12_keeps_29 : decode cX12_keeps 29 = .ok (.aload_n 0, 1) := by decide +kernel
theorem dX12_keeps_30 : decode cX12_keeps 30 = .ok (.getfield 653, 3) := by decide +kernel
theorem dX12_keeps_33 : decode cX12_keeps 33 = .ok (.imul, 1) := by decide +kernel
theorem dX12_keeps_34 : decode cX12_keeps 34 = .ok (.iload_n 1, 1) := by decide +kernel
theorem dX12_keeps_35 : decode cX12_keeps 35 = .ok (.iadd, 1) := by decide +kernel
theorem dX12_keeps_36 : decode cX12_keeps 36 = .ok (.aload_n 0, 1) := by decide +kernel
theorem dX12_keeps_37 : decode cX12_keeps 37 = .ok (.getfield 166, 3) := by decide +kernel
theorem dX12_keeps_40 : decode cX12_keeps 40 = .ok (.iload_n 1, 1) := by decide +kernel
theorem dX12_keeps_41 : decode cX12_keeps 41 = .ok (.iaload, 1) := by decide +kernel
theorem dX12_keeps_42 : decode cX12_keeps 42 = .ok (.iastore, 1) := by decide +kernel
theorem dX12_keeps_43 : decode cX12_keeps 43 = .ok (.iinc 1 1, 3) := by decide +kernel
theorem dX12_keeps_46 : decode cX12_keeps 46 = .ok (.goto (-31), 3) := by decide +kernel
theorem dX12_keeps_49 : decode cX12_keeps 49 = .ok (.aload_n 0, 1) := by decide +kernel
theorem dX12_keeps_50 : decode cX12_keeps 50 = .ok (.getfield 425, 3) := by decide +kernel
theorem dX12_keeps_53 : decode cX12_keeps 53 = .ok (.bipush 20, 2) := by decide +kernel
theorem dX12_keeps_55 : decode cX12_keeps 55 = .ok (.if_icmp .ge 13, 3) := by decide +kernel
theorem dX12_keeps_58 : decode cX12_keeps 58 = .ok (.aload_n 0, 1) := by decide +kernel
theorem dX12_keeps_59 : decode cX12_keeps 59 = .ok (.dup, 1) := by decide +kernel
theorem dX12_keeps_60 : decode cX12_keeps 60 = .ok (.getfield 425, 3) := by decide +kernel
theorem dX12_keeps_63 : decode cX12_keeps 63 = .ok (.iconst 1, 1) := by decide +kernel
theorem dX12_keeps_64 : decode cX12_keeps 64 = .ok (.iadd, 1) := by decide +kernel
theorem dX12_keeps_65 : decode cX12_keeps 65 = .ok (.putfield 425, 3) := by decide +kernel
theorem dX12_keeps_68 : decode cX12_keeps 68 = .ok (.return_, 1) := by decide +kernel
theorem dX12_undo_0 : decode cX12_undo 0 = .ok (.aload_n 0, 1) := by decide +kernel
theorem dX12_undo_1 : decode cX12_undo 1 = .ok (.getfield 425, 3) := by decide +kernel
theorem dX12_undo_4 : decode cX12_undo 4 = .ok (.ifCond .ne 15, 3) := by decide +kernel
theorem dX12_undo_7 : decode cX12_undo 7 = .ok (.aload_n 0, 1) := by decide +kernel
theorem dX12_undo_8 : decode cX12_undo 8 = .ok (.getfield 17, 3) := by decide +kernel
theorem dX12_undo_11 : decode cX12_undo 11 = .ok (.iconst 4, 1) := by decide +kernel
theorem dX12_undo_12 : decode cX12_undo 12 = .ok (.dup2, 1) := by decide +kernel
theorem dX12_undo_13 : decode cX12_undo 13 = .ok (.iaload, 1) := by decide +kernel
theorem dX12_undo_14 : decode cX12_undo 14 = .ok (.iconst 1, 1) := by decide +kernel
theorem dX12_undo_15 : decode cX12_undo 15 = .ok (.iadd, 1) := by decide +kernel
theorem dX12_undo_16 : decode cX12_undo 16 = .ok (.iastore, 1) := by decide +kernel
theorem dX12_undo_17 : decode cX12_undo 17 = .ok (.iconst 0, 1) := by decide +kernel
theorem dX12_undo_18 : decode cX12_undo 18 = .ok (.ireturn, 1) := by decide +kernel
theorem dX12_undo_19 : decode cX12_undo 19 = .ok (.iconst 0, 1) := by decide +kernel
theorem dX12_undo_20 : decode cX12_undo 20 = .ok (.istore_n 1, 1) := by decide +kernel
theorem dX12_undo_21 : decode cX12_undo 21 = .ok (.iload_n 1, 1) := by decide +kernel
theorem dX12_undo_22 : decode cX12_undo 22 = .ok (.sipush 187, 3) := by decide +kernel
theorem dX12_undo_25 : decode cX12_undo 25 = .ok (.if_icmp .ge 30, 3) := by decide +kernel
theorem dX12_undo_28 : decode cX12_undo 28 = .ok (.aload_n 0, 1) := by decide +kernel
theorem dX12_undo_29 : decode cX12_undo 29 = .ok (.getfield 166, 3) := by decide +kernel
theorem dX12_undo_32 : decode cX12_undo 32 = .ok (.iload_n 1, 1) := by decide +kernel
theorem dX12_undo_33 : decode cX12_undo 33 = .ok (.aload_n 0, 1) := by decide +kernel
theorem dX12_undo_34 : decode cX12_undo 34 = .ok (.getfield 193, 3) := by decide +kernel
theorem dX12_undo_37 : decode cX12_undo 37 = .ok (.sipush 187, 3) := by decide +kernel
theorem dX12_undo_40 : decode cX12_undo 40 = .ok (.aload_n 0, 1) := by decide +kernel
theorem dX12_undo_41 : decode cX12_undo 41 = .ok (.getfield 653, 3) := by decide +kernel
theorem dX12_undo_44 : decode cX12_undo 44 = .ok (.imul, 1) := by decide +kernel
theorem dX12_undo_45 : decode cX12_undo 45 = .ok (.iload_n 1, 1) := by decide +kernel
theorem dX12_undo_46 : decode cX12_undo 46 = .ok (.iadd, 1) := by decide +kernel
theorem dX12_undo_47 : decode cX12_undo 47 = .ok (.iaload, 1) := by decide +kernel
theorem dX12_undo_48 : decode cX12_undo 48 = .ok (.iastore, 1) := by decide +kernel
theorem dX12_undo_49 : decode cX12_undo 49 = .ok (.iinc 1 1, 3) := by decide +kernel
theorem dX12_undo_52 : decode cX12_undo 52 = .ok (.goto (-31), 3) := by decide +kernel
theorem dX12_undo_55 : decode cX12_undo 55 = .ok (.aload_n 0, 1) := by decide +kernel
theorem dX12_undo_56 : decode cX12_undo 56 = .ok (.aload_n 0, 1) := by decide +kernel
theorem dX12_undo_57 : decode cX12_undo 57 = .ok (.getfield 653, 3) := by decide +kernel
theorem dX12_undo_60 : decode cX12_undo 60 = .ok (.bipush 20, 2) := by decide +kernel
theorem dX12_undo_62 : decode cX12_undo 62 = .ok (.iadd, 1) := by decide +kernel
theorem dX12_undo_63 : decode cX12_undo 63 = .ok (.iconst 1, 1) := by decide +kernel
theorem dX12_undo_64 : decode cX12_undo 64 = .ok (.isub, 1) := by decide +kernel
theorem dX12_undo_65 : decode cX12_undo 65 = .ok (.bipush 20, 2) := by decide +kernel
theorem dX12_undo_67 : decode cX12_undo 67 = .ok (.irem, 1) := by decide +kernel
theorem dX12_undo_68 : decode cX12_undo 68 = .ok (.putfield 653, 3) := by decide +kernel
theorem dX12_undo_71 : decode cX12_undo 71 = .ok (.aload_n 0, 1) := by decide +kernel
theorem dX12_undo_72 : decode cX12_undo 72 = .ok (.dup, 1) := by decide +kernel
theorem dX12_undo_73 : decode cX12_undo 73 = .ok (.getfield 425, 3) := by decide +kernel
theorem dX12_undo_76 : decode cX12_undo 76 = .ok (.iconst 1, 1) := by decide +kernel
theorem dX12_undo_77 : decode cX12_undo 77 = .ok (.isub, 1) := by decide +kernel
theorem dX12_undo_78 : decode cX12_undo 78 = .ok (.putfield 425, 3) := by decide +kernel
theorem dX12_undo_81 : decode cX12_undo 81 = .ok (.iconst 1, 1) := by decide +kernel
theorem dX12_undo_82 : decode cX12_undo 82 = .ok (.ireturn, 1) := by decide +kernel
theorem dX12_refuses_0 : decode cX12_refuses 0 = .ok (.aload_n 0, 1) := by decide +kernel
theorem dX12_refuses_1 : decode cX12_refuses 1 = .ok (.getfield 17, 3) := by decide +kernel
theorem dX12_refuses_4 : decode cX12_refuses 4 = .ok (.iload_n 1, 1) := by decide +kernel
theorem dX12_refuses_5 : decode cX12_refuses 5 = .ok (.dup2, 1) := by decide +kernel
theorem dX12_refuses_6 : decode cX12_refuses 6 = .ok (.iaload, 1) := by decide +kernel
theorem dX12_refuses_7 : decode cX12_refuses 7 = .ok (.iconst 1, 1) := by decide +kernel
theorem dX12_refuses_8 : decode cX12_refuses 8 = .ok (.iadd, 1) := by decide +kernel
theorem dX12_refuses_9 : decode cX12_refuses 9 = .ok (.iastore, 1) := by decide +kernel
theorem dX12_refuses_10 : decode cX12_refuses 10 = .ok (.iconst (-1), 1) := by decide +kernel
theorem dX12_refuses_11 : decode cX12_refuses 11 = .ok (.ireturn, 1) := by decide +kernel
theorem dX12_go_0 : decode cX12_go 0 = .ok (.aload_n 0, 1) := by decide +kernel
theorem dX12_go_1 : decode cX12_go 1 = .ok (.iload_n 1, 1) := by decide +kernel
theorem dX12_go_2 : decode cX12_go 2 = .ok (.invokevirtual 564, 3) := by decide +kernel
theorem dX12_go_5 : decode cX12_go 5 = .ok (.ifCond .eq 16, 3) := by decide +kernel
theorem dX12_go_8 : decode cX12_go 8 = .ok (.aload_n 0, 1) := by decide +kernel
theorem dX12_go_9 : decode cX12_go 9 = .ok (.aload_n 0, 1) := by decide +kernel
theorem dX12_go_10 : decode cX12_go 10 = .ok (.iload_n 1, 1) := by decide +kernel
theorem dX12_go_11 : decode cX12_go 11 = .ok (.invokevirtual 504, 3) := by decide +kernel
theorem dX12_go_14 : decode cX12_go 14 = .ok (.iload_n 2, 1) := by decide +kernel
theorem dX12_go_15 : decode cX12_go 15 = .ok (.invokevirtual 608, 3) := by decide +kernel
theorem dX12_go_18 : decode cX12_go 18 = .ok (.ifCond .ne 9, 3) := by decide +kernel
theorem dX12_go_21 : decode cX12_go 21 = .ok (.aload_n 0, 1) := by decide +kernel
theorem dX12_go_22 : decode cX12_go 22 = .ok (.iconst 2, 1) := by decide +kernel
theorem dX12_go_23 : decode cX12_go 23 = .ok (.invokevirtual 656, 3) := by decide +kernel
theorem dX12_go_26 : decode cX12_go 26 = .ok (.ireturn, 1) := by decide +kernel
theorem dX12_go_27 : decode cX12_go 27 = .ok (.aload_n 0, 1) := by decide +kernel
theorem dX12_go_28 : decode cX12_go 28 = .ok (.invokevirtual 659, 3) := by decide +kernel
theorem dX12_go_31 : decode cX12_go 31 = .ok (.aload_n 0, 1) := by decide +kernel
theorem dX12_go_32 : decode cX12_go 32 = .ok (.iload_n 1, 1) := by decide +kernel
theorem dX12_go_33 : decode cX12_go 33 = .ok (.iload_n 2, 1) := by decide +kernel
theorem dX12_go_34 : decode cX12_go 34 = .ok (.iconst (-1), 1) := by decide +kernel
theorem dX12_go_35 : decode cX12_go 35 = .ok (.invokevirtual 612, 3) := by decide +kernel
theorem dX12_go_38 : decode cX12_go 38 = .ok (.ifCond .eq 7, 3) := by decide +kernel
theorem dX12_go_41 : decode cX12_go 41 = .ok (.iconst 1, 1) := by decide +kernel
theorem dX12_go_42 : decode cX12_go 42 = .ok (.goto 4, 3) := by decide +kernel
theorem dX12_go_45 : decode cX12_go 45 = .ok (.iconst 0, 1) := by decide +kernel
theorem dX12_go_46 : decode cX12_go 46 = .ok (.ireturn, 1) := by decide +kernel
theorem dX12_file_0 : decode cX12_file 0 = .ok (.aload_n 0, 1) := by decide +kernel
theorem dX12_file_1 : decode cX12_file 1 = .ok (.getfield 275, 3) := by decide +kernel
theorem dX12_file_4 : decode cX12_file 4 = .ok (.istore_n 2, 1) := by decide +kernel
theorem dX12_file_5 : decode cX12_file 5 = .ok (.aload_n 0, 1) := by decide +kernel
theorem dX12_file_6 : decode cX12_file 6 = .ok (.iconst 0, 1) := by decide +kernel
theorem dX12_file_7 : decode cX12_file 7 = .ok (.putfield 275, 3) := by decide +kernel
theorem dX12_file_10 : decode cX12_file 10 = .ok (.iconst 0, 1) := by decide +kernel
theorem dX12_file_11 : decode cX12_file 11 = .ok (.istore_n 3, 1) := by decide +kernel
theorem dX12_file_12 : decode cX12_file 12 = .ok (.iload_n 2, 1) := by decide +kernel
theorem dX12_file_13 : decode cX12_file 13 = .ok (.i2l, 1) := by decide +kernel
theorem dX12_file_14 : decode cX12_file 14 = .ok (.lconst 1, 1) := by decide +kernel
theorem dX12_file_15 : decode cX12_file 15 = .ok (.ldc2_w 662, 3) := by decide +kernel
theorem dX12_file_18 : decode cX12_file 18 = .ok (.invokestatic 321, 3) := by decide +kernel
theorem dX12_file_21 : decode cX12_file 21 = .ok (.istore 4, 2) := by decide +kernel
theorem dX12_file_23 : decode cX12_file 23 = .ok (.iconst 0, 1) := by decide +kernel
theorem dX12_file_24 : decode cX12_file 24 = .ok (.istore 5, 2) := by decide +kernel
theorem dX12_file_26 : decode cX12_file 26 = .ok (.iload 5, 2) := by decide +kernel
theorem dX12_file_28 : decode cX12_file 28 = .ok (.iload_n 2, 1) := by decide +kernel
theorem dX12_file_29 : decode cX12_file 29 = .ok (.if_icmp .ge 83, 3) := by decide +kernel
theorem dX12_file_32 : decode cX12_file 32 = .ok (.iload 4, 2) := by decide +kernel
theorem dX12_file_34 : decode cX12_file 34 = .ok (.ifCond .eq 78, 3) := by decide +kernel
theorem dX12_file_37 : decode cX12_file 37 = .ok (.aload_n 0, 1) := by decide +kernel
theorem dX12_file_38 : decode cX12_file 38 = .ok (.aload_n 0, 1) := by decide +kernel
theorem dX12_file_39 : decode cX12_file 39 = .ok (.getfield 7, 3) := by decide +kernel
theorem dX12_file_42 : decode cX12_file 42 = .ok (.iload 5, 2) := by decide +kernel
theorem dX12_file_44 : decode cX12_file 44 = .ok (.iaload, 1) := by decide +kernel
theorem dX12_file_45 : decode cX12_file 45 = .ok (.invokevirtual 564, 3) := by decide +kernel
theorem dX12_file_48 : decode cX12_file 48 = .ok (.ifCond .eq 21, 3) := by decide +kernel
theorem dX12_file_51 : decode cX12_file 51 = .ok (.iload_n 3, 1) := by decide +kernel
theorem dX12_file_52 : decode cX12_file 52 = .ok (.aload_n 0, 1) := by decide +kernel
theorem dX12_file_53 : decode cX12_file 53 = .ok (.getfield 7, 3) := by decide +kernel
theorem dX12_file_56 : decode cX12_file 56 = .ok (.iload 5, 2) := by decide +kernel
theorem dX12_file_58 : decode cX12_file 58 = .ok (.iaload, 1) := by decide +kernel
theorem dX12_file_59 : decode cX12_file 59 = .ok (.ishr, 1) := by decide +kernel
theorem dX12_file_60 : decode cX12_file 60 = .ok (.iconst 1, 1) := by decide +kernel
theorem dX12_file_61 : decode cX12_file 61 = .ok (.iand, 1) := by decide +kernel
theorem dX12_file_62 : decode cX12_file 62 = .ok (.ifCond .ne 7, 3) := by decide +kernel
theorem dX12_file_65 : decode cX12_file 65 = .ok (.iconst 1, 1) := by decide +kernel
theorem dX12_file_66 : decode cX12_file 66 = .ok (.goto 4, 3) := by decide +kernel
theorem dX12_file_69 : decode cX12_file 69 = .ok (.iconst 0, 1) := by decide +kernel
theorem dX12_file_70 : decode cX12_file 70 = .ok (.istore 4, 2) := by decide +kernel
theorem dX12_file_72 : decode cX12_file 72 = .ok (.iload 4, 2) := by decide +kernel
theorem dX12_file_74 : decode cX12_file 74 = .ok (.ifCond .ne 6, 3) := by decide +kernel
theorem dX12_file_77 : decode cX12_file 77 = .ok (.goto 29, 3) := by decide +kernel
theorem dX12_file_80 : decode cX12_file 80 = .ok (.iload_n 3, 1) := by decide +kernel
theorem dX12_file_81 : decode cX12_file 81 = .ok (.iconst 1, 1) := by decide +kernel
theorem dX12_file_82 : decode cX12_file 82 = .ok (.aload_n 0, 1) := by decide +kernel
theorem dX12_file_83 : decode cX12_file 83 = .ok (.getfield 7, 3) := by decide +kernel
theorem dX12_file_86 : decode cX12_file 86 = .ok (.iload 5, 2) := by decide +kernel
theorem dX12_file_88 : decode cX12_file 88 = .ok (.iaload, 1) := by decide +kernel
theorem dX12_file_89 : decode cX12_file 89 = .ok (.ishl, 1) := by decide +kernel
theorem dX12_file_90 : decode cX12_file 90 = .ok (.ior, 1) := by decide +kernel
theorem dX12_file_91 : decode cX12_file 91 = .ok (.istore_n 3, 1) := by decide +kernel
theorem dX12_file_92 : decode cX12_file 92 = .ok (.aload_n 0, 1) := by decide +kernel
theorem dX12_file_93 : decode cX12_file 93 = .ok (.getfield 178, 3) := by decide +kernel
theorem dX12_file_96 : decode cX12_file 96 = .ok (.iload 5, 2) := by decide +kernel
theorem dX12_file_98 : decode cX12_file 98 = .ok (.aload_n 0, 1) := by decide +kernel
theorem dX12_file_99 : decode cX12_file 99 = .ok (.getfield 7, 3) := by decide +kernel
theorem dX12_file_102 : decode cX12_file 102 = .ok (.iload 5, 2) := by decide +kernel
theorem dX12_file_104 : decode cX12_file 104 = .ok (.iaload, 1) := by decide +kernel
theorem dX12_file_105 : decode cX12_file 105 = .ok (.iastore, 1) := by decide +kernel
theorem dX12_file_106 : decode cX12_file 106 = .ok (.iinc 5 1, 3) := by decide +kernel
theorem dX12_file_109 : decode cX12_file 109 = .ok (.goto (-83), 3) := by decide +kernel
theorem dX12_file_112 : decode cX12_file 112 = .ok (.iload 4, 2) := by decide +kernel
theorem dX12_file_114 : decode cX12_file 114 = .ok (.ifCond .eq 12, 3) := by decide +kernel
theorem dX12_file_117 : decode cX12_file 117 = .ok (.aload_n 0, 1) := by decide +kernel
theorem dX12_file_118 : decode cX12_file 118 = .ok (.iload_n 3, 1) := by decide +kernel
theorem dX12_file_119 : decode cX12_file 119 = .ok (.iload_n 1, 1) := by decide +kernel
theorem dX12_file_120 : decode cX12_file 120 = .ok (.invokevirtual 615, 3) := by decide +kernel
theorem dX12_file_123 : decode cX12_file 123 = .ok (.ifCond .ne 9, 3) := by decide +kernel
theorem dX12_file_126 : decode cX12_file 126 = .ok (.aload_n 0, 1) := by decide +kernel
theorem dX12_file_127 : decode cX12_file 127 = .ok (.iconst 2, 1) := by decide +kernel
theorem dX12_file_128 : decode cX12_file 128 = .ok (.invokevirtual 656, 3) := by decide +kernel
theorem dX12_file_131 : decode cX12_file 131 = .ok (.ireturn, 1) := by decide +kernel
theorem dX12_file_132 : decode cX12_file 132 = .ok (.aload_n 0, 1) := by decide +kernel
theorem dX12_file_133 : decode cX12_file 133 = .ok (.invokevirtual 659, 3) := by decide +kernel
theorem dX12_file_136 : decode cX12_file 136 = .ok (.aload_n 0, 1) := by decide +kernel
theorem dX12_file_137 : decode cX12_file 137 = .ok (.iload_n 2, 1) := by decide +kernel
theorem dX12_file_138 : decode cX12_file 138 = .ok (.iload_n 1, 1) := by decide +kernel
theorem dX12_file_139 : decode cX12_file 139 = .ok (.invokevirtual 627, 3) := by decide +kernel
theorem dX12_file_142 : decode cX12_file 142 = .ok (.ireturn, 1) := by decide +kernel
theorem dX12_coax_0 : decode cX12_coax 0 = .ok (.aload_n 0, 1) := by decide +kernel
theorem dX12_coax_1 : decode cX12_coax 1 = .ok (.iload_n 1, 1) := by decide +kernel
theorem dX12_coax_2 : decode cX12_coax 2 = .ok (.invokevirtual 564, 3) := by decide +kernel
theorem dX12_coax_5 : decode cX12_coax 5 = .ok (.ifCond .eq 15, 3) := by decide +kernel
theorem dX12_coax_8 : decode cX12_coax 8 = .ok (.iload_n 2, 1) := by decide +kernel
theorem dX12_coax_9 : decode cX12_coax 9 = .ok (.i2l, 1) := by decide +kernel
theorem dX12_coax_10 : decode cX12_coax 10 = .ok (.lconst 1, 1) := by decide +kernel
theorem dX12_coax_11 : decode cX12_coax 11 = .ok (.ldc2_w 532, 3) := by decide +kernel
theorem dX12_coax_14 : decode cX12_coax 14 = .ok (.invokestatic 321, 3) := by decide +kernel
theorem dX12_coax_17 : decode cX12_coax 17 = .ok (.ifCond .ne 9, 3) := by decide +kernel
theorem dX12_coax_20 : decode cX12_coax 20 = .ok (.aload_n 0, 1) := by decide +kernel
theorem dX12_coax_21 : decode cX12_coax 21 = .ok (.iconst 3, 1) := by decide +kernel
theorem dX12_coax_22 : decode cX12_coax 22 = .ok (.invokevirtual 656, 3) := by decide +kernel
theorem dX12_coax_25 : decode cX12_coax 25 = .ok (.ireturn, 1) := by decide +kernel
theorem dX12_coax_26 : decode cX12_coax 26 = .ok (.aload_n 0, 1) := by decide +kernel
theorem dX12_coax_27 : decode cX12_coax 27 = .ok (.invokevirtual 659, 3) := by decide +kernel
theorem dX12_coax_30 : decode cX12_coax 30 = .ok (.aload_n 0, 1) := by decide +kernel
theorem dX12_coax_31 : decode cX12_coax 31 = .ok (.iload_n 1, 1) := by decide +kernel
theorem dX12_coax_32 : decode cX12_coax 32 = .ok (.invokevirtual 522, 3) := by decide +kernel
theorem dX12_coax_35 : decode cX12_coax 35 = .ok (.iload_n 2, 1) := by decide +kernel
theorem dX12_coax_36 : decode cX12_coax 36 = .ok (.aload_n 0, 1) := by decide +kernel
theorem dX12_coax_37 : decode cX12_coax 37 = .ok (.getfield 145, 3) := by decide +kernel
theorem dX12_coax_40 : decode cX12_coax 40 = .ok (.iconst 1, 1) := by decide +kernel
theorem dX12_coax_41 : decode cX12_coax 41 = .ok (.iaload, 1) := by decide +kernel
theorem dX12_coax_42 : decode cX12_coax 42 = .ok (.imul, 1) := by decide +kernel
theorem dX12_coax_43 : decode cX12_coax 43 = .ok (.iadd, 1) := by decide +kernel
theorem dX12_coax_44 : decode cX12_coax 44 = .ok (.istore_n 3, 1) := by decide +kernel
theorem dX12_coax_45 : decode cX12_coax 45 = .ok (.aload_n 0, 1) := by decide +kernel
theorem dX12_coax_46 : decode cX12_coax 46 = .ok (.getfield 166, 3) := by decide +kernel
theorem dX12_coax_49 : decode cX12_coax 49 = .ok (.iconst 2, 1) := by decide +kernel
theorem dX12_coax_50 : decode cX12_coax 50 = .ok (.iconst 4, 1) := by decide +kernel
theorem dX12_coax_51 : decode cX12_coax 51 = .ok (.iload_n 1, 1) := by decide +kernel
theorem dX12_coax_52 : decode cX12_coax 52 = .ok (.imul, 1) := by decide +kernel
theorem dX12_coax_53 : decode cX12_coax 53 = .ok (.iadd, 1) := by decide +kernel
theorem dX12_coax_54 : decode cX12_coax 54 = .ok (.iconst 1, 1) := by decide +kernel
theorem dX12_coax_55 : decode cX12_coax 55 = .ok (.iadd, 1) := by decide +kernel
theorem dX12_coax_56 : decode cX12_coax 56 = .ok (.iload_n 3, 1) := by decide +kernel
theorem dX12_coax_57 : decode cX12_coax 57 = .ok (.bipush 99, 2) := by decide +kernel
theorem dX12_coax_59 : decode cX12_coax 59 = .ok (.if_icmp .le 8, 3) := by decide +kernel
theorem dX12_coax_62 : decode cX12_coax 62 = .ok (.bipush 99, 2) := by decide +kernel
theorem dX12_coax_64 : decode cX12_coax 64 = .ok (.goto 4, 3) := by decide +kernel
theorem dX12_coax_67 : decode cX12_coax 67 = .ok (.iload_n 3, 1) := by decide +kernel
theorem dX12_coax_68 : decode cX12_coax 68 = .ok (.iastore, 1) := by decide +kernel
theorem dX12_coax_69 : decode cX12_coax 69 = .ok (.aload_n 0, 1) := by decide +kernel
theorem dX12_coax_70 : decode cX12_coax 70 = .ok (.getfield 166, 3) := by decide +kernel
theorem dX12_coax_73 : decode cX12_coax 73 = .ok (.iconst 1, 1) := by decide +kernel
theorem dX12_coax_74 : decode cX12_coax 74 = .ok (.iaload, 1) := by decide +kernel
theorem dX12_coax_75 : decode cX12_coax 75 = .ok (.iload_n 2, 1) := by decide +kernel
theorem dX12_coax_76 : decode cX12_coax 76 = .ok (.iadd, 1) := by decide +kernel
theorem dX12_coax_77 : decode cX12_coax 77 = .ok (.istore 4, 2) := by decide +kernel
theorem dX12_coax_79 : decode cX12_coax 79 = .ok (.aload_n 0, 1) := by decide +kernel
theorem dX12_coax_80 : decode cX12_coax 80 = .ok (.getfield 166, 3) := by decide +kernel
theorem dX12_coax_83 : decode cX12_coax 83 = .ok (.iconst 1, 1) := by decide +kernel
theorem dX12_coax_84 : decode cX12_coax 84 = .ok (.iload 4, 2) := by decide +kernel
theorem dX12_coax_86 : decode cX12_coax 86 = .ok (.ldc_w 664, 3) := by decide +kernel
theorem dX12_coax_89 : decode cX12_coax 89 = .ok (.if_icmp .le 9, 3) := by decide +kernel
theorem dX12_coax_92 : decode cX12_coax 92 = .ok (.ldc_w 664, 3) := by decide +kernel
theorem dX12_coax_95 : decode cX12_coax 95 = .ok (.goto 5, 3) := by decide +kernel
theorem dX12_coax_98 : decode cX12_coax 98 = .ok (.iload 4, 2) := by decide +kernel
theorem dX12_coax_100 : decode cX12_coax 100 = .ok (.iastore, 1) := by decide +kernel
theorem dX12_coax_101 : decode cX12_coax 101 = .ok (.aload_n 0, 1) := by decide +kernel
theorem dX12_coax_102 : decode cX12_coax 102 = .ok (.iload_n 1, 1) := by decide +kernel
theorem dX12_coax_103 : decode cX12_coax 103 = .ok (.invokevirtual 522, 3) := by decide +kernel
theorem dX12_coax_106 : decode cX12_coax 106 = .ok (.ireturn, 1) := by decide +kernel
theorem dX12_man_0 : decode cX12_man 0 = .ok (.aload_n 0, 1) := by decide +kernel
theorem dX12_man_1 : decode cX12_man 1 = .ok (.iload_n 1, 1) := by decide +kernel
theorem dX12_man_2 : decode cX12_man 2 = .ok (.invokevirtual 564, 3) := by decide +kernel
theorem dX12_man_5 : decode cX12_man 5 = .ok (.ifCond .eq 25, 3) := by decide +kernel
theorem dX12_man_8 : decode cX12_man 8 = .ok (.iload_n 2, 1) := by decide +kernel
theorem dX12_man_9 : decode cX12_man 9 = .ok (.iconst (-1), 1) := by decide +kernel
theorem dX12_man_10 : decode cX12_man 10 = .ok (.if_icmp .eq 11, 3) := by decide +kernel
theorem dX12_man_13 : decode cX12_man 13 = .ok (.aload_n 0, 1) := by decide +kernel
theorem dX12_man_14 : decode cX12_man 14 = .ok (.iload_n 2, 1) := by decide +kernel
theorem dX12_man_15 : decode cX12_man 15 = .ok (.invokevirtual 575, 3) := by decide +kernel
theorem dX12_man_18 : decode cX12_man 18 = .ok (.ifCond .eq 12, 3) := by decide +kernel
theorem dX12_man_21 : decode cX12_man 21 = .ok (.aload_n 0, 1) := by decide +kernel
theorem dX12_man_22 : decode cX12_man 22 = .ok (.iload_n 1, 1) := by decide +kernel
theorem dX12_man_23 : decode cX12_man 23 = .ok (.invokevirtual 519, 3) := by decide +kernel
theorem dX12_man_26 : decode cX12_man 26 = .ok (.iload_n 2, 1) := by decide +kernel
theorem dX12_man_27 : decode cX12_man 27 = .ok (.if_icmp .ne 15, 3) := by decide +kernel
theorem dX12_man_30 : decode cX12_man 30 = .ok (.aload_n 0, 1) := by decide +kernel
theorem dX12_man_31 : decode cX12_man 31 = .ok (.getfield 17, 3) := by decide +kernel
theorem dX12_man_34 : decode cX12_man 34 = .ok (.iconst 3, 1) := by decide +kernel
theorem dX12_man_35 : decode cX12_man 35 = .ok (.dup2, 1) := by decide +kernel
theorem dX12_man_36 : decode cX12_man 36 = .ok (.iaload, 1) := by decide +kernel
theorem dX12_man_37 : decode cX12_man 37 = .ok (.iconst 1, 1) := by decide +kernel
theorem dX12_man_38 : decode cX12_man 38 = .ok (.iadd, 1) := by decide +kernel
theorem dX12_man_39 : decode cX12_man 39 = .ok (.iastore, 1) := by decide +kernel
theorem dX12_man_40 : decode cX12_man 40 = .ok (.iconst 0, 1) := by decide +kernel
theorem dX12_man_41 : decode cX12_man 41 = .ok (.ireturn, 1) := by decide +kernel
theorem dX12_man_42 : decode cX12_man 42 = .ok (.aload_n 0, 1) := by decide +kernel
theorem dX12_man_43 : decode cX12_man 43 = .ok (.invokevirtual 659, 3) := by decide +kernel
theorem dX12_man_46 : decode cX12_man 46 = .ok (.iload_n 2, 1) := by decide +kernel
theorem dX12_man_47 : decode cX12_man 47 = .ok (.iconst (-1), 1) := by decide +kernel
theorem dX12_man_48 : decode cX12_man 48 = .ok (.if_icmp .ne 7, 3) := by decide +kernel
theorem dX12_man_51 : decode cX12_man 51 = .ok (.iconst (-1), 1) := by decide +kernel
theorem dX12_man_52 : decode cX12_man 52 = .ok (.goto 8, 3) := by decide +kernel
theorem dX12_man_55 : decode cX12_man 55 = .ok (.aload_n 0, 1) := by decide +kernel
theorem dX12_man_56 : decode cX12_man 56 = .ok (.iload_n 2, 1) := by decide +kernel
theorem dX12_man_57 : decode cX12_man 57 = .ok (.invokevirtual 578, 3) := by decide +kernel
theorem dX12_man_60 : decode cX12_man 60 = .ok (.istore_n 3, 1) := by decide +kernel
theorem dX12_man_61 : decode cX12_man 61 = .ok (.iload_n 3, 1) := by decide +kernel
theorem dX12_man_62 : decode cX12_man 62 = .ok (.iconst (-1), 1) := by decide +kernel
theorem dX12_man_63 : decode cX12_man 63 = .ok (.if_icmp .eq 16, 3) := by decide +kernel
theorem dX12_man_66 : decode cX12_man 66 = .ok (.aload_n 0, 1) := by decide +kernel
theorem dX12_man_67 : decode cX12_man 67 = .ok (.getfield 166, 3) := by decide +kernel
theorem dX12_man_70 : decode cX12_man 70 = .ok (.iconst 2, 1) := by decide +kernel
theorem dX12_man_71 : decode cX12_man 71 = .ok (.iconst 4, 1) := by decide +kernel
theorem dX12_man_72 : decode cX12_man 72 = .ok (.iload_n 3, 1) := by decide +kernel
theorem dX12_man_73 : decode cX12_man 73 = .ok (.imul, 1) := by decide +kernel
theorem dX12_man_74 : decode cX12_man 74 = .ok (.iadd, 1) := by decide +kernel
theorem dX12_man_75 : decode cX12_man 75 = .ok (.iconst 3, 1) := by decide +kernel
theorem dX12_man_76 : decode cX12_man 76 = .ok (.iadd, 1) := by decide +kernel
theorem dX12_man_77 : decode cX12_man 77 = .ok (.iconst (-1), 1) := by decide +kernel
theorem dX12_man_78 : decode cX12_man 78 = .ok (.iastore, 1) := by decide +kernel
theorem dX12_man_79 : decode cX12_man 79 = .ok (.aload_n 0, 1) := by decide +kernel
theorem dX12_man_80 : decode cX12_man 80 = .ok (.getfield 166, 3) := by decide +kernel
theorem dX12_man_83 : decode cX12_man 83 = .ok (.iconst 2, 1) := by decide +kernel
theorem dX12_man_84 : decode cX12_man 84 = .ok (.iconst 4, 1) := by decide +kernel
theorem dX12_man_85 : decode cX12_man 85 = .ok (.iload_n 1, 1) := by decide +kernel
theorem dX12_man_86 : decode cX12_man 86 = .ok (.imul, 1) := by decide +kernel
theorem dX12_man_87 : decode cX12_man 87 = .ok (.iadd, 1) := by decide +kernel
theorem dX12_man_88 : decode cX12_man 88 = .ok (.iconst 3, 1) := by decide +kernel
theorem dX12_man_89 : decode cX12_man 89 = .ok (.iadd, 1) := by decide +kernel
theorem dX12_man_90 : decode cX12_man 90 = .ok (.iload_n 2, 1) := by decide +kernel
theorem dX12_man_91 : decode cX12_man 91 = .ok (.iastore, 1) := by decide +kernel
theorem dX12_man_92 : decode cX12_man 92 = .ok (.iconst 1, 1) := by decide +kernel
theorem dX12_man_93 : decode cX12_man 93 = .ok (.ireturn, 1) := by decide +kernel
theorem dX12_hours_0 : decode cX12_hours 0 = .ok (.aload_n 0, 1) := by decide +kernel
theorem dX12_hours_1 : decode cX12_hours 1 = .ok (.getfield 422, 3) := by decide +kernel
theorem dX12_hours_4 : decode cX12_hours 4 = .ok (.ifCond .eq 29, 3) := by decide +kernel
theorem dX12_hours_7 : decode cX12_hours 7 = .ok (.iload_n 1, 1) := by decide +kernel
theorem dX12_hours_8 : decode cX12_hours 8 = .ok (.i2l, 1) := by decide +kernel
theorem dX12_hours_9 : decode cX12_hours 9 = .ok (.lconst 1, 1) := by decide +kernel
theorem dX12_hours_10 : decode cX12_hours 10 = .ok (.ldc2_w 665, 3) := by decide +kernel
theorem dX12_hours_13 : decode cX12_hours 13 = .ok (.invokestatic 321, 3) := by decide +kernel
theorem dX12_hours_16 : decode cX12_hours 16 = .ok (.ifCond .eq 17, 3) := by decide +kernel
theorem dX12_hours_19 : decode cX12_hours 19 = .ok (.aload_n 0, 1) := by decide +kernel
theorem dX12_hours_20 : decode cX12_hours 20 = .ok (.getfield 166, 3) := by decide +kernel
theorem dX12_hours_23 : decode cX12_hours 23 = .ok (.iconst 0, 1) := by decide +kernel
theorem dX12_hours_24 : decode cX12_hours 24 = .ok (.iaload, 1) := by decide +kernel
theorem dX12_hours_25 : decode cX12_hours 25 = .ok (.iload_n 1, 1) := by decide +kernel
theorem dX12_hours_26 : decode cX12_hours 26 = .ok (.iadd, 1) := by decide +kernel
theorem dX12_hours_27 : decode cX12_hours 27 = .ok (.sipush 999, 3) := by decide +kernel
theorem dX12_hours_30 : decode cX12_hours 30 = .ok (.if_icmp .le 9, 3) := by decide +kernel
theorem dX12_hours_33 : decode cX12_hours 33 = .ok (.aload_n 0, 1) := by decide +kernel
theorem dX12_hours_34 : decode cX12_hours 34 = .ok (.iconst 3, 1) := by decide +kernel
theorem dX12_hours_35 : decode cX12_hours 35 = .ok (.invokevirtual 656, 3) := by decide +kernel
theorem dX12_hours_38 : decode cX12_hours 38 = .ok (.ireturn, 1) := by decide +kernel
theorem dX12_hours_39 : decode cX12_hours 39 = .ok (.aload_n 0, 1) := by decide +kernel
theorem dX12_hours_40 : decode cX12_hours 40 = .ok (.invokevirtual 659, 3) := by decide +kernel
theorem dX12_hours_43 : decode cX12_hours 43 = .ok (.aload_n 0, 1) := by decide +kernel
theorem dX12_hours_44 : decode cX12_hours 44 = .ok (.getfield 166, 3) := by decide +kernel
theorem dX12_hours_47 : decode cX12_hours 47 = .ok (.iconst 0, 1) := by decide +kernel
theorem dX12_hours_48 : decode cX12_hours 48 = .ok (.dup2, 1) := by decide +kernel
theorem dX12_hours_49 : decode cX12_hours 49 = .ok (.iaload, 1) := by decide +kernel
theorem dX12_hours_50 : decode cX12_hours 50 = .ok (.iload_n 1, 1) := by decide +kernel
theorem dX12_hours_51 : decode cX12_hours 51 = .ok (.iadd, 1) := by decide +kernel
theorem dX12_hours_52 : decode cX12_hours 52 = .ok (.iastore, 1) := by decide +kernel
theorem dX12_hours_53 : decode cX12_hours 53 = .ok (.aload_n 0, 1) := by decide +kernel
theorem dX12_hours_54 : decode cX12_hours 54 = .ok (.aload_n 0, 1) := by decide +kernel
theorem dX12_hours_55 : decode cX12_hours 55 = .ok (.getfield 166, 3) := by decide +kernel
theorem dX12_hours_58 : decode cX12_hours 58 = .ok (.iconst 0, 1) := by decide +kernel
theorem dX12_hours_59 : decode cX12_hours 59 = .ok (.iaload, 1) := by decide +kernel
theorem dX12_hours_60 : decode cX12_hours 60 = .ok (.invokevirtual 513, 3) := by decide +kernel
theorem dX12_hours_63 : decode cX12_hours 63 = .ok (.ireturn, 1) := by decide +kernel
theorem dX12_seed_0 : decode cX12_seed 0 = .ok (.iload_n 1, 1) := by decide +kernel
theorem dX12_seed_1 : decode cX12_seed 1 = .ok (.ifCond .ge 15, 3) := by decide +kernel
theorem dX12_seed_4 : decode cX12_seed 4 = .ok (.aload_n 0, 1) := by decide +kernel
theorem dX12_seed_5 : decode cX12_seed 5 = .ok (.getfield 17, 3) := by decide +kernel
theorem dX12_seed_8 : decode cX12_seed 8 = .ok (.iconst 5, 1) := by decide +kernel
theorem dX12_seed_9 : decode cX12_seed 9 = .ok (.dup2, 1) := by decide +kernel
theorem dX12_seed_10 : decode cX12_seed 10 = .ok (.iaload, 1) := by decide +kernel
theorem dX12_seed_11 : decode cX12_seed 11 = .ok (.iconst 1, 1) := by decide +kernel
theorem dX12_seed_12 : decode cX12_seed 12 = .ok (.iadd, 1) := by decide +kernel
theorem dX12_seed_13 : decode cX12_seed 13 = .ok (.iastore, 1) := by decide +kernel
theorem dX12_seed_14 : decode cX12_seed 14 = .ok (.iconst 0, 1) := by decide +kernel
theorem dX12_seed_15 : decode cX12_seed 15 = .ok (.ireturn, 1) := by decide +kernel
theorem dX12_seed_16 : decode cX12_seed 16 = .ok (.aload_n 0, 1) := by decide +kernel
theorem dX12_seed_17 : decode cX12_seed 17 = .ok (.iload_n 1, 1) := by decide +kernel
theorem dX12_seed_18 : decode cX12_seed 18 = .ok (.i2l, 1) := by decide +kernel
theorem dX12_seed_19 : decode cX12_seed 19 = .ok (.putfield 196, 3) := by decide +kernel
theorem dX12_seed_22 : decode cX12_seed 22 = .ok (.iconst 1, 1) := by decide +kernel
theorem dX12_seed_23 : decode cX12_seed 23 = .ok (.ireturn, 1) := by decide +kernel
theorem dX12_drawOf_0 : decode cX12_drawOf 0 = .ok (.aload_n 0, 1) := by decide +kernel
theorem dX12_drawOf_1 : decode cX12_drawOf 1 = .ok (.ldc2_w 667, 3) := by decide +kernel
theorem dX12_drawOf_4 : decode cX12_drawOf 4 = .ok (.aload_n 0, 1) := by decide +kernel
theorem dX12_drawOf_5 : decode cX12_drawOf 5 = .ok (.getfield 196, 3) := by decide +kernel
theorem dX12_drawOf_8 : decode cX12_drawOf 8 = .ok (.lmul, 1) := by decide +kernel
theorem dX12_drawOf_9 : decode cX12_drawOf 9 = .ok (.ldc2_w 669, 3) := by decide +kernel
theorem dX12_drawOf_12 : decode cX12_drawOf 12 = .ok (.ladd, 1) := by decide +kernel
theorem dX12_drawOf_13 : decode cX12_drawOf 13 = .ok (.ldc2_w 671, 3) := by decide +kernel
theorem dX12_drawOf_16 : decode cX12_drawOf 16 = .ok (.lrem, 1) := by decide +kernel
theorem dX12_drawOf_17 : decode cX12_drawOf 17 = .ok (.putfield 196, 3) := by decide +kernel
theorem dX12_drawOf_20 : decode cX12_drawOf 20 = .ok (.aload_n 0, 1) := by decide +kernel
theorem dX12_drawOf_21 : decode cX12_drawOf 21 = .ok (.getfield 196, 3) := by decide +kernel
theorem dX12_drawOf_24 : decode cX12_drawOf 24 = .ok (.ldc2_w 673, 3) := by decide +kernel
