theorem dX7_isOneTooMany_123 : decode cX7_isOneTooMany 123 = .ok (.if_icmp .lt 7, 3) := by decide +kernel
theorem dX7_isOneTooMany_126 : decode cX7_isOneTooMany 126 = .ok (.iconst 1, 1) := by decide +kernel
theorem dX7_isOneTooMany_127 : decode cX7_isOneTooMany 127 = .ok (.goto 4, 3) := by decide +kernel
theorem dX7_isOneTooMany_130 : decode cX7_isOneTooMany 130 = .ok (.iconst 0, 1) := by decide +kernel
theorem dX7_isOneTooMany_131 : decode cX7_isOneTooMany 131 = .ok (.ireturn, 1) := by decide +kernel
theorem dX7_isOneTooMany_132 : decode cX7_isOneTooMany 132 = .ok (.aload_n 0, 1) := by decide +kernel
theorem dX7_isOneTooMany_133 : decode cX7_isOneTooMany 133 = .ok (.getfield 78, 3) := by decide +kernel
theorem dX7_isOneTooMany_136 : decode cX7_isOneTooMany 136 = .ok (.iload_n 1, 1) := by decide +kernel
theorem dX7_isOneTooMany_137 : decode cX7_isOneTooMany 137 = .ok (.bipush 12, 2) := by decide +kernel
theorem dX7_isOneTooMany_139 : decode cX7_isOneTooMany 139 = .ok (.isub, 1) := by decide +kernel
theorem dX7_isOneTooMany_140 : decode cX7_isOneTooMany 140 = .ok (.invokevirtual 107, 3) := by decide +kernel
theorem dX7_isOneTooMany_143 : decode cX7_isOneTooMany 143 = .ok (.ireturn, 1) := by decide +kernel
theorem dX7_isOneTooMany_144 : decode cX7_isOneTooMany 144 = .ok (.iconst 0, 1) := by decide +kernel
theorem dX7_isOneTooMany_145 : decode cX7_isOneTooMany 145 = .ok (.ireturn, 1) := by decide +kernel
theorem dX7_readColumns_0 : decode cX7_readColumns 0 = .ok (.aload_n 0, 1) := by decide +kernel
theorem dX7_readColumns_1 : decode cX7_readColumns 1 = .ok (.getfield 9, 3) := by decide +kernel
theorem dX7_readColumns_4 : decode cX7_readColumns 4 = .ok (.invokevirtual 112, 3) := by decide +kernel
theorem dX7_readColumns_7 : decode cX7_readColumns 7 = .ok (.aload_n 0, 1) := by decide +kernel
theorem dX7_readColumns_8 : decode cX7_readColumns 8 = .ok (.getfield 9, 3) := by decide +kernel
theorem dX7_readColumns_11 : decode cX7_readColumns 11 = .ok (.iconst 3, 1) := by decide +kernel
theorem dX7_readColumns_12 : decode cX7_readColumns 12 = .ok (.bipush 8, 2) := by decide +kernel
theorem dX7_readColumns_14 : decode cX7_readColumns 14 = .ok (.invokevirtual 115, 3) := by decide +kernel
theorem dX7_readColumns_17 : decode cX7_readColumns 17 = .ok (.istore_n 2, 1) := by decide +kernel
theorem dX7_readColumns_18 : decode cX7_readColumns 18 = .ok (.iload_n 2, 1) := by decide +kernel
theorem dX7_readColumns_19 : decode cX7_readColumns 19 = .ok (.iconst (-1), 1) := by decide +kernel
theorem dX7_readColumns_20 : decode cX7_readColumns 20 = .ok (.if_icmp .ne 5, 3) := by decide +kernel
theorem dX7_readColumns_23 : decode cX7_readColumns 23 = .ok (.iconst 0, 1) := by decide +kernel
theorem dX7_readColumns_24 : decode cX7_readColumns 24 = .ok (.ireturn, 1) := by decide +kernel
theorem dX7_readColumns_25 : decode cX7_readColumns 25 = .ok (.aload_n 1, 1) := by decide +kernel
theorem dX7_readColumns_26 : decode cX7_readColumns 26 = .ok (.iload_n 2, 1) := by decide +kernel
theorem dX7_readColumns_27 : decode cX7_readColumns 27 = .ok (.putfield 119, 3) := by decide +kernel
theorem dX7_readColumns_30 : decode cX7_readColumns 30 = .ok (.iconst 1, 1) := by decide +kernel
theorem dX7_readColumns_31 : decode cX7_readColumns 31 = .ok (.ireturn, 1) := by decide +kernel
theorem dX7_readRow_0 : decode cX7_readRow 0 = .ok (.aload_n 0, 1) := by decide +kernel
theorem dX7_readRow_1 : decode cX7_readRow 1 = .ok (.getfield 9, 3) := by decide +kernel
theorem dX7_readRow_4 : decode cX7_readRow 4 = .ok (.invokevirtual 112, 3) := by decide +kernel
theorem dX7_readRow_7 : decode cX7_readRow 7 = .ok (.aload_n 0, 1) := by decide +kernel
theorem dX7_readRow_8 : decode cX7_readRow 8 = .ok (.getfield 9, 3) := by decide +kernel
theorem dX7_readRow_11 : decode cX7_readRow 11 = .ok (.getfield 29, 3) := by decide +kernel
theorem dX7_readRow_14 : decode cX7_readRow 14 = .ok (.bipush (-2), 2) := by decide +kernel
theorem dX7_readRow_16 : decode cX7_readRow 16 = .ok (.if_icmp .ne 25, 3) := by decide +kernel
theorem dX7_readRow_19 : decode cX7_readRow 19 = .ok (.aload_n 0, 1) := by decide +kernel
theorem dX7_readRow_20 : decode cX7_readRow 20 = .ok (.getfield 9, 3) := by decide +kernel
theorem dX7_readRow_23 : decode cX7_readRow 23 = .ok (.getfield 122, 3) := by decide +kernel
theorem dX7_readRow_26 : decode cX7_readRow 26 = .ok (.aload_n 0, 1) := by decide +kernel
theorem dX7_readRow_27 : decode cX7_readRow 27 = .ok (.getfield 9, 3) := by decide +kernel
theorem dX7_readRow_30 : decode cX7_readRow 30 = .ok (.getfield 125, 3) := by decide +kernel
theorem dX7_readRow_33 : decode cX7_readRow 33 = .ok (.isub, 1) := by decide +kernel
theorem dX7_readRow_34 : decode cX7_readRow 34 = .ok (.aload_n 1, 1) := by decide +kernel
theorem dX7_readRow_35 : decode cX7_readRow 35 = .ok (.getfield 119, 3) := by decide +kernel
theorem dX7_readRow_38 : decode cX7_readRow 38 = .ok (.if_icmp .eq 12, 3) := by decide +kernel
theorem dX7_readRow_41 : decode cX7_readRow 41 = .ok (.aload_n 0, 1) := by decide +kernel
theorem dX7_readRow_42 : decode cX7_readRow 42 = .ok (.getfield 9, 3) := by decide +kernel
theorem dX7_readRow_45 : decode cX7_readRow 45 = .ok (.iconst 1, 1) := by decide +kernel
theorem dX7_readRow_46 : decode cX7_readRow 46 = .ok (.invokevirtual 33, 3) := by decide +kernel
theorem dX7_readRow_49 : decode cX7_readRow 49 = .ok (.ireturn, 1) := by decide +kernel
theorem dX7_readRow_50 : decode cX7_readRow 50 = .ok (.iconst 0, 1) := by decide +kernel
theorem dX7_readRow_51 : decode cX7_readRow 51 = .ok (.istore_n 2, 1) := by decide +kernel
theorem dX7_readRow_52 : decode cX7_readRow 52 = .ok (.iload_n 2, 1) := by decide +kernel
theorem dX7_readRow_53 : decode cX7_readRow 53 = .ok (.aload_n 1, 1) := by decide +kernel
theorem dX7_readRow_54 : decode cX7_readRow 54 = .ok (.getfield 119, 3) := by decide +kernel
theorem dX7_readRow_57 : decode cX7_readRow 57 = .ok (.if_icmp .ge 97, 3) := by decide +kernel
theorem dX7_readRow_60 : decode cX7_readRow 60 = .ok (.aload_n 0, 1) := by decide +kernel
theorem dX7_readRow_61 : decode cX7_readRow 61 = .ok (.getfield 9, 3) := by decide +kernel
theorem dX7_readRow_64 : decode cX7_readRow 64 = .ok (.getfield 125, 3) := by decide +kernel
theorem dX7_readRow_67 : decode cX7_readRow 67 = .ok (.iload_n 2, 1) := by decide +kernel
theorem dX7_readRow_68 : decode cX7_readRow 68 = .ok (.iadd, 1) := by decide +kernel
theorem dX7_readRow_69 : decode cX7_readRow 69 = .ok (.istore_n 3, 1) := by decide +kernel
theorem dX7_readRow_70 : decode cX7_readRow 70 = .ok (.aload_n 1, 1) := by decide +kernel
theorem dX7_readRow_71 : decode cX7_readRow 71 = .ok (.getfield 95, 3) := by decide +kernel
theorem dX7_readRow_74 : decode cX7_readRow 74 = .ok (.aload_n 1, 1) := by decide +kernel
theorem dX7_readRow_75 : decode cX7_readRow 75 = .ok (.getfield 119, 3) := by decide +kernel
theorem dX7_readRow_78 : decode cX7_readRow 78 = .ok (.imul, 1) := by decide +kernel
theorem dX7_readRow_79 : decode cX7_readRow 79 = .ok (.iload_n 2, 1) := by decide +kernel
theorem dX7_readRow_80 : decode cX7_readRow 80 = .ok (.iadd, 1) := by decide +kernel
theorem dX7_readRow_81 : decode cX7_readRow 81 = .ok (.istore 4, 2) := by decide +kernel
theorem dX7_readRow_83 : decode cX7_readRow 83 = .ok (.iload_n 3, 1) := by decide +kernel
theorem dX7_readRow_84 : decode cX7_readRow 84 = .ok (.ifCond .lt 25, 3) := by decide +kernel
theorem dX7_readRow_87 : decode cX7_readRow 87 = .ok (.iload_n 3, 1) := by decide +kernel
theorem dX7_readRow_88 : decode cX7_readRow 88 = .ok (.sipush 1600, 3) := by decide +kernel
theorem dX7_readRow_91 : decode cX7_readRow 91 = .ok (.if_icmp .ge 18, 3) := by decide +kernel
theorem dX7_readRow_94 : decode cX7_readRow 94 = .ok (.aload_n 0, 1) := by decide +kernel
theorem dX7_readRow_95 : decode cX7_readRow 95 = .ok (.getfield 9, 3) := by decide +kernel
theorem dX7_readRow_98 : decode cX7_readRow 98 = .ok (.getfield 128, 3) := by decide +kernel
theorem dX7_readRow_101 : decode cX7_readRow 101 = .ok (.iload_n 3, 1) := by decide +kernel
theorem dX7_readRow_102 : decode cX7_readRow 102 = .ok (.iaload, 1) := by decide +kernel
theorem dX7_readRow_103 : decode cX7_readRow 103 = .ok (.invokestatic 132, 3) := by decide +kernel
theorem dX7_readRow_106 : decode cX7_readRow 106 = .ok (.goto 4, 3) := by decide +kernel
theorem dX7_readRow_109 : decode cX7_readRow 109 = .ok (.iconst (-1), 1) := by decide +kernel
theorem dX7_readRow_110 : decode cX7_readRow 110 = .ok (.istore 5, 2) := by decide +kernel
theorem dX7_readRow_112 : decode cX7_readRow 112 = .ok (.iload 5, 2) := by decide +kernel
theorem dX7_readRow_114 : decode cX7_readRow 114 = .ok (.iconst (-1), 1) := by decide +kernel
theorem dX7_readRow_115 : decode cX7_readRow 115 = .ok (.if_icmp .eq 15, 3) := by decide +kernel
theorem dX7_readRow_118 : decode cX7_readRow 118 = .ok (.iload 4, 2) := by decide +kernel
theorem dX7_readRow_120 : decode cX7_readRow 120 = .ok (.ifCond .lt 10, 3) := by decide +kernel
theorem dX7_readRow_123 : decode cX7_readRow 123 = .ok (.iload 4, 2) := by decide +kernel
theorem dX7_readRow_125 : decode cX7_readRow 125 = .ok (.bipush 48, 2) := by decide +kernel
theorem dX7_readRow_127 : decode cX7_readRow 127 = .ok (.if_icmp .lt 12, 3) := by decide +kernel
theorem dX7_readRow_130 : decode cX7_readRow 130 = .ok (.aload_n 0, 1) := by decide +kernel
theorem dX7_readRow_131 : decode cX7_readRow 131 = .ok (.getfield 9, 3) := by decide +kernel
theorem dX7_readRow_134 : decode cX7_readRow 134 = .ok (.iconst 1, 1) := by decide +kernel
theorem dX7_readRow_135 : decode cX7_readRow 135 = .ok (.invokevirtual 33, 3) := by decide +kernel
theorem dX7_readRow_138 : decode cX7_readRow 138 = .ok (.ireturn, 1) := by decide +kernel
theorem dX7_readRow_139 : decode cX7_readRow 139 = .ok (.aload_n 1, 1) := by decide +kernel
theorem dX7_readRow_140 : decode cX7_readRow 140 = .ok (.getfield 136, 3) := by decide +kernel
theorem dX7_readRow_143 : decode cX7_readRow 143 = .ok (.iload 4, 2) := by decide +kernel
theorem dX7_readRow_145 : decode cX7_readRow 145 = .ok (.iload 5, 2) := by decide +kernel
theorem dX7_readRow_147 : decode cX7_readRow 147 = .ok (.iastore, 1) := by decide +kernel
theorem dX7_readRow_148 : decode cX7_readRow 148 = .ok (.iinc 2 1, 3) := by decide +kernel
theorem dX7_readRow_151 : decode cX7_readRow 151 = .ok (.goto (-99), 3) := by decide +kernel
theorem dX7_readRow_154 : decode cX7_readRow 154 = .ok (.aload_n 1, 1) := by decide +kernel
theorem dX7_readRow_155 : decode cX7_readRow 155 = .ok (.dup, 1) := by decide +kernel
theorem dX7_readRow_156 : decode cX7_readRow 156 = .ok (.getfield 95, 3) := by decide +kernel
theorem dX7_readRow_159 : decode cX7_readRow 159 = .ok (.iconst 1, 1) := by decide +kernel
theorem dX7_readRow_160 : decode cX7_readRow 160 = .ok (.iadd, 1) := by decide +kernel
theorem dX7_readRow_161 : decode cX7_readRow 161 = .ok (.putfield 95, 3) := by decide +kernel
theorem dX7_readRow_164 : decode cX7_readRow 164 = .ok (.aload_n 0, 1) := by decide +kernel
theorem dX7_readRow_165 : decode cX7_readRow 165 = .ok (.getfield 9, 3) := by decide +kernel
theorem dX7_readRow_168 : decode cX7_readRow 168 = .ok (.invokevirtual 112, 3) := by decide +kernel
theorem dX7_readRow_171 : decode cX7_readRow 171 = .ok (.iconst 1, 1) := by decide +kernel
theorem dX7_readRow_172 : decode cX7_readRow 172 = .ok (.ireturn, 1) := by decide +kernel
theorem dX7_kindOf_0 : decode cX7_kindOf 0 = .ok (.iconst 0, 1) := by decide +kernel
theorem dX7_kindOf_1 : decode cX7_kindOf 1 = .ok (.istore_n 1, 1) := by decide +kernel
theorem dX7_kindOf_2 : decode cX7_kindOf 2 = .ok (.iload_n 1, 1) := by decide +kernel
theorem dX7_kindOf_3 : decode cX7_kindOf 3 = .ok (.ldc 139, 2) := by decide +kernel
theorem dX7_kindOf_5 : decode cX7_kindOf 5 = .ok (.invokevirtual 141, 3) := by decide +kernel
theorem dX7_kindOf_8 : decode cX7_kindOf 8 = .ok (.if_icmp .ge 21, 3) := by decide +kernel
theorem dX7_kindOf_11 : decode cX7_kindOf 11 = .ok (.ldc 139, 2) := by decide +kernel
theorem dX7_kindOf_13 : decode cX7_kindOf 13 = .ok (.iload_n 1, 1) := by decide +kernel
theorem dX7_kindOf_14 : decode cX7_kindOf 14 = .ok (.invokevirtual 147, 3) := by decide +kernel
theorem dX7_kindOf_17 : decode cX7_kindOf 17 = .ok (.iload_n 0, 1) := by decide +kernel
theorem dX7_kindOf_18 : decode cX7_kindOf 18 = .ok (.if_icmp .ne 5, 3) := by decide +kernel
theorem dX7_kindOf_21 : decode cX7_kindOf 21 = .ok (.iload_n 1, 1) := by decide +kernel
theorem dX7_kindOf_22 : decode cX7_kindOf 22 = .ok (.ireturn, 1) := by decide +kernel
theorem dX7_kindOf_23 : decode cX7_kindOf 23 = .ok (.iinc 1 1, 3) := by decide +kernel
theorem dX7_kindOf_26 : decode cX7_kindOf 26 = .ok (.goto (-24), 3) := by decide +kernel
theorem dX7_kindOf_29 : decode cX7_kindOf 29 = .ok (.iconst (-1), 1) := by decide +kernel
theorem dX7_kindOf_30 : decode cX7_kindOf 30 = .ok (.ireturn, 1) := by decide +kernel
theorem dX7_readBoat_0 : decode cX7_readBoat 0 = .ok (.aload_n 1, 1) := by decide +kernel
theorem dX7_readBoat_1 : decode cX7_readBoat 1 = .ok (.getfield 98, 3) := by decide +kernel
theorem dX7_readBoat_4 : decode cX7_readBoat 4 = .ok (.istore_n 2, 1) := by decide +kernel
theorem dX7_readBoat_5 : decode cX7_readBoat 5 = .ok (.aload_n 0, 1) := by decide +kernel
theorem dX7_readBoat_6 : decode cX7_readBoat 6 = .ok (.aload_n 1, 1) := by decide +kernel
theorem dX7_readBoat_7 : decode cX7_readBoat 7 = .ok (.invokevirtual 151, 3) := by decide +kernel
theorem dX7_readBoat_10 : decode cX7_readBoat 10 = .ok (.istore_n 3, 1) := by decide +kernel
theorem dX7_readBoat_11 : decode cX7_readBoat 11 = .ok (.iload_n 3, 1) := by decide +kernel
theorem dX7_readBoat_12 : decode cX7_readBoat 12 = .ok (.ifCond .eq 14, 3) := by decide +kernel
theorem dX7_readBoat_15 : decode cX7_readBoat 15 = .ok (.aload_n 0, 1) := by decide +kernel
theorem dX7_readBoat_16 : decode cX7_readBoat 16 = .ok (.getfield 9, 3) := by decide +kernel
theorem dX7_readBoat_19 : decode cX7_readBoat 19 = .ok (.iconst 3, 1) := by decide +kernel
theorem dX7_readBoat_20 : decode cX7_readBoat 20 = .ok (.invokevirtual 155, 3) := by decide +kernel
theorem dX7_readBoat_23 : decode cX7_readBoat 23 = .ok (.ifCond .ne 5, 3) := by decide +kernel
theorem dX7_readBoat_26 : decode cX7_readBoat 26 = .ok (.iconst 0, 1) := by decide +kernel
theorem dX7_readBoat_27 : decode cX7_readBoat 27 = .ok (.ireturn, 1) := by decide +kernel
theorem dX7_readBoat_28 : decode cX7_readBoat 28 = .ok (.aload_n 0, 1) := by decide +kernel
theorem dX7_readBoat_29 : decode cX7_readBoat 29 = .ok (.getfield 9, 3) := by decide +kernel
theorem dX7_readBoat_32 : decode cX7_readBoat 32 = .ok (.iconst 0, 1) := by decide +kernel
theorem dX7_readBoat_33 : decode cX7_readBoat 33 = .ok (.bipush 99, 2) := by decide +kernel
theorem dX7_readBoat_35 : decode cX7_readBoat 35 = .ok (.invokevirtual 115, 3) := by decide +kernel
theorem dX7_readBoat_38 : decode cX7_readBoat 38 = .ok (.istore 4, 2) := by decide +kernel
theorem dX7_readBoat_40 : decode cX7_readBoat 40 = .ok (.iload 4, 2) := by decide +kernel
theorem dX7_readBoat_42 : decode cX7_readBoat 42 = .ok (.iconst (-1), 1) := by decide +kernel
theorem dX7_readBoat_43 : decode cX7_readBoat 43 = .ok (.if_icmp .eq 14, 3) := by decide +kernel
theorem dX7_readBoat_46 : decode cX7_readBoat 46 = .ok (.aload_n 0, 1) := by decide +kernel
theorem dX7_readBoat_47 : decode cX7_readBoat 47 = .ok (.getfield 9, 3) := by decide +kernel
theorem dX7_readBoat_50 : decode cX7_readBoat 50 = .ok (.iconst 4, 1) := by decide +kernel
theorem dX7_readBoat_51 : decode cX7_readBoat 51 = .ok (.invokevirtual 155, 3) := by decide +kernel
theorem dX7_readBoat_54 : decode cX7_readBoat 54 = .ok (.ifCond .ne 5, 3) := by decide +kernel
theorem dX7_readBoat_57 : decode cX7_readBoat 57 = .ok (.iconst 0, 1) := by decide +kernel
theorem dX7_readBoat_58 : decode cX7_readBoat 58 = .ok (.ireturn, 1) := by decide +kernel
theorem dX7_readBoat_59 : decode cX7_readBoat 59 = .ok (.aload_n 0, 1) := by decide +kernel
theorem dX7_readBoat_60 : decode cX7_readBoat 60 = .ok (.aload_n 1, 1) := by decide +kernel
theorem dX7_readBoat_61 : decode cX7_readBoat 61 = .ok (.invokevirtual 158, 3) := by decide +kernel
theorem dX7_readBoat_64 : decode cX7_readBoat 64 = .ok (.istore 5, 2) := by decide +kernel
theorem dX7_readBoat_66 : decode cX7_readBoat 66 = .ok (.iload 5, 2) := by decide +kernel
theorem dX7_readBoat_68 : decode cX7_readBoat 68 = .ok (.iconst (-1), 1) := by decide +kernel
theorem dX7_readBoat_69 : decode cX7_readBoat 69 = .ok (.if_icmp .eq 13, 3) := by decide +kernel
theorem dX7_readBoat_72 : decode cX7_readBoat 72 = .ok (.iload_n 2, 1) := by decide +kernel
theorem dX7_readBoat_73 : decode cX7_readBoat 73 = .ok (.ifCond .lt 9, 3) := by decide +kernel
theorem dX7_readBoat_76 : decode cX7_readBoat 76 = .ok (.iload_n 2, 1) := by decide +kernel
theorem dX7_readBoat_77 : decode cX7_readBoat 77 = .ok (.bipush 6, 2) := by decide +kernel
theorem dX7_readBoat_79 : decode cX7_readBoat 79 = .ok (.if_icmp .lt 5, 3) := by decide +kernel
theorem dX7_readBoat_82 : decode cX7_readBoat 82 = .ok (.iconst 0, 1) := by decide +kernel
theorem dX7_readBoat_83 : decode cX7_readBoat 83 = .ok (.ireturn, 1) := by decide +kernel
theorem dX7_readBoat_84 : decode cX7_readBoat 84 = .ok (.aload_n 1, 1) := by decide +kernel
theorem dX7_readBoat_85 : decode cX7_readBoat 85 = .ok (.getfield 161, 3) := by decide +kernel
theorem dX7_readBoat_88 : decode cX7_readBoat 88 = .ok (.iload_n 2, 1) := by decide +kernel
theorem dX7_readBoat_89 : decode cX7_readBoat 89 = .ok (.iload_n 3, 1) := by decide +kernel
theorem dX7_readBoat_90 : decode cX7_readBoat 90 = .ok (.iastore, 1) := by decide +kernel
theorem dX7_readBoat_91 : decode cX7_readBoat 91 = .ok (.aload_n 1, 1) := by decide +kernel
theorem dX7_readBoat_92 : decode cX7_readBoat 92 = .ok (.getfield 164, 3) := by decide +kernel
theorem dX7_readBoat_95 : decode cX7_readBoat 95 = .ok (.iload_n 2, 1) := by decide +kernel
theorem dX7_readBoat_96 : decode cX7_readBoat 96 = .ok (.iload 4, 2) := by decide +kernel
theorem dX7_readBoat_98 : decode cX7_readBoat 98 = .ok (.iastore, 1) := by decide +kernel
theorem dX7_readBoat_99 : decode cX7_readBoat 99 = .ok (.aload_n 1, 1) := by decide +kernel
theorem dX7_readBoat_100 : decode cX7_readBoat 100 = .ok (.getfield 167, 3) := by decide +kernel
theorem dX7_readBoat_103 : decode cX7_readBoat 103 = .ok (.iload_n 2, 1) := by decide +kernel
theorem dX7_readBoat_104 : decode cX7_readBoat 104 = .ok (.iload 5, 2) := by decide +kernel
theorem dX7_readBoat_106 : decode cX7_readBoat 106 = .ok (.iastore, 1) := by decide +kernel
theorem dX7_readBoat_107 : decode cX7_readBoat 107 = .ok (.aload_n 1, 1) := by decide +kernel
theorem dX7_readBoat_108 : decode cX7_readBoat 108 = .ok (.dup, 1) := by decide +kernel
theorem dX7_readBoat_109 : decode cX7_readBoat 109 = .ok (.getfield 98, 3) := by decide +kernel
theorem dX7_readBoat_112 : decode cX7_readBoat 112 = .ok (.iconst 1, 1) := by decide +kernel
theorem dX7_readBoat_113 : decode cX7_readBoat 113 = .ok (.iadd, 1) := by decide +kernel
theorem dX7_readBoat_114 : decode cX7_readBoat 114 = .ok (.putfield 98, 3) := by decide +kernel
theorem dX7_readBoat_117 : decode cX7_readBoat 117 = .ok (.iconst 1, 1) := by decide +kernel
theorem dX7_readBoat_118 : decode cX7_readBoat 118 = .ok (.ireturn, 1) := by decide +kernel
theorem dX7_readHarbour_0 : decode cX7_readHarbour 0 = .ok (.aload_n 0, 1) := by decide +kernel
theorem dX7_readHarbour_1 : decode cX7_readHarbour 1 = .ok (.getfield 9, 3) := by decide +kernel
theorem dX7_readHarbour_4 : decode cX7_readHarbour 4 = .ok (.iconst 0, 1) := by decide +kernel
theorem dX7_readHarbour_5 : decode cX7_readHarbour 5 = .ok (.aload_n 1, 1) := by decide +kernel
theorem dX7_readHarbour_6 : decode cX7_readHarbour 6 = .ok (.getfield 119, 3) := by decide +kernel
theorem dX7_readHarbour_9 : decode cX7_readHarbour 9 = .ok (.iconst 1, 1) := by decide +kernel
theorem dX7_readHarbour_10 : decode cX7_readHarbour 10 = .ok (.isub, 1) := by decide +kernel
theorem dX7_readHarbour_11 : decode cX7_readHarbour 11 = .ok (.invokevirtual 115, 3) := by decide +kernel
theorem dX7_readHarbour_14 : decode cX7_readHarbour 14 = .ok (.istore_n 2, 1) := by decide +kernel
theorem dX7_readHarbour_15 : decode cX7_readHarbour 15 = .ok (.iload_n 2, 1) := by decide +kernel
theorem dX7_readHarbour_16 : decode cX7_readHarbour 16 = .ok (.iconst (-1), 1) := by decide +kernel
theorem dX7_readHarbour_17 : decode cX7_readHarbour 17 = .ok (.if_icmp .ne 5, 3) := by decide +kernel
theorem dX7_readHarbour_20 : decode cX7_readHarbour 20 = .ok (.iconst (-1), 1) := by decide +kernel
theorem dX7_readHarbour_21 : decode cX7_readHarbour 21 = .ok (.ireturn, 1) := by decide +kernel
theorem dX7_readHarbour_22 : decode cX7_readHarbour 22 = .ok (.aload_n 0, 1) := by decide +kernel
theorem dX7_readHarbour_23 : decode cX7_readHarbour 23 = .ok (.getfield 9, 3) := by decide +kernel
theorem dX7_readHarbour_26 : decode cX7_readHarbour 26 = .ok (.getfield 125, 3) := by decide +kernel
theorem dX7_readHarbour_29 : decode cX7_readHarbour 29 = .ok (.istore_n 3, 1) := by decide +kernel
theorem dX7_readHarbour_30 : decode cX7_readHarbour 30 = .ok (.aload_n 0, 1) := by decide +kernel
theorem dX7_readHarbour_31 : decode cX7_readHarbour 31 = .ok (.getfield 9, 3) := by decide +kernel
theorem dX7_readHarbour_34 : decode cX7_readHarbour 34 = .ok (.iconst 0, 1) := by decide +kernel
theorem dX7_readHarbour_35 : decode cX7_readHarbour 35 = .ok (.aload_n 1, 1) := by decide +kernel
theorem dX7_readHarbour_36 : decode cX7_readHarbour 36 = .ok (.getfield 95, 3) := by decide +kernel
theorem dX7_readHarbour_39 : decode cX7_readHarbour 39 = .ok (.iconst 1, 1) := by decide +kernel
theorem dX7_readHarbour_40 : decode cX7_readHarbour 40 = .ok (.isub, 1) := by decide +kernel
theorem dX7_readHarbour_41 : decode cX7_readHarbour 41 = .ok (.invokevirtual 115, 3) := by decide +kernel
theorem dX7_readHarbour_44 : decode cX7_readHarbour 44 = .ok (.istore 4, 2) := by decide +kernel
theorem dX7_readHarbour_46 : decode cX7_readHarbour 46 = .ok (.iload 4, 2) := by decide +kernel
theorem dX7_readHarbour_48 : decode cX7_readHarbour 48 = .ok (.iconst (-1), 1) := by decide +kernel
theorem dX7_readHarbour_49 : decode cX7_readHarbour 49 = .ok (.if_icmp .ne 5, 3) := by decide +kernel
theorem dX7_readHarbour_52 : decode cX7_readHarbour 52 = .ok (.iconst (-1), 1) := by decide +kernel
theorem dX7_readHarbour_53 : decode cX7_readHarbour 53 = .ok (.ireturn, 1) := by decide +kernel
theorem dX7_readHarbour_54 : decode cX7_readHarbour 54 = .ok (.iload 4, 2) := by decide +kernel
theorem dX7_readHarbour_56 : decode cX7_readHarbour 56 = .ok (.aload_n 1, 1) := by decide +kernel
theorem dX7_readHarbour_57 : decode cX7_readHarbour 57 = .ok (.getfield 119, 3) := by decide +kernel
theorem dX7_readHarbour_60 : decode cX7_readHarbour 60 = .ok (.imul, 1) := by decide +kernel
theorem dX7_readHarbour_61 : decode cX7_readHarbour 61 = .ok (.iload_n 2, 1) := by decide +kernel
theorem dX7_readHarbour_62 : decode cX7_readHarbour 62 = .ok (.iadd, 1) := by decide +kernel
theorem dX7_readHarbour_63 : decode cX7_readHarbour 63 = .ok (.istore 5, 2) := by decide +kernel
theorem dX7_readHarbour_65 : decode cX7_readHarbour 65 = .ok (.aload_n 1, 1) := by decide +kernel
theorem dX7_readHarbour_66 : decode cX7_readHarbour 66 = .ok (.iload 5, 2) := by decide +kernel
theorem dX7_readHarbour_68 : decode cX7_readHarbour 68 = .ok (.invokevirtual 170, 3) := by decide +kernel
theorem dX7_readHarbour_71 : decode cX7_readHarbour 71 = .ok (.ifCond .ne 15, 3) := by decide +kernel
theorem dX7_readHarbour_74 : decode cX7_readHarbour 74 = .ok (.aload_n 0, 1) := by decide +kernel
theorem dX7_readHarbour_75 : decode cX7_readHarbour 75 = .ok (.getfield 9, 3) := by decide +kernel
theorem dX7_readHarbour_78 : decode cX7_readHarbour 78 = .ok (.iconst 2, 1) := by decide +kernel
theorem dX7_readHarbour_79 : decode cX7_readHarbour 79 = .ok (.iload_n 3, 1) := by decide +kernel
theorem dX7_readHarbour_80 : decode cX7_readHarbour 80 = .ok (.invokevirtual 173, 3) := by decide +kernel
theorem dX7_readHarbour_83 : decode cX7_readHarbour 83 = .ok (.pop, 1) := by decide +kernel
theorem dX7_readHarbour_84 : decode cX7_readHarbour 84 = .ok (.iconst (-1), 1) := by decide +kernel
theorem dX7_readHarbour_85 : decode cX7_readHarbour 85 = .ok (.ireturn, 1) := by decide +kernel
theorem dX7_readHarbour_86 : decode cX7_readHarbour 86 = .ok (.iload 5, 2) := by decide +kernel
theorem dX7_readHarbour_88 : decode cX7_readHarbour 88 = .ok (.ireturn, 1) := by decide +kernel
theorem dX7_readHand_0 : decode cX7_readHand 0 = .ok (.aload_n 1, 1) := by decide +kernel
theorem dX7_readHand_1 : decode cX7_readHand 1 = .ok (.getfield 101, 3) := by decide +kernel
theorem dX7_readHand_4 : decode cX7_readHand 4 = .ok (.istore_n 2, 1) := by decide +kernel
theorem dX7_readHand_5 : decode cX7_readHand 5 = .ok (.aload_n 0, 1) := by decide +kernel
theorem dX7_readHand_6 : decode cX7_readHand 6 = .ok (.aload_n 1, 1) := by decide +kernel
theorem dX7_readHand_7 : decode cX7_readHand 7 = .ok (.invokevirtual 151, 3) := by decide +kernel
theorem dX7_readHand_10 : decode cX7_readHand 10 = .ok (.istore_n 3, 1) := by decide +kernel
theorem dX7_readHand_11 : decode cX7_readHand 11 = .ok (.iload_n 3, 1) := by decide +kernel
theorem dX7_readHand_12 : decode cX7_readHand 12 = .ok (.ifCond .eq 15, 3) := by decide +kernel
theorem dX7_readHand_15 : decode cX7_readHand 15 = .ok (.aload_n 0, 1) := by decide +kernel
theorem dX7_readHand_16 : decode cX7_readHand 16 = .ok (.getfield 9, 3) := by decide +kernel
theorem dX7_readHand_19 : decode cX7_readHand 19 = .ok (.bipush 6, 2) := by decide +kernel
theorem dX7_readHand_21 : decode cX7_readHand 21 = .ok (.invokevirtual 155, 3) := by decide +kernel
theorem dX7_readHand_24 : decode cX7_readHand 24 = .ok (.ifCond .ne 5, 3) := by decide +kernel
theorem dX7_readHand_27 : decode cX7_readHand 27 = .ok (.iconst 0, 1) := by decide +kernel
theorem dX7_readHand_28 : decode cX7_readHand 28 = .ok (.ireturn, 1) := by decide +kernel
theorem dX7_readHand_29 : decode cX7_readHand 29 = .ok (.aload_n 0, 1) := by decide +kernel
theorem dX7_readHand_30 : decode cX7_readHand 30 = .ok (.getfield 9, 3) := by decide +kernel
theorem dX7_readHand_33 : decode cX7_readHand 33 = .ok (.iconst 0, 1) := by decide +kernel
theorem dX7_readHand_34 : decode cX7_readHand 34 = .ok (.bipush 9, 2) := by decide +kernel
theorem dX7_readHand_36 : decode cX7_readHand 36 = .ok (.invokevirtual 115, 3) := by decide +kernel
theorem dX7_readHand_39 : decode cX7_readHand 39 = .ok (.istore 4, 2) := by decide +kernel
theorem dX7_readHand_41 : decode cX7_readHand 41 = .ok (.iload 4, 2) := by decide +kernel
theorem dX7_readHand_43 : decode cX7_readHand 43 = .ok (.iconst (-1), 1) := by decide +kernel
theorem dX7_readHand_44 : decode cX7_readHand 44 = .ok (.if_icmp .eq 13, 3) := by decide +kernel
theorem dX7_readHand_47 : decode cX7_readHand 47 = .ok (.iload_n 2, 1) := by decide +kernel
theorem dX7_readHand_48 : decode cX7_readHand 48 = .ok (.ifCond .lt 9, 3) := by decide +kernel
theorem dX7_readHand_51 : decode cX7_readHand 51 = .ok (.iload_n 2, 1) := by decide +kernel
theorem dX7_readHand_52 : decode cX7_readHand 52 = .ok (.bipush 6, 2) := by decide +kernel
theorem dX7_readHand_54 : decode cX7_readHand 54 = .ok (.if_icmp .lt 5, 3) := by decide +kernel
theorem dX7_readHand_57 : decode cX7_readHand 57 = .ok (.iconst 0, 1) := by decide +kernel
theorem dX7_readHand_58 : decode cX7_readHand 58 = .ok (.ireturn, 1) := by decide +kernel
theorem dX7_readHand_59 : decode cX7_readHand 59 = .ok (.aload_n 1, 1) := by decide +kernel
theorem dX7_readHand_60 : decode cX7_readHand 60 = .ok (.getfield 177, 3) := by decide +kernel
theorem dX7_readHand_63 : decode cX7_readHand 63 = .ok (.iload_n 2, 1) := by decide +kernel
theorem dX7_readHand_64 : decode cX7_readHand 64 = .ok (.iload_n 3, 1) := by decide +kernel
theorem dX7_readHand_65 : decode cX7_readHand 65 = .ok (.iastore, 1) := by decide +kernel
theorem dX7_readHand_66 : decode cX7_readHand 66 = .ok (.aload_n 1, 1) := by decide +kernel
theorem dX7_readHand_67 : decode cX7_readHand 67 = .ok (.getfield 180, 3) := by decide +kernel
theorem dX7_readHand_70 : decode cX7_readHand 70 = .ok (.iload_n 2, 1) := by decide +kernel
theorem dX7_readHand_71 : decode cX7_readHand 71 = .ok (.iload 4, 2) := by decide +kernel
theorem dX7_readHand_73 : decode cX7_readHand 73 = .ok (.iastore, 1) := by decide +kernel
theorem dX7_readHand_74 : decode cX7_readHand 74 = .ok (.aload_n 1, 1) := by decide +kernel
theorem dX7_readHand_75 : decode cX7_readHand 75 = .ok (.dup, 1) := by decide +kernel
theorem dX7_readHand_76 : decode cX7_readHand 76 = .ok (.getfield 101, 3) := by decide +kernel
theorem dX7_readHand_79 : decode cX7_readHand 79 = .ok (.iconst 1, 1) := by decide +kernel
theorem dX7_readHand_80 : decode cX7_readHand 80 = .ok (.iadd, 1) := by decide +kernel
theorem dX7_readHand_81 : decode cX7_readHand 81 = .ok (.putfield 101, 3) := by decide +kernel
theorem dX7_readHand_84 : decode cX7_readHand 84 = .ok (.iconst 1, 1) := by decide +kernel
theorem dX7_readHand_85 : decode cX7_readHand 85 = .ok (.ireturn, 1) := by decide +kernel
theorem dX7_readNewName_0 : decode cX7_readNewName 0 = .ok (.aload_n 0, 1) := by decide +kernel
theorem dX7_readNewName_1 : decode cX7_readNewName 1 = .ok (.getfield 9, 3) := by decide +kernel
theorem dX7_readNewName_4 : decode cX7_readNewName 4 = .ok (.invokevirtual 112, 3) := by decide +kernel
theorem dX7_readNewName_7 : decode cX7_readNewName 7 = .ok (.aload_n 0, 1) := by decide +kernel
theorem dX7_readNewName_8 : decode cX7_readNewName 8 = .ok (.getfield 9, 3) := by decide +kernel
theorem dX7_readNewName_11 : decode cX7_readNewName 11 = .ok (.invokevirtual 183, 3) := by decide +kernel
theorem dX7_readNewName_14 : decode cX7_readNewName 14 = .ok (.ifCond .ne 5, 3) := by decide +kernel
theorem dX7_readNewName_17 : decode cX7_readNewName 17 = .ok (.iconst 0, 1) := by decide +kernel
theorem dX7_readNewName_18 : decode cX7_readNewName 18 = .ok (.ireturn, 1) := by decide +kernel
theorem dX7_readNewName_19 : decode cX7_readNewName 19 = .ok (.aload_n 0, 1) := by decide +kernel
theorem dX7_readNewName_20 : decode cX7_readNewName 20 = .ok (.getfield 9, 3) := by decide +kernel
theorem dX7_readNewName_23 : decode cX7_readNewName 23 = .ok (.getfield 187, 3) := by decide +kernel
theorem dX7_readNewName_26 : decode cX7_readNewName 26 = .ok (.istore_n 2, 1) := by decide +kernel
theorem dX7_readNewName_27 : decode cX7_readNewName 27 = .ok (.aload_n 1, 1) := by decide +kernel
theorem dX7_readNewName_28 : decode cX7_readNewName 28 = .ok (.getfield 161, 3) := by decide +kernel
theorem dX7_readNewName_31 : decode cX7_readNewName 31 = .ok (.aload_n 1, 1) := by decide +kernel
theorem dX7_readNewName_32 : decode cX7_readNewName 32 = .ok (.getfield 98, 3) := by decide +kernel
theorem dX7_readNewName_35 : decode cX7_readNewName 35 = .ok (.iload_n 2, 1) := by decide +kernel
theorem dX7_readNewName_36 : decode cX7_readNewName 36 = .ok (.invokestatic 190, 3) := by decide +kernel
theorem dX7_readNewName_39 : decode cX7_readNewName 39 = .ok (.iconst (-1), 1) := by decide +kernel
theorem dX7_readNewName_40 : decode cX7_readNewName 40 = .ok (.if_icmp .ne 19, 3) := by decide +kernel
theorem dX7_readNewName_43 : decode cX7_readNewName 43 = .ok (.aload_n 1, 1) := by decide +kernel
theorem dX7_readNewName_44 : decode cX7_readNewName 44 = .ok (.getfield 177, 3) := by decide +kernel
theorem dX7_readNewName_47 : decode cX7_readNewName 47 = .ok (.aload_n 1, 1) := by decide +kernel
theorem dX7_readNewName_48 : decode cX7_readNewName 48 = .ok (.getfield 101, 3) := by decide +kernel
theorem dX7_readNewName_51 : decode cX7_readNewName 51 = .ok (.iload_n 2, 1) := by decide +kernel
theorem dX7_readNewName_52 : decode cX7_readNewName 52 = .ok (.invokestatic 190, 3) := by decide +kernel
theorem dX7_readNewName_55 : decode cX7_readNewName 55 = .ok (.iconst (-1), 1) := by decide +kernel
theorem dX7_readNewName_56 : decode cX7_readNewName 56 = .ok (.if_icmp .eq 14, 3) := by decide +kernel
theorem dX7_readNewName_59 : decode cX7_readNewName 59 = .ok (.aload_n 0, 1) := by decide +kernel
theorem dX7_readNewName_60 : decode cX7_readNewName 60 = .ok (.getfield 9, 3) := by decide +kernel
theorem dX7_readNewName_63 : decode cX7_readNewName 63 = .ok (.iconst 3, 1) := by decide +kernel
theorem dX7_readNewName_64 : decode cX7_readNewName 64 = .ok (.invokevirtual 33, 3) := by decide +kernel
theorem dX7_readNewName_67 : decode cX7_readNewName 67 = .ok (.pop, 1) := by decide +kernel
theorem dX7_readNewName_68 : decode cX7_readNewName 68 = .ok (.iconst 0, 1) := by decide +kernel
theorem dX7_readNewName_69 : decode cX7_readNewName 69 = .ok (.ireturn, 1) := by decide +kernel
theorem dX7_readNewName_70 : decode cX7_readNewName 70 = .ok (.aload_n 0, 1) := by decide +kernel
theorem dX7_readNewName_71 : decode cX7_readNewName 71 = .ok (.getfield 9, 3) := by decide +kernel
theorem dX7_readNewName_74 : decode cX7_readNewName 74 = .ok (.invokevirtual 112, 3) := by decide +kernel
theorem dX7_readNewName_77 : decode cX7_readNewName 77 = .ok (.iload_n 2, 1) := by decide +kernel
theorem dX7_readNewName_78 : decode cX7_readNewName 78 = .ok (.ireturn, 1) := by decide +kernel
theorem dX7_readKnownName_0 : decode cX7_readKnownName 0 = .ok (.aload_n 0, 1) := by decide +kernel
theorem dX7_readKnownName_1 : decode cX7_readKnownName 1 = .ok (.getfield 9, 3) := by decide +kernel
theorem dX7_readKnownName_4 : decode cX7_readKnownName 4 = .ok (.invokevirtual 183, 3) := by decide +kernel
theorem dX7_readKnownName_7 : decode cX7_readKnownName 7 = .ok (.ifCond .ne 5, 3) := by decide +kernel
theorem dX7_readKnownName_10 : decode cX7_readKnownName 10 = .ok (.iconst (-1), 1) := by decide +kernel
theorem dX7_readKnownName_11 : decode cX7_readKnownName 11 = .ok (.ireturn, 1) := by decide +kernel
theorem dX7_readKnownName_12 : decode cX7_readKnownName 12 = .ok (.aload_n 1, 1) := by decide +kernel
theorem dX7_readKnownName_13 : decode cX7_readKnownName 13 = .ok (.iload_n 2, 1) := by decide +kernel
theorem dX7_readKnownName_14 : decode cX7_readKnownName 14 = .ok (.aload_n 0, 1) := by decide +kernel
theorem dX7_readKnownName_15 : decode cX7_readKnownName 15 = .ok (.getfield 9, 3) := by decide +kernel
theorem dX7_readKnownName_18 : decode cX7_readKnownName 18 = .ok (.getfield 187, 3) := by decide +kernel
theorem dX7_readKnownName_21 : decode cX7_readKnownName 21 = .ok (.invokestatic 190, 3) := by decide +kernel
theorem dX7_readKnownName_24 : decode cX7_readKnownName 24 = .ok (.istore_n 3, 1) := by decide +kernel
theorem dX7_readKnownName_25 : decode cX7_readKnownName 25 = .ok (.iload_n 3, 1) := by decide +kernel
theorem dX7_readKnownName_26 : decode cX7_readKnownName 26 = .ok (.iconst (-1), 1) := by decide +kernel
theorem dX7_readKnownName_27 : decode cX7_readKnownName 27 = .ok (.if_icmp .ne 14, 3) := by decide +kernel
theorem dX7_readKnownName_30 : decode cX7_readKnownName 30 = .ok (.aload_n 0, 1) := by decide +kernel
theorem dX7_readKnownName_31 : decode cX7_readKnownName 31 = .ok (.getfield 9, 3) := by decide +kernel
theorem dX7_readKnownName_34 : decode cX7_readKnownName 34 = .ok (.iconst 3, 1) := by decide +kernel
theorem dX7_readKnownName_35 : decode cX7_readKnownName 35 = .ok (.invokevirtual 33, 3) := by decide +kernel
theorem dX7_readKnownName_38 : decode cX7_readKnownName 38 = .ok (.pop, 1) := by decide +kernel
theorem dX7_readKnownName_39 : decode cX7_readKnownName 39 = .ok (.iconst (-1), 1) := by decide +kernel
theorem dX7_readKnownName_40 : decode cX7_readKnownName 40 = .ok (.ireturn, 1) := by decide +kernel
theorem dX7_readKnownName_41 : decode cX7_readKnownName 41 = .ok (.aload_n 0, 1) := by decide +kernel
theorem dX7_readKnownName_42 : decode cX7_readKnownName 42 = .ok (.getfield 9, 3) := by decide +kernel
theorem dX7_readKnownName_45 : decode cX7_readKnownName 45 = .ok (.invokevirtual 112, 3) := by decide +kernel
theorem dX7_readKnownName_48 : decode cX7_readKnownName 48 = .ok (.iload_n 3, 1) := by decide +kernel
theorem dX7_readKnownName_49 : decode cX7_readKnownName 49 = .ok (.ireturn, 1) := by decide +kernel
theorem dX7_find_0 : decode cX7_find 0 = .ok (.iconst 0, 1) := by decide +kernel
theorem dX7_find_1 : decode cX7_find 1 = .ok (.istore_n 3, 1) := by decide +kernel
theorem dX7_find_2 : decode cX7_find 2 = .ok (.iload_n 3, 1) := by decide +kernel
theorem dX7_find_3 : decode cX7_find 3 = .ok (.iload_n 1, 1) := by decide +kernel
theorem dX7_find_4 : decode cX7_find 4 = .ok (.if_icmp .ge 24, 3) := by decide +kernel
theorem dX7_find_7 : decode cX7_find 7 = .ok (.iload_n 3, 1) := by decide +kernel
theorem dX7_find_8 : decode cX7_find 8 = .ok (.aload_n 0, 1) := by decide +kernel
theorem dX7_find_9 : decode cX7_find 9 = .ok (.arraylength, 1) := by decide +kernel
theorem dX7_find_10 : decode cX7_find 10 = .ok (.if_icmp .ge 18, 3) := by decide +kernel
theorem dX7_find_13 : decode cX7_find 13 = .ok (.aload_n 0, 1) := by decide +kernel
theorem dX7_find_14 : decode cX7_find 14 = .ok (.iload_n 3, 1) := by decide +kernel
theorem dX7_find_15 : decode cX7_find 15 = .ok (.iaload, 1) := by decide +kernel
theorem dX7_find_16 : decode cX7_find 16 = .ok (.iload_n 2, 1) := by decide +kernel
theorem dX7_find_17 : decode cX7_find 17 = .ok (.if_icmp .ne 5, 3) := by decide +kernel
theorem dX7_find_20 : decode cX7_find 20 = .ok (.iload_n 3, 1) := by decide +kernel
theorem dX7_find_21 : decode cX7_find 21 = .ok (.ireturn, 1) := by decide +kernel
theorem dX7_find_22 : decode cX7_find 22 = .ok (.iinc 3 1, 3) := by decide +kernel
theorem dX7_find_25 : decode cX7_find 25 = .ok (.goto (-23), 3) := by decide +kernel
theorem dX7_find_28 : decode cX7_find 28 = .ok (.iconst (-1), 1) := by decide +kernel
theorem dX7_find_29 : decode cX7_find 29 = .ok (.ireturn, 1) := by decide +kernel
theorem dX7_readLikes_0 : decode cX7_readLikes 0 = .ok (.aload_n 0, 1) := by decide +kernel
theorem dX7_readLikes_1 : decode cX7_readLikes 1 = .ok (.getfield 9, 3) := by decide +kernel
theorem dX7_readLikes_4 : decode cX7_readLikes 4 = .ok (.invokevirtual 112, 3) := by decide +kernel
theorem dX7_readLikes_7 : decode cX7_readLikes 7 = .ok (.aload_n 0, 1) := by decide +kernel
theorem dX7_readLikes_8 : decode cX7_readLikes 8 = .ok (.aload_n 1, 1) := by decide +kernel
theorem dX7_readLikes_9 : decode cX7_readLikes 9 = .ok (.getfield 161, 3) := by decide +kernel
theorem dX7_readLikes_12 : decode cX7_readLikes 12 = .ok (.aload_n 1, 1) := by decide +kernel
theorem dX7_readLikes_13 : decode cX7_readLikes 13 = .ok (.getfield 98, 3) := by decide +kernel
theorem dX7_readLikes_16 : decode cX7_readLikes 16 = .ok (.invokevirtual 194, 3) := by decide +kernel
theorem dX7_readLikes_19 : decode cX7_readLikes 19 = .ok (.istore_n 2, 1) := by decide +kernel
theorem dX7_readLikes_20 : decode cX7_readLikes 20 = .ok (.iload_n 2, 1) := by decide +kernel
theorem dX7_readLikes_21 : decode cX7_readLikes 21 = .ok (.iconst (-1), 1) := by decide +kernel
theorem dX7_readLikes_22 : decode cX7_readLikes 22 = .ok (.if_icmp .ne 5, 3) := by decide +kernel
theorem dX7_readLikes_25 : decode cX7_readLikes 25 = .ok (.iconst 0, 1) := by decide +kernel
theorem dX7_readLikes_26 : decode cX7_readLikes 26 = .ok (.ireturn, 1) := by decide +kernel
theorem dX7_readLikes_27 : decode cX7_readLikes 27 = .ok (.aload_n 0, 1) := by decide +kernel
theorem dX7_readLikes_28 : decode cX7_readLikes 28 = .ok (.aload_n 1, 1) := by decide +kernel
theorem dX7_readLikes_29 : decode cX7_readLikes 29 = .ok (.getfield 177, 3) := by decide +kernel
theorem dX7_readLikes_32 : decode cX7_readLikes 32 = .ok (.aload_n 1, 1) := by decide +kernel
theorem dX7_readLikes_33 : decode cX7_readLikes 33 = .ok (.getfield 101, 3) := by decide +kernel
theorem dX7_readLikes_36 : decode cX7_readLikes 36 = .ok (.invokevirtual 194, 3) := by decide +kernel
theorem dX7_readLikes_39 : decode cX7_readLikes 39 = .ok (.istore_n 3, 1) := by decide +kernel
theorem dX7_readLikes_40 : decode cX7_readLikes 40 = .ok (.iload_n 3, 1) := by decide +kernel
theorem dX7_readLikes_41 : decode cX7_readLikes 41 = .ok (.iconst (-1), 1) := by decide +kernel
theorem dX7_readLikes_42 : decode cX7_readLikes 42 = .ok (.if_icmp .ne 5, 3) := by decide +kernel
theorem dX7_readLikes_45 : decode cX7_readLikes 45 = .ok (.iconst 0, 1) := by decide +kernel
theorem dX7_readLikes_46 : decode cX7_readLikes 46 = .ok (.ireturn, 1) := by decide +kernel
theorem dX7_readLikes_47 : decode cX7_readLikes 47 = .ok (.aload_n 0, 1) := by decide +kernel
theorem dX7_readLikes_48 : decode cX7_readLikes 48 = .ok (.getfield 9, 3) := by decide +kernel
theorem dX7_readLikes_51 : decode cX7_readLikes 51 = .ok (.iconst 0, 1) := by decide +kernel
theorem dX7_readLikes_52 : decode cX7_readLikes 52 = .ok (.bipush 99, 2) := by decide +kernel
theorem dX7_readLikes_54 : decode cX7_readLikes 54 = .ok (.invokevirtual 115, 3) := by decide +kernel
theorem dX7_readLikes_57 : decode cX7_readLikes 57 = .ok (.istore 4, 2) := by decide +kernel
theorem dX7_readLikes_59 : decode cX7_readLikes 59 = .ok (.iload 4, 2) := by decide +kernel
theorem dX7_readLikes_61 : decode cX7_readLikes 61 = .ok (.iconst (-1), 1) := by decide +kernel
theorem dX7_readLikes_62 : decode cX7_readLikes 62 = .ok (.if_icmp .eq 19, 3) := by decide +kernel
theorem dX7_readLikes_65 : decode cX7_readLikes 65 = .ok (.aload_n 1, 1) := by decide +kernel
theorem dX7_readLikes_66 : decode cX7_readLikes 66 = .ok (.iload_n 2, 1) := by decide +kernel
theorem dX7_readLikes_67 : decode cX7_readLikes 67 = .ok (.invokevirtual 198, 3) := by decide +kernel
theorem dX7_readLikes_70 : decode cX7_readLikes 70 = .ok (.ifCond .eq 11, 3) := by decide +kernel
theorem dX7_readLikes_73 : decode cX7_readLikes 73 = .ok (.aload_n 1, 1) := by decide +kernel
theorem dX7_readLikes_74 : decode cX7_readLikes 74 = .ok (.iload_n 3, 1) := by decide +kernel
theorem dX7_readLikes_75 : decode cX7_readLikes 75 = .ok (.invokevirtual 201, 3) := by decide +kernel
theorem dX7_readLikes_78 : decode cX7_readLikes 78 = .ok (.ifCond .ne 5, 3) := by decide +kernel
theorem dX7_readLikes_81 : decode cX7_readLikes 81 = .ok (.iconst 0, 1) := by decide +kernel
theorem dX7_readLikes_82 : decode cX7_readLikes 82 = .ok (.ireturn, 1) := by decide +kernel
theorem dX7_readLikes_83 : decode cX7_readLikes 83 = .ok (.aload_n 1, 1) := by decide +kernel
theorem dX7_readLikes_84 : decode cX7_readLikes 84 = .ok (.getfield 204, 3) := by decide +kernel
theorem dX7_readLikes_87 : decode cX7_readLikes 87 = .ok (.iload_n 2, 1) := by decide +kernel
theorem dX7_readLikes_88 : decode cX7_readLikes 88 = .ok (.bipush 6, 2) := by decide +kernel
theorem dX7_readLikes_90 : decode cX7_readLikes 90 = .ok (.imul, 1) := by decide +kernel
theorem dX7_readLikes_91 : decode cX7_readLikes 91 = .ok (.iload_n 3, 1) := by decide +kernel
theorem dX7_readLikes_92 : decode cX7_readLikes 92 = .ok (.iadd, 1) := by decide +kernel
theorem dX7_readLikes_93 : decode cX7_readLikes 93 = .ok (.iload 4, 2) := by decide +kernel
theorem dX7_readLikes_95 : decode cX7_readLikes 95 = .ok (.iastore, 1) := by decide +kernel
theorem dX7_readLikes_96 : decode cX7_readLikes 96 = .ok (.iconst 1, 1) := by decide +kernel
theorem dX7_readLikes_97 : decode cX7_readLikes 97 = .ok (.ireturn, 1) := by decide +kernel
theorem dX7_readSky_0 : decode cX7_readSky 0 = .ok (.aload_n 1, 1) := by decide +kernel
theorem dX7_readSky_1 : decode cX7_readSky 1 = .ok (.getfield 104, 3) := by decide +kernel
theorem dX7_readSky_4 : decode cX7_readSky 4 = .ok (.istore_n 2, 1) := by decide +kernel
theorem dX7_readSky_5 : decode cX7_readSky 5 = .ok (.aload_n 0, 1) := by decide +kernel
theorem dX7_readSky_6 : decode cX7_readSky 6 = .ok (.getfield 9, 3) := by decide +kernel
theorem dX7_readSky_9 : decode cX7_readSky 9 = .ok (.getfield 53, 3) := by decide +kernel
theorem dX7_readSky_12 : decode cX7_readSky 12 = .ok (.bipush 8, 2) := by decide +kernel
theorem dX7_readSky_14 : decode cX7_readSky 14 = .ok (.isub, 1) := by decide +kernel
theorem dX7_readSky_15 : decode cX7_readSky 15 = .ok (.istore_n 3, 1) := by decide +kernel
theorem dX7_readSky_16 : decode cX7_readSky 16 = .ok (.aload_n 0, 1) := by decide +kernel
theorem dX7_readSky_17 : decode cX7_readSky 17 = .ok (.getfield 9, 3) := by decide +kernel
theorem dX7_readSky_20 : decode cX7_readSky 20 = .ok (.invokevirtual 112, 3) := by decide +kernel
theorem dX7_readSky_23 : decode cX7_readSky 23 = .ok (.aload_n 0, 1) := by decide +kernel
theorem dX7_readSky_24 : decode cX7_readSky 24 = .ok (.getfield 9, 3) := by decide +kernel
theorem dX7_readSky_27 : decode cX7_readSky 27 = .ok (.iconst 4, 1) := by decide +kernel
theorem dX7_readSky_28 : decode cX7_readSky 28 = .ok (.invokevirtual 155, 3) := by decide +kernel
theorem dX7_readSky_31 : decode cX7_readSky 31 = .ok (.ifCond .ne 5, 3) := by decide +kernel
theorem dX7_readSky_34 : decode cX7_readSky 34 = .ok (.iconst 0, 1) := by decide +kernel
theorem dX7_readSky_35 : decode cX7_readSky 35 = .ok (.ireturn, 1) := by decide +kernel
theorem dX7_readSky_36 : decode cX7_readSky 36 = .ok (.aload_n 0, 1) := by decide +kernel
theorem dX7_readSky_37 : decode cX7_readSky 37 = .ok (.getfield 9, 3) := by decide +kernel
theorem dX7_readSky_40 : decode cX7_readSky 40 = .ok (.getfield 125, 3) := by decide +kernel
theorem dX7_readSky_43 : decode cX7_readSky 43 = .ok (.istore 4, 2) := by decide +kernel
theorem dX7_readSky_45 : decode cX7_readSky 45 = .ok (.aload_n 0, 1) := by decide +kernel
theorem dX7_readSky_46 : decode cX7_readSky 46 = .ok (.getfield 9, 3) := by decide +kernel
theorem dX7_readSky_49 : decode cX7_readSky 49 = .ok (.iconst 0, 1) := by decide +kernel
theorem dX7_readSky_50 : decode cX7_readSky 50 = .ok (.bipush 99, 2) := by decide +kernel
theorem dX7_readSky_52 : decode cX7_readSky 52 = .ok (.invokevirtual 115, 3) := by decide +kernel
theorem dX7_readSky_55 : decode cX7_readSky 55 = .ok (.istore 5, 2) := by decide +kernel
theorem dX7_readSky_57 : decode cX7_readSky 57 = .ok (.iload 5, 2) := by decide +kernel
theorem dX7_readSky_59 : decode cX7_readSky 59 = .ok (.iconst (-1), 1) := by decide +kernel
theorem dX7_readSky_60 : decode cX7_readSky 60 = .ok (.if_icmp .eq 13, 3) := by decide +kernel
theorem dX7_readSky_63 : decode cX7_readSky 63 = .ok (.iload_n 2, 1) := by decide +kernel
theorem dX7_readSky_64 : decode cX7_readSky 64 = .ok (.ifCond .lt 9, 3) := by decide +kernel
theorem dX7_readSky_67 : decode cX7_readSky 67 = .ok (.iload_n 2, 1) := by decide +kernel
theorem dX7_readSky_68 : decode cX7_readSky 68 = .ok (.bipush 10, 2) := by decide +kernel
theorem dX7_readSky_70 : decode cX7_readSky 70 = .ok (.if_icmp .lt 5, 3) := by decide +kernel
theorem dX7_readSky_73 : decode cX7_readSky 73 = .ok (.iconst 0, 1) := by decide +kernel
theorem dX7_readSky_74 : decode cX7_readSky 74 = .ok (.ireturn, 1) := by decide +kernel
theorem dX7_readSky_75 : decode cX7_readSky 75 = .ok (.aload_n 1, 1) := by decide +kernel
theorem dX7_readSky_76 : decode cX7_readSky 76 = .ok (.getfield 207, 3) := by decide +kernel
theorem dX7_readSky_79 : decode cX7_readSky 79 = .ok (.iload_n 2, 1) := by decide +kernel
theorem dX7_readSky_80 : decode cX7_readSky 80 = .ok (.iload 5, 2) := by decide +kernel
theorem dX7_readSky_82 : decode cX7_readSky 82 = .ok (.invokestatic 190, 3) := by decide +kernel
theorem dX7_readSky_85 : decode cX7_readSky 85 = .ok (.iconst (-1), 1) := by decide +kernel
theorem dX7_readSky_86 : decode cX7_readSky 86 = .ok (.if_icmp .eq 14, 3) := by decide +kernel
theorem dX7_readSky_89 : decode cX7_readSky 89 = .ok (.aload_n 0, 1) := by decide +kernel
theorem dX7_readSky_90 : decode cX7_readSky 90 = .ok (.getfield 9, 3) := by decide +kernel
theorem dX7_readSky_93 : decode cX7_readSky 93 = .ok (.iconst 2, 1) := by decide +kernel
theorem dX7_readSky_94 : decode cX7_readSky 94 = .ok (.iload 4, 2) := by decide +kernel
theorem dX7_readSky_96 : decode cX7_readSky 96 = .ok (.invokevirtual 173, 3) := by decide +kernel
theorem dX7_readSky_99 : decode cX7_readSky 99 = .ok (.ireturn, 1) := by decide +kernel
theorem dX7_readSky_100 : decode cX7_readSky 100 = .ok (.aload_n 1, 1) := by decide +kernel
theorem dX7_readSky_101 : decode cX7_readSky 101 = .ok (.getfield 207, 3) := by decide +kernel
theorem dX7_readSky_104 : decode cX7_readSky 104 = .ok (.iload_n 2, 1) := by decide +kernel
theorem dX7_readSky_105 : decode cX7_readSky 105 = .ok (.iload 5, 2) := by decide +kernel
theorem dX7_readSky_107 : decode cX7_readSky 107 = .ok (.iastore, 1) := by decide +kernel
theorem dX7_readSky_108 : decode cX7_readSky 108 = .ok (.aload_n 1, 1) := by decide +kernel
theorem dX7_readSky_109 : decode cX7_readSky 109 = .ok (.getfield 210, 3) := by decide +kernel
theorem dX7_readSky_112 : decode cX7_readSky 112 = .ok (.iload_n 2, 1) := by decide +kernel
theorem dX7_readSky_113 : decode cX7_readSky 113 = .ok (.iload_n 3, 1) := by decide +kernel
theorem dX7_readSky_114 : decode cX7_readSky 114 = .ok (.iastore, 1) := by decide +kernel
theorem dX7_readSky_115 : decode cX7_readSky 115 = .ok (.aload_n 1, 1) := by decide +kernel
theorem dX7_readSky_116 : decode cX7_readSky 116 = .ok (.dup, 1) := by decide +kernel
theorem dX7_readSky_117 : decode cX7_readSky 117 = .ok (.getfield 104, 3) := by decide +kernel
theorem dX7_readSky_120 : decode cX7_readSky 120 = .ok (.iconst 1, 1) := by decide +kernel
theorem dX7_readSky_121 : decode cX7_readSky 121 = .ok (.iadd, 1) := by decide +kernel
theorem dX7_readSky_122 : decode cX7_readSky 122 = .ok (.putfield 104, 3) := by decide +kernel
theorem dX7_readSky_125 : decode cX7_readSky 125 = .ok (.iconst 1, 1) := by decide +kernel
theorem dX7_readSky_126 : decode cX7_readSky 126 = .ok (.ireturn, 1) := by decide +kernel
theorem dX7_readCoax_0 : decode cX7_readCoax 0 = .ok (.aload_n 0, 1) := by decide +kernel
theorem dX7_readCoax_1 : decode cX7_readCoax 1 = .ok (.getfield 9, 3) := by decide +kernel
theorem dX7_readCoax_4 : decode cX7_readCoax 4 = .ok (.invokevirtual 112, 3) := by decide +kernel
theorem dX7_readCoax_7 : decode cX7_readCoax 7 = .ok (.aload_n 0, 1) := by decide +kernel
theorem dX7_readCoax_8 : decode cX7_readCoax 8 = .ok (.getfield 9, 3) := by decide +kernel
theorem dX7_readCoax_11 : decode cX7_readCoax 11 = .ok (.iconst 1, 1) := by decide +kernel
theorem dX7_readCoax_12 : decode cX7_readCoax 12 = .ok (.bipush 99, 2) := by decide +kernel
theorem dX7_readCoax_14 : decode cX7_readCoax 14 = .ok (.invokevirtual 115, 3) := by decide +kernel
theorem dX7_readCoax_17 : decode cX7_readCoax 17 = .ok (.istore_n 2, 1) := by decide +kernel
theorem dX7_readCoax_18 : decode cX7_readCoax 18 = .ok (.iload_n 2, 1) := by decide +kernel
theorem dX7_readCoax_19 : decode cX7_readCoax 19 = .ok (.iconst (-1), 1) := by decide +kernel
theorem dX7_readCoax_20 : decode cX7_readCoax 20 = .ok (.if_icmp .ne 5, 3) := by decide +kernel
theorem dX7_readCoax_23 : decode cX7_readCoax 23 = .ok (.iconst 0, 1) := by decide +kernel
theorem dX7_readCoax_24 : decode cX7_readCoax 24 = .ok (.ireturn, 1) := by decide +kernel
theorem dX7_readCoax_25 : decode cX7_readCoax 25 = .ok (.aload_n 1, 1) := by decide +kernel
theorem dX7_readCoax_26 : decode cX7_readCoax 26 = .ok (.iload_n 2, 1) := by decide +kernel
theorem dX7_readCoax_27 : decode cX7_readCoax 27 = .ok (.putfield 213, 3) := by decide +kernel
theorem dX7_readCoax_30 : decode cX7_readCoax 30 = .ok (.iconst 1, 1) := by decide +kernel
theorem dX7_readCoax_31 : decode cX7_readCoax 31 = .ok (.ireturn, 1) := by decide +kernel
theorem dX8_init_0 : decode cX8_init 0 = .ok (.aload_n 0, 1) := by decide +kernel
theorem dX8_init_1 : decode cX8_init 1 = .ok (.invokespecial 3, 3) := by decide +kernel
theorem dX8_init_4 : decode cX8_init 4 = .ok (.aload_n 0, 1) := by decide +kernel
theorem dX8_init_5 : decode cX8_init 5 = .ok (.bipush 20, 2) := by decide +kernel
theorem dX8_init_7 : decode cX8_init 7 = .ok (.newarray .int, 2) := by decide +kernel
theorem dX8_init_9 : decode cX8_init 9 = .ok (.putfield 9, 3) := by decide +kernel
theorem dX8_init_12 : decode cX8_init 12 = .ok (.aload_n 0, 1) := by decide +kernel
theorem dX8_init_13 : decode cX8_init 13 = .ok (.bipush 20, 2) := by decide +kernel
theorem dX8_init_15 : decode cX8_init 15 = .ok (.newarray .int, 2) := by decide +kernel
theorem dX8_init_17 : decode cX8_init 17 = .ok (.putfield 15, 3) := by decide +kernel
theorem dX8_init_20 : decode cX8_init 20 = .ok (.aload_n 0, 1) := by decide +kernel
theorem dX8_init_21 : decode cX8_init 21 = .ok (.aload_n 1, 1) := by decide +kernel
theorem dX8_init_22 : decode cX8_init 22 = .ok (.putfield 18, 3) := by decide +kernel
theorem dX8_init_25 : decode cX8_init 25 = .ok (.aload_n 0, 1) := by decide +kernel
theorem dX8_init_26 : decode cX8_init 26 = .ok (.iconst 0, 1) := by decide +kernel
theorem dX8_init_27 : decode cX8_init 27 = .ok (.putfield 22, 3) := by decide +kernel
theorem dX8_init_30 : decode cX8_init 30 = .ok (.return_, 1) := by decide +kernel
theorem dX8_read_0 : decode cX8_read 0 = .ok (.aload_n 0, 1) := by decide +kernel
theorem dX8_read_1 : decode cX8_read 1 = .ok (.getfield 18, 3) := by decide +kernel
theorem dX8_read_4 : decode cX8_read 4 = .ok (.getfield 26, 3) := by decide +kernel
theorem dX8_read_7 : decode cX8_read 7 = .ok (.iload_n 1, 1) := by decide +kernel
theorem dX8_read_8 : decode cX8_read 8 = .ok (.invokevirtual 32, 3) := by decide +kernel
theorem dX8_read_11 : decode cX8_read 11 = .ok (.ifCond .eq 20, 3) := by decide +kernel
theorem dX8_read_14 : decode cX8_read 14 = .ok (.iload_n 3, 1) := by decide +kernel
theorem dX8_read_15 : decode cX8_read 15 = .ok (.iconst 2, 1) := by decide +kernel
theorem dX8_read_16 : decode cX8_read 16 = .ok (.if_icmp .lt 15, 3) := by decide +kernel
theorem dX8_read_19 : decode cX8_read 19 = .ok (.iload_n 3, 1) := by decide +kernel
theorem dX8_read_20 : decode cX8_read 20 = .ok (.bipush 40, 2) := by decide +kernel
theorem dX8_read_22 : decode cX8_read 22 = .ok (.if_icmp .gt 9, 3) := by decide +kernel
theorem dX8_read_25 : decode cX8_read 25 = .ok (.iload_n 3, 1) := by decide +kernel
theorem dX8_read_26 : decode cX8_read 26 = .ok (.iconst 2, 1) := by decide +kernel
theorem dX8_read_27 : decode cX8_read 27 = .ok (.irem, 1) := by decide +kernel
theorem dX8_read_28 : decode cX8_read 28 = .ok (.ifCond .eq 5, 3) := by decide +kernel
theorem dX8_read_31 : decode cX8_read 31 = .ok (.iconst 0, 1) := by decide +kernel
theorem dX8_read_32 : decode cX8_read 32 = .ok (.ireturn, 1) := by decide +kernel
theorem dX8_read_33 : decode cX8_read 33 = .ok (.iconst 0, 1) := by decide +kernel
theorem dX8_read_34 : decode cX8_read 34 = .ok (.istore 4, 2) := by decide +kernel
theorem dX8_read_36 : decode cX8_read 36 = .ok (.iload 4, 2) := by decide +kernel
theorem dX8_read_38 : decode cX8_read 38 = .ok (.iconst 1, 1) := by decide +kernel
theorem dX8_read_39 : decode cX8_read 39 = .ok (.iadd, 1) := by decide +kernel
theorem dX8_read_40 : decode cX8_read 40 = .ok (.iload_n 3, 1) := by decide +kernel
theorem dX8_read_41 : decode cX8_read 41 = .ok (.if_icmp .ge 47, 3) := by decide +kernel
theorem dX8_read_44 : decode cX8_read 44 = .ok (.iload 4, 2) := by decide +kernel
theorem dX8_read_46 : decode cX8_read 46 = .ok (.iconst 1, 1) := by decide +kernel
theorem dX8_read_47 : decode cX8_read 47 = .ok (.iadd, 1) := by decide +kernel
theorem dX8_read_48 : decode cX8_read 48 = .ok (.aload_n 2, 1) := by decide +kernel
theorem dX8_read_49 : decode cX8_read 49 = .ok (.arraylength, 1) := by decide +kernel
theorem dX8_read_50 : decode cX8_read 50 = .ok (.if_icmp .ge 38, 3) := by decide +kernel
theorem dX8_read_53 : decode cX8_read 53 = .ok (.aload_n 0, 1) := by decide +kernel
theorem dX8_read_54 : decode cX8_read 54 = .ok (.getfield 18, 3) := by decide +kernel
theorem dX8_read_57 : decode cX8_read 57 = .ok (.getfield 26, 3) := by decide +kernel
theorem dX8_read_60 : decode cX8_read 60 = .ok (.aload_n 2, 1) := by decide +kernel
theorem dX8_read_61 : decode cX8_read 61 = .ok (.iload 4, 2) := by decide +kernel
theorem dX8_read_63 : decode cX8_read 63 = .ok (.iaload, 1) := by decide +kernel
theorem dX8_read_64 : decode cX8_read 64 = .ok (.invokevirtual 38, 3) := by decide +kernel
theorem dX8_read_67 : decode cX8_read 67 = .ok (.ifCond .eq 13, 3) := by decide +kernel
theorem dX8_read_70 : decode cX8_read 70 = .ok (.aload_n 2, 1) := by decide +kernel
theorem dX8_read_71 : decode cX8_read 71 = .ok (.iload 4, 2) := by decide +kernel
theorem dX8_read_73 : decode cX8_read 73 = .ok (.iconst 1, 1) := by decide +kernel
theorem dX8_read_74 : decode cX8_read 74 = .ok (.iadd, 1) := by decide +kernel
theorem dX8_read_75 : decode cX8_read 75 = .ok (.iaload, 1) := by decide +kernel
theorem dX8_read_76 : decode cX8_read 76 = .ok (.iconst 1, 1) := by decide +kernel
theorem dX8_read_77 : decode cX8_read 77 = .ok (.if_icmp .le 5, 3) := by decide +kernel
theorem dX8_read_80 : decode cX8_read 80 = .ok (.iconst 0, 1) := by decide +kernel
theorem dX8_read_81 : decode cX8_read 81 = .ok (.ireturn, 1) := by decide +kernel
theorem dX8_read_82 : decode cX8_read 82 = .ok (.iinc 4 2, 3) := by decide +kernel
theorem dX8_read_85 : decode cX8_read 85 = .ok (.goto (-49), 3) := by decide +kernel
theorem dX8_read_88 : decode cX8_read 88 = .ok (.aload_n 0, 1) := by decide +kernel
theorem dX8_read_89 : decode cX8_read 89 = .ok (.iload_n 1, 1) := by decide +kernel
theorem dX8_read_90 : decode cX8_read 90 = .ok (.putfield 41, 3) := by decide +kernel
theorem dX8_read_93 : decode cX8_read 93 = .ok (.aload_n 0, 1) := by decide +kernel
theorem dX8_read_94 : decode cX8_read 94 = .ok (.iload_n 3, 1) := by decide +kernel
theorem dX8_read_95 : decode cX8_read 95 = .ok (.iconst 2, 1) := by decide +kernel
theorem dX8_read_96 : decode cX8_read 96 = .ok (.idiv, 1) := by decide +kernel
theorem dX8_read_97 : decode cX8_read 97 = .ok (.putfield 22, 3) := by decide +kernel
theorem dX8_read_100 : decode cX8_read 100 = .ok (.iconst 0, 1) := by decide +kernel
theorem dX8_read_101 : decode cX8_read 101 = .ok (.istore 4, 2) := by decide +kernel
theorem dX8_read_103 : decode cX8_read 103 = .ok (.iload 4, 2) := by decide +kernel
theorem dX8_read_105 : decode cX8_read 105 = .ok (.aload_n 0, 1) := by decide +kernel
theorem dX8_read_106 : decode cX8_read 106 = .ok (.getfield 22, 3) := by decide +kernel
theorem dX8_read_109 : decode cX8_read 109 = .ok (.if_icmp .ge 55, 3) := by decide +kernel
theorem dX8_read_112 : decode cX8_read 112 = .ok (.iload 4, 2) := by decide +kernel
theorem dX8_read_114 : decode cX8_read 114 = .ok (.bipush 20, 2) := by decide +kernel
theorem dX8_read_116 : decode cX8_read 116 = .ok (.if_icmp .ge 48, 3) := by decide +kernel
theorem dX8_read_119 : decode cX8_read 119 = .ok (.iconst 2, 1) := by decide +kernel
theorem dX8_read_120 : decode cX8_read 120 = .ok (.iload 4, 2) := by decide +kernel
theorem dX8_read_122 : decode cX8_read 122 = .ok (.imul, 1) := by decide +kernel
theorem dX8_read_123 : decode cX8_read 123 = .ok (.iconst 1, 1) := by decide +kernel
theorem dX8_read_124 : decode cX8_read 124 = .ok (.iadd, 1) := by decide +kernel
theorem dX8_read_125 : decode cX8_read 125 = .ok (.aload_n 2, 1) := by decide +kernel
theorem dX8_read_126 : decode cX8_read 126 = .ok (.arraylength, 1) := by decide +kernel
theorem dX8_read_127 : decode cX8_read 127 = .ok (.if_icmp .ge 37, 3) := by decide +kernel
theorem dX8_read_130 : decode cX8_read 130 = .ok (.aload_n 0, 1) := by decide +kernel
theorem dX8_read_131 : decode cX8_read 131 = .ok (.getfield 9, 3) := by decide +kernel
theorem dX8_read_134 : decode cX8_read 134 = .ok (.iload 4, 2) := by decide +kernel
theorem dX8_read_136 : decode cX8_read 136 = .ok (.aload_n 2, 1) := by decide +kernel
theorem dX8_read_137 : decode cX8_read 137 = .ok (.iconst 2, 1) := by decide +kernel
theorem dX8_read_138 : decode cX8_read 138 = .ok (.iload 4, 2) := by decide +kernel
theorem dX8_read_140 : decode cX8_read 140 = .ok (.imul, 1) := by decide +kernel
theorem dX8_read_141 : decode cX8_read 141 = .ok (.iaload, 1) := by decide +kernel
theorem dX8_read_142 : decode cX8_read 142 = .ok (.iastore, 1) := by decide +kernel
theorem dX8_read_143 : decode cX8_read 143 = .ok (.aload_n 0, 1) := by decide +kernel
theorem dX8_read_144 : decode cX8_read 144 = .ok (.getfield 15, 3) := by decide +kernel
theorem dX8_read_147 : decode cX8_read 147 = .ok (.iload 4, 2) := by decide +kernel
theorem dX8_read_149 : decode cX8_read 149 = .ok (.aload_n 2, 1) := by decide +kernel
theorem dX8_read_150 : decode cX8_read 150 = .ok (.iconst 2, 1) := by decide +kernel
theorem dX8_read_151 : decode cX8_read 151 = .ok (.iload 4, 2) := by decide +kernel
theorem dX8_read_153 : decode cX8_read 153 = .ok (.imul, 1) := by decide +kernel
theorem dX8_read_154 : decode cX8_read 154 = .ok (.iconst 1, 1) := by decide +kernel
theorem dX8_read_155 : decode cX8_read 155 = .ok (.iadd, 1) := by decide +kernel
theorem dX8_read_156 : decode cX8_read 156 = .ok (.iaload, 1) := by decide +kernel
theorem dX8_read_157 : decode cX8_read 157 = .ok (.iastore, 1) := by decide +kernel
theorem dX8_read_158 : decode cX8_read 158 = .ok (.iinc 4 1, 3) := by decide +kernel
theorem dX8_read_161 : decode cX8_read 161 = .ok (.goto (-58), 3) := by decide +kernel
theorem dX8_read_164 : decode cX8_read 164 = .ok (.iconst 1, 1) := by decide +kernel
theorem dX8_read_165 : decode cX8_read 165 = .ok (.ireturn, 1) := by decide +kernel
theorem dX8_findTrusts_0 : decode cX8_findTrusts 0 = .ok (.aload_n 0, 1) := by decide +kernel
theorem dX8_findTrusts_1 : decode cX8_findTrusts 1 = .ok (.iconst 0, 1) := by decide +kernel
theorem dX8_findTrusts_2 : decode cX8_findTrusts 2 = .ok (.putfield 44, 3) := by decide +kernel
theorem dX8_findTrusts_5 : decode cX8_findTrusts 5 = .ok (.aload_n 0, 1) := by decide +kernel
theorem dX8_findTrusts_6 : decode cX8_findTrusts 6 = .ok (.bipush 99, 2) := by decide +kernel
theorem dX8_findTrusts_8 : decode cX8_findTrusts 8 = .ok (.putfield 47, 3) := by decide +kernel
theorem dX8_findTrusts_11 : decode cX8_findTrusts 11 = .ok (.iconst 0, 1) := by decide +kernel
theorem dX8_findTrusts_12 : decode cX8_findTrusts 12 = .ok (.istore_n 1, 1) := by decide +kernel
theorem dX8_findTrusts_13 : decode cX8_findTrusts 13 = .ok (.iload_n 1, 1) := by decide +kernel
theorem dX8_findTrusts_14 : decode cX8_findTrusts 14 = .ok (.aload_n 0, 1) := by decide +kernel
theorem dX8_findTrusts_15 : decode cX8_findTrusts 15 = .ok (.getfield 22, 3) := by decide +kernel
theorem dX8_findTrusts_18 : decode cX8_findTrusts 18 = .ok (.if_icmp .ge 73, 3) := by decide +kernel
theorem dX8_findTrusts_21 : decode cX8_findTrusts 21 = .ok (.iload_n 1, 1) := by decide +kernel
theorem dX8_findTrusts_22 : decode cX8_findTrusts 22 = .ok (.bipush 20, 2) := by decide +kernel
theorem dX8_findTrusts_24 : decode cX8_findTrusts 24 = .ok (.if_icmp .ge 67, 3) := by decide +kernel
theorem dX8_findTrusts_27 : decode cX8_findTrusts 27 = .ok (.aload_n 0, 1) := by decide +kernel
theorem dX8_findTrusts_28 : decode cX8_findTrusts 28 = .ok (.getfield 18, 3) := by decide +kernel
theorem dX8_findTrusts_31 : decode cX8_findTrusts 31 = .ok (.aload_n 0, 1) := by decide +kernel
theorem dX8_findTrusts_32 : decode cX8_findTrusts 32 = .ok (.getfield 41, 3) := by decide +kernel
theorem dX8_findTrusts_35 : decode cX8_findTrusts 35 = .ok (.aload_n 0, 1) := by decide +kernel
theorem dX8_findTrusts_36 : decode cX8_findTrusts 36 = .ok (.getfield 9, 3) := by decide +kernel
theorem dX8_findTrusts_39 : decode cX8_findTrusts 39 = .ok (.iload_n 1, 1) := by decide +kernel
theorem dX8_findTrusts_40 : decode cX8_findTrusts 40 = .ok (.iaload, 1) := by decide +kernel
theorem dX8_findTrusts_41 : decode cX8_findTrusts 41 = .ok (.iconst (-1), 1) := by decide +kernel
theorem dX8_findTrusts_42 : decode cX8_findTrusts 42 = .ok (.invokevirtual 50, 3) := by decide +kernel
theorem dX8_findTrusts_45 : decode cX8_findTrusts 45 = .ok (.istore_n 2, 1) := by decide +kernel
theorem dX8_findTrusts_46 : decode cX8_findTrusts 46 = .ok (.aload_n 0, 1) := by decide +kernel
theorem dX8_findTrusts_47 : decode cX8_findTrusts 47 = .ok (.getfield 15, 3) := by decide +kernel
theorem dX8_findTrusts_50 : decode cX8_findTrusts 50 = .ok (.iload_n 1, 1) := by decide +kernel
theorem dX8_findTrusts_51 : decode cX8_findTrusts 51 = .ok (.iaload, 1) := by decide +kernel
theorem dX8_findTrusts_52 : decode cX8_findTrusts 52 = .ok (.iconst 1, 1) := by decide +kernel
theorem dX8_findTrusts_53 : decode cX8_findTrusts 53 = .ok (.if_icmp .ne 18, 3) := by decide +kernel
theorem dX8_findTrusts_56 : decode cX8_findTrusts 56 = .ok (.aload_n 0, 1) := by decide +kernel
theorem dX8_findTrusts_57 : decode cX8_findTrusts 57 = .ok (.aload_n 0, 1) := by decide +kernel
theorem dX8_findTrusts_58 : decode cX8_findTrusts 58 = .ok (.getfield 44, 3) := by decide +kernel
theorem dX8_findTrusts_61 : decode cX8_findTrusts 61 = .ok (.iload_n 2, 1) := by decide +kernel
theorem dX8_findTrusts_62 : decode cX8_findTrusts 62 = .ok (.invokestatic 54, 3) := by decide +kernel
theorem dX8_findTrusts_65 : decode cX8_findTrusts 65 = .ok (.putfield 44, 3) := by decide +kernel
theorem dX8_findTrusts_68 : decode cX8_findTrusts 68 = .ok (.goto 17, 3) := by decide +kernel
theorem dX8_findTrusts_71 : decode cX8_findTrusts 71 = .ok (.aload_n 0, 1) := by decide +kernel
theorem dX8_findTrusts_72 : decode cX8_findTrusts 72 = .ok (.aload_n 0, 1) := by decide +kernel
theorem dX8_findTrusts_73 : decode cX8_findTrusts 73 = .ok (.getfield 47, 3) := by decide +kernel
theorem dX8_findTrusts_76 : decode cX8_findTrusts 76 = .ok (.iload_n 2, 1) := by decide +kernel
theorem dX8_findTrusts_77 : decode cX8_findTrusts 77 = .ok (.iconst 1, 1) := by decide +kernel
theorem dX8_findTrusts_78 : decode cX8_findTrusts 78 = .ok (.isub, 1) := by decide +kernel
theorem dX8_findTrusts_79 : decode cX8_findTrusts 79 = .ok (.invokestatic 60, 3) := by decide +kernel
theorem dX8_findTrusts_82 : decode cX8_findTrusts 82 = .ok (.putfield 47, 3) := by decide +kernel
theorem dX8_findTrusts_85 : decode cX8_findTrusts 85 = .ok (.iinc 1 1, 3) := by decide +kernel
theorem dX8_findTrusts_88 : decode cX8_findTrusts 88 = .ok (.goto (-75), 3) := by decide +kernel
theorem dX8_findTrusts_91 : decode cX8_findTrusts 91 = .ok (.iconst 0, 1) := by decide +kernel
theorem dX8_findTrusts_92 : decode cX8_findTrusts 92 = .ok (.aload_n 0, 1) := by decide +kernel
theorem dX8_findTrusts_93 : decode cX8_findTrusts 93 = .ok (.getfield 47, 3) := by decide +kernel
theorem dX8_findTrusts_96 : decode cX8_findTrusts 96 = .ok (.aload_n 0, 1) := by decide +kernel
theorem dX8_findTrusts_97 : decode cX8_findTrusts 97 = .ok (.getfield 44, 3) := by decide +kernel
theorem dX8_findTrusts_100 : decode cX8_findTrusts 100 = .ok (.isub, 1) := by decide +kernel
theorem dX8_findTrusts_101 : decode cX8_findTrusts 101 = .ok (.iconst 1, 1) := by decide +kernel
theorem dX8_findTrusts_102 : decode cX8_findTrusts 102 = .ok (.iadd, 1) := by decide +kernel
theorem dX8_findTrusts_103 : decode cX8_findTrusts 103 = .ok (.invokestatic 54, 3) := by decide +kernel
theorem dX8_findTrusts_106 : decode cX8_findTrusts 106 = .ok (.ireturn, 1) := by decide +kernel
theorem dX8_findNext_0 : decode cX8_findNext 0 = .ok (.iconst (-1), 1) := by decide +kernel
theorem dX8_findNext_1 : decode cX8_findNext 1 = .ok (.istore_n 1, 1) := by decide +kernel
theorem dX8_findNext_2 : decode cX8_findNext 2 = .ok (.aload_n 0, 1) := by decide +kernel
theorem dX8_findNext_3 : decode cX8_findNext 3 = .ok (.getfield 47, 3) := by decide +kernel
theorem dX8_findNext_6 : decode cX8_findNext 6 = .ok (.aload_n 0, 1) := by decide +kernel
theorem dX8_findNext_7 : decode cX8_findNext 7 = .ok (.getfield 44, 3) := by decide +kernel
theorem dX8_findNext_10 : decode cX8_findNext 10 = .ok (.isub, 1) := by decide +kernel
theorem dX8_findNext_11 : decode cX8_findNext 11 = .ok (.iconst 1, 1) := by decide +kernel
theorem dX8_findNext_12 : decode cX8_findNext 12 = .ok (.iadd, 1) := by decide +kernel
theorem dX8_findNext_13 : decode cX8_findNext 13 = .ok (.istore_n 2, 1) := by decide +kernel
theorem dX8_findNext_14 : decode cX8_findNext 14 = .ok (.aload_n 0, 1) := by decide +kernel
theorem dX8_findNext_15 : decode cX8_findNext 15 = .ok (.iconst (-1), 1) := by decide +kernel
theorem dX8_findNext_16 : decode cX8_findNext 16 = .ok (.putfield 63, 3) := by decide +kernel
theorem dX8_findNext_19 : decode cX8_findNext 19 = .ok (.iconst 0, 1) := by decide +kernel
theorem dX8_findNext_20 : decode cX8_findNext 20 = .ok (.istore_n 3, 1) := by decide +kernel
theorem dX8_findNext_21 : decode cX8_findNext 21 = .ok (.iload_n 3, 1) := by decide +kernel
theorem dX8_findNext_22 : decode cX8_findNext 22 = .ok (.aload_n 0, 1) := by decide +kernel
theorem dX8_findNext_23 : decode cX8_findNext 23 = .ok (.getfield 18, 3) := by decide +kernel
theorem dX8_findNext_26 : decode cX8_findNext 26 = .ok (.getfield 26, 3) := by decide +kernel
theorem dX8_findNext_29 : decode cX8_findNext 29 = .ok (.invokevirtual 66, 3) := by decide +kernel
theorem dX8_findNext_32 : decode cX8_findNext 32 = .ok (.if_icmp .ge 96, 3) := by decide +kernel
theorem dX8_findNext_35 : decode cX8_findNext 35 = .ok (.aload_n 0, 1) := by decide +kernel
theorem dX8_findNext_36 : decode cX8_findNext 36 = .ok (.getfield 18, 3) := by decide +kernel
theorem dX8_findNext_39 : decode cX8_findNext 39 = .ok (.getfield 26, 3) := by decide +kernel
theorem dX8_findNext_42 : decode cX8_findNext 42 = .ok (.iload_n 3, 1) := by decide +kernel
theorem dX8_findNext_43 : decode cX8_findNext 43 = .ok (.invokevirtual 69, 3) := by decide +kernel
theorem dX8_findNext_46 : decode cX8_findNext 46 = .ok (.ifCond .eq 6, 3) := by decide +kernel
theorem dX8_findNext_49 : decode cX8_findNext 49 = .ok (.goto 73, 3) := by decide +kernel
theorem dX8_findNext_52 : decode cX8_findNext 52 = .ok (.aload_n 0, 1) := by decide +kernel
theorem dX8_findNext_53 : decode cX8_findNext 53 = .ok (.getfield 18, 3) := by decide +kernel
theorem dX8_findNext_56 : decode cX8_findNext 56 = .ok (.aload_n 0, 1) := by decide +kernel
theorem dX8_findNext_57 : decode cX8_findNext 57 = .ok (.getfield 41, 3) := by decide +kernel
theorem dX8_findNext_60 : decode cX8_findNext 60 = .ok (.iload_n 3, 1) := by decide +kernel
theorem dX8_findNext_61 : decode cX8_findNext 61 = .ok (.iconst (-1), 1) := by decide +kernel
theorem dX8_findNext_62 : decode cX8_findNext 62 = .ok (.invokevirtual 50, 3) := by decide +kernel
theorem dX8_findNext_65 : decode cX8_findNext 65 = .ok (.istore 4, 2) := by decide +kernel
theorem dX8_findNext_67 : decode cX8_findNext 67 = .ok (.iconst 0, 1) := by decide +kernel
theorem dX8_findNext_68 : decode cX8_findNext 68 = .ok (.aload_n 0, 1) := by decide +kernel
theorem dX8_findNext_69 : decode cX8_findNext 69 = .ok (.getfield 47, 3) := by decide +kernel
theorem dX8_findNext_72 : decode cX8_findNext 72 = .ok (.aload_n 0, 1) := by decide +kernel
theorem dX8_findNext_73 : decode cX8_findNext 73 = .ok (.getfield 44, 3) := by decide +kernel
theorem dX8_findNext_76 : decode cX8_findNext 76 = .ok (.iload 4, 2) := by decide +kernel
theorem dX8_findNext_78 : decode cX8_findNext 78 = .ok (.invokestatic 54, 3) := by decide +kernel
theorem dX8_findNext_81 : decode cX8_findNext 81 = .ok (.isub, 1) := by decide +kernel
theorem dX8_findNext_82 : decode cX8_findNext 82 = .ok (.iconst 1, 1) := by decide +kernel
theorem dX8_findNext_83 : decode cX8_findNext 83 = .ok (.iadd, 1) := by decide +kernel
theorem dX8_findNext_84 : decode cX8_findNext 84 = .ok (.invokestatic 54, 3) := by decide +kernel
theorem dX8_findNext_87 : decode cX8_findNext 87 = .ok (.istore 5, 2) := by decide +kernel
theorem dX8_findNext_89 : decode cX8_findNext 89 = .ok (.iload 5, 2) := by decide +kernel
theorem dX8_findNext_91 : decode cX8_findNext 91 = .ok (.iload_n 2, 1) := by decide +kernel
theorem dX8_findNext_92 : decode cX8_findNext 92 = .ok (.iload 5, 2) := by decide +kernel
theorem dX8_findNext_94 : decode cX8_findNext 94 = .ok (.isub, 1) := by decide +kernel
theorem dX8_findNext_95 : decode cX8_findNext 95 = .ok (.invokestatic 54, 3) := by decide +kernel
theorem dX8_findNext_98 : decode cX8_findNext 98 = .ok (.istore 6, 2) := by decide +kernel
theorem dX8_findNext_100 : decode cX8_findNext 100 = .ok (.iload_n 1, 1) := by decide +kernel
theorem dX8_findNext_101 : decode cX8_findNext 101 = .ok (.iconst (-1), 1) := by decide +kernel
theorem dX8_findNext_102 : decode cX8_findNext 102 = .ok (.if_icmp .eq 12, 3) := by decide +kernel
theorem dX8_findNext_105 : decode cX8_findNext 105 = .ok (.iload 6, 2) := by decide +kernel
theorem dX8_findNext_107 : decode cX8_findNext 107 = .ok (.aload_n 0, 1) := by decide +kernel
theorem dX8_findNext_108 : decode cX8_findNext 108 = .ok (.getfield 63, 3) := by decide +kernel
theorem dX8_findNext_111 : decode cX8_findNext 111 = .ok (.if_icmp .ge 11, 3) := by decide +kernel
theorem dX8_findNext_114 : decode cX8_findNext 114 = .ok (.iload_n 3, 1) := by decide +kernel
theorem dX8_findNext_115 : decode cX8_findNext 115 = .ok (.istore_n 1, 1) := by decide +kernel
theorem dX8_findNext_116 : decode cX8_findNext 116 = .ok (.aload_n 0, 1) := by decide +kernel
theorem dX8_findNext_117 : decode cX8_findNext 117 = .ok (.iload 6, 2) := by decide +kernel
theorem dX8_findNext_119 : decode cX8_findNext 119 = .ok (.putfield 63, 3) := by decide +kernel
theorem dX8_findNext_122 : decode cX8_findNext 122 = .ok (.iinc 3 1, 3) := by decide +kernel
theorem dX8_findNext_125 : decode cX8_findNext 125 = .ok (.goto (-104), 3) := by decide +kernel
theorem dX8_findNext_128 : decode cX8_findNext 128 = .ok (.iload_n 1, 1) := by decide +kernel
theorem dX8_findNext_129 : decode cX8_findNext 129 = .ok (.ireturn, 1) := by decide +kernel
theorem dX9_init_0 : decode cX9_init 0 = .ok (.aload_n 0, 1) := by decide +kernel
theorem dX9_init_1 : decode cX9_init 1 = .ok (.invokespecial 3, 3) := by decide +kernel
theorem dX9_init_4 : decode cX9_init 4 = .ok (.aload_n 0, 1) := by decide +kernel
theorem dX9_init_5 : decode cX9_init 5 = .ok (.new 9, 3) := by decide +kernel
theorem dX9_init_8 : decode cX9_init 8 = .ok (.dup, 1) := by decide +kernel
theorem dX9_init_9 : decode cX9_init 9 = .ok (.invokespecial 11, 3) := by decide +kernel
theorem dX9_init_12 : decode cX9_init 12 = .ok (.putfield 12, 3) := by decide +kernel
theorem dX9_init_15 : decode cX9_init 15 = .ok (.aload_n 0, 1) := by decide +kernel
theorem dX9_init_16 : decode cX9_init 16 = .ok (.aload_n 1, 1) := by decide +kernel
theorem dX9_init_17 : decode cX9_init 17 = .ok (.putfield 18, 3) := by decide +kernel
theorem dX9_init_20 : decode cX9_init 20 = .ok (.aload_n 0, 1) := by decide +kernel
theorem dX9_init_21 : decode cX9_init 21 = .ok (.aload_n 2, 1) := by decide +kernel
theorem dX9_init_22 : decode cX9_init 22 = .ok (.putfield 22, 3) := by decide +kernel
theorem dX9_init_25 : decode cX9_init 25 = .ok (.return_, 1) := by decide +kernel
theorem dX9_fearOf_0 : decode cX9_fearOf 0 = .ok (.aload_n 0, 1) := by decide +kernel
theorem dX9_fearOf_1 : decode cX9_fearOf 1 = .ok (.getfield 18, 3) := by decide +kernel
theorem dX9_fearOf_4 : decode cX9_fearOf 4 = .ok (.getfield 26, 3) := by decide +kernel
theorem dX9_fearOf_7 : decode cX9_fearOf 7 = .ok (.iconst 0, 1) := by decide +kernel
theorem dX9_fearOf_8 : decode cX9_fearOf 8 = .ok (.invokevirtual 32, 3) := by decide +kernel
theorem dX9_fearOf_11 : decode cX9_fearOf 11 = .ok (.ifCond .ne 15, 3) := by decide +kernel
theorem dX9_fearOf_14 : decode cX9_fearOf 14 = .ok (.bipush 10, 2) := by decide +kernel
theorem dX9_fearOf_16 : decode cX9_fearOf 16 = .ok (.aload_n 0, 1) := by decide +kernel
theorem dX9_fearOf_17 : decode cX9_fearOf 17 = .ok (.getfield 18, 3) := by decide +kernel
theorem dX9_fearOf_20 : decode cX9_fearOf 20 = .ok (.iload_n 2, 1) := by decide +kernel
theorem dX9_fearOf_21 : decode cX9_fearOf 21 = .ok (.invokevirtual 38, 3) := by decide +kernel
theorem dX9_fearOf_24 : decode cX9_fearOf 24 = .ok (.imul, 1) := by decide +kernel
theorem dX9_fearOf_25 : decode cX9_fearOf 25 = .ok (.ireturn, 1) := by decide +kernel
theorem dX9_fearOf_26 : decode cX9_fearOf 26 = .ok (.aload_n 0, 1) := by decide +kernel
theorem dX9_fearOf_27 : decode cX9_fearOf 27 = .ok (.iload_n 1, 1) := by decide +kernel
theorem dX9_fearOf_28 : decode cX9_fearOf 28 = .ok (.iload_n 2, 1) := by decide +kernel
theorem dX9_fearOf_29 : decode cX9_fearOf 29 = .ok (.iload_n 3, 1) := by decide +kernel
theorem dX9_fearOf_30 : decode cX9_fearOf 30 = .ok (.invokevirtual 42, 3) := by decide +kernel
theorem dX9_fearOf_33 : decode cX9_fearOf 33 = .ok (.aload_n 0, 1) := by decide +kernel
theorem dX9_fearOf_34 : decode cX9_fearOf 34 = .ok (.getfield 12, 3) := by decide +kernel
theorem dX9_fearOf_37 : decode cX9_fearOf 37 = .ok (.aload_n 0, 1) := by decide +kernel
theorem dX9_fearOf_38 : decode cX9_fearOf 38 = .ok (.getfield 18, 3) := by decide +kernel
theorem dX9_fearOf_41 : decode cX9_fearOf 41 = .ok (.getfield 26, 3) := by decide +kernel
theorem dX9_fearOf_44 : decode cX9_fearOf 44 = .ok (.iconst 0, 1) := by decide +kernel
theorem dX9_fearOf_45 : decode cX9_fearOf 45 = .ok (.invokevirtual 46, 3) := by decide +kernel
theorem dX9_fearOf_48 : decode cX9_fearOf 48 = .ok (.invokestatic 50, 3) := by decide +kernel
theorem dX9_fearOf_51 : decode cX9_fearOf 51 = .ok (.ireturn, 1) := by decide +kernel
theorem dX9_trustAfter_0 : decode cX9_trustAfter 0 = .ok (.aload_n 0, 1) := by decide +kernel
theorem dX9_trustAfter_1 : decode cX9_trustAfter 1 = .ok (.getfield 22, 3) := by decide +kernel
theorem dX9_trustAfter_4 : decode cX9_trustAfter 4 = .ok (.iload_n 1, 1) := by decide +kernel
theorem dX9_trustAfter_5 : decode cX9_trustAfter 5 = .ok (.invokevirtual 53, 3) := by decide +kernel
theorem dX9_trustAfter_8 : decode cX9_trustAfter 8 = .ok (.istore 5, 2) := by decide +kernel
theorem dX9_trustAfter_10 : decode cX9_trustAfter 10 = .ok (.iload 4, 2) := by decide +kernel
theorem dX9_trustAfter_12 : decode cX9_trustAfter 12 = .ok (.iload 5, 2) := by decide +kernel
theorem dX9_trustAfter_14 : decode cX9_trustAfter 14 = .ok (.if_icmp .gt 7, 3) := by decide +kernel
theorem dX9_trustAfter_17 : decode cX9_trustAfter 17 = .ok (.iconst 1, 1) := by decide +kernel
theorem dX9_trustAfter_18 : decode cX9_trustAfter 18 = .ok (.goto 4, 3) := by decide +kernel
theorem dX9_trustAfter_21 : decode cX9_trustAfter 21 = .ok (.iconst 2, 1) := by decide +kernel
theorem dX9_trustAfter_22 : decode cX9_trustAfter 22 = .ok (.istore 6, 2) := by decide +kernel
theorem dX9_trustAfter_24 : decode cX9_trustAfter 24 = .ok (.aload_n 0, 1) := by decide +kernel
theorem dX9_trustAfter_25 : decode cX9_trustAfter 25 = .ok (.getfield 18, 3) := by decide +kernel
theorem dX9_trustAfter_28 : decode cX9_trustAfter 28 = .ok (.getfield 26, 3) := by decide +kernel
theorem dX9_trustAfter_31 : decode cX9_trustAfter 31 = .ok (.iload 6, 2) := by decide +kernel
theorem dX9_trustAfter_33 : decode cX9_trustAfter 33 = .ok (.invokevirtual 32, 3) := by decide +kernel
theorem dX9_trustAfter_36 : decode cX9_trustAfter 36 = .ok (.ifCond .ne 6, 3) := by decide +kernel
theorem dX9_trustAfter_39 : decode cX9_trustAfter 39 = .ok (.iload 5, 2) := by decide +kernel
theorem dX9_trustAfter_41 : decode cX9_trustAfter 41 = .ok (.ireturn, 1) := by decide +kernel
theorem dX9_trustAfter_42 : decode cX9_trustAfter 42 = .ok (.aload_n 0, 1) := by decide +kernel
theorem dX9_trustAfter_43 : decode cX9_trustAfter 43 = .ok (.iload_n 1, 1) := by decide +kernel
theorem dX9_trustAfter_44 : decode cX9_trustAfter 44 = .ok (.iload_n 2, 1) := by decide +kernel
theorem dX9_trustAfter_45 : decode cX9_trustAfter 45 = .ok (.iload_n 3, 1) := by decide +kernel
theorem dX9_trustAfter_46 : decode cX9_trustAfter 46 = .ok (.invokevirtual 42, 3) := by decide +kernel
theorem dX9_trustAfter_49 : decode cX9_trustAfter 49 = .ok (.aload_n 0, 1) := by decide +kernel
theorem dX9_trustAfter_50 : decode cX9_trustAfter 50 = .ok (.getfield 12, 3) := by decide +kernel
theorem dX9_trustAfter_53 : decode cX9_trustAfter 53 = .ok (.getfield 58, 3) := by decide +kernel
theorem dX9_trustAfter_56 : decode cX9_trustAfter 56 = .ok (.iconst 3, 1) := by decide +kernel
theorem dX9_trustAfter_57 : decode cX9_trustAfter 57 = .ok (.iload 5, 2) := by decide +kernel
theorem dX9_trustAfter_59 : decode cX9_trustAfter 59 = .ok (.iastore, 1) := by decide +kernel
theorem dX9_trustAfter_60 : decode cX9_trustAfter 60 = .ok (.aload_n 0, 1) := by decide +kernel
theorem dX9_trustAfter_61 : decode cX9_trustAfter 61 = .ok (.getfield 12, 3) := by decide +kernel
theorem dX9_trustAfter_64 : decode cX9_trustAfter 64 = .ok (.getfield 58, 3) := by decide +kernel
theorem dX9_trustAfter_67 : decode cX9_trustAfter 67 = .ok (.bipush 23, 2) := by decide +kernel
theorem dX9_trustAfter_69 : decode cX9_trustAfter 69 = .ok (.iload 4, 2) := by decide +kernel
theorem dX9_trustAfter_71 : decode cX9_trustAfter 71 = .ok (.iastore, 1) := by decide +kernel
theorem dX9_trustAfter_72 : decode cX9_trustAfter 72 = .ok (.aload_n 0, 1) := by decide +kernel
theorem dX9_trustAfter_73 : decode cX9_trustAfter 73 = .ok (.getfield 12, 3) := by decide +kernel
theorem dX9_trustAfter_76 : decode cX9_trustAfter 76 = .ok (.aload_n 0, 1) := by decide +kernel
theorem dX9_trustAfter_77 : decode cX9_trustAfter 77 = .ok (.getfield 18, 3) := by decide +kernel
theorem dX9_trustAfter_80 : decode cX9_trustAfter 80 = .ok (.getfield 26, 3) := by decide +kernel
theorem dX9_trustAfter_83 : decode cX9_trustAfter 83 = .ok (.iload 6, 2) := by decide +kernel
theorem dX9_trustAfter_85 : decode cX9_trustAfter 85 = .ok (.invokevirtual 46, 3) := by decide +kernel
theorem dX9_trustAfter_88 : decode cX9_trustAfter 88 = .ok (.invokestatic 50, 3) := by decide +kernel
theorem dX9_trustAfter_91 : decode cX9_trustAfter 91 = .ok (.ireturn, 1) := by decide +kernel
theorem dX9_attempt_0 : decode cX9_attempt 0 = .ok (.aload_n 0, 1) := by decide +kernel
theorem dX9_attempt_1 : decode cX9_attempt 1 = .ok (.iload_n 1, 1) := by decide +kernel
theorem dX9_attempt_2 : decode cX9_attempt 2 = .ok (.iload_n 2, 1) := by decide +kernel
theorem dX9_attempt_3 : decode cX9_attempt 3 = .ok (.iload_n 3, 1) := by decide +kernel
theorem dX9_attempt_4 : decode cX9_attempt 4 = .ok (.invokevirtual 62, 3) := by decide +kernel
theorem dX9_attempt_7 : decode cX9_attempt 7 = .ok (.istore 4, 2) := by decide +kernel
theorem dX9_attempt_9 : decode cX9_attempt 9 = .ok (.iload 4, 2) := by decide +kernel
theorem dX9_attempt_11 : decode cX9_attempt 11 = .ok (.aload_n 0, 1) := by decide +kernel
theorem dX9_attempt_12 : decode cX9_attempt 12 = .ok (.getfield 22, 3) := by decide +kernel
theorem dX9_attempt_15 : decode cX9_attempt 15 = .ok (.iload_n 1, 1) := by decide +kernel
theorem dX9_attempt_16 : decode cX9_attempt 16 = .ok (.invokevirtual 53, 3) := by decide +kernel
theorem dX9_attempt_19 : decode cX9_attempt 19 = .ok (.if_icmp .gt 7, 3) := by decide +kernel
theorem dX9_attempt_22 : decode cX9_attempt 22 = .ok (.iconst 1, 1) := by decide +kernel
theorem dX9_attempt_23 : decode cX9_attempt 23 = .ok (.goto 4, 3) := by decide +kernel
theorem dX9_attempt_26 : decode cX9_attempt 26 = .ok (.iconst 0, 1) := by decide +kernel
theorem dX9_attempt_27 : decode cX9_attempt 27 = .ok (.istore 5, 2) := by decide +kernel
theorem dX9_attempt_29 : decode cX9_attempt 29 = .ok (.aload_n 0, 1) := by decide +kernel
theorem dX9_attempt_30 : decode cX9_attempt 30 = .ok (.getfield 22, 3) := by decide +kernel
theorem dX9_attempt_33 : decode cX9_attempt 33 = .ok (.iload_n 1, 1) := by decide +kernel
theorem dX9_attempt_34 : decode cX9_attempt 34 = .ok (.aload_n 0, 1) := by decide +kernel
theorem dX9_attempt_35 : decode cX9_attempt 35 = .ok (.iload_n 1, 1) := by decide +kernel
theorem dX9_attempt_36 : decode cX9_attempt 36 = .ok (.iload_n 2, 1) := by decide +kernel
theorem dX9_attempt_37 : decode cX9_attempt 37 = .ok (.iload_n 3, 1) := by decide +kernel
theorem dX9_attempt_38 : decode cX9_attempt 38 = .ok (.iload 4, 2) := by decide +kernel
theorem dX9_attempt_40 : decode cX9_attempt 40 = .ok (.invokevirtual 66, 3) := by decide +kernel
theorem dX9_attempt_43 : decode cX9_attempt 43 = .ok (.invokevirtual 70, 3) := by decide +kernel
theorem dX9_attempt_46 : decode cX9_attempt 46 = .ok (.iload 5, 2) := by decide +kernel
theorem dX9_attempt_48 : decode cX9_attempt 48 = .ok (.iconst 1, 1) := by decide +kernel
theorem dX9_attempt_49 : decode cX9_attempt 49 = .ok (.if_icmp .ne 15, 3) := by decide +kernel
theorem dX9_attempt_52 : decode cX9_attempt 52 = .ok (.aload_n 0, 1) := by decide +kernel
theorem dX9_attempt_53 : decode cX9_attempt 53 = .ok (.getfield 22, 3) := by decide +kernel
theorem dX9_attempt_56 : decode cX9_attempt 56 = .ok (.iload_n 1, 1) := by decide +kernel
theorem dX9_attempt_57 : decode cX9_attempt 57 = .ok (.iload_n 2, 1) := by decide +kernel
theorem dX9_attempt_58 : decode cX9_attempt 58 = .ok (.invokevirtual 74, 3) := by decide +kernel
theorem dX9_attempt_61 : decode cX9_attempt 61 = .ok (.goto 11, 3) := by decide +kernel
theorem dX9_attempt_64 : decode cX9_attempt 64 = .ok (.aload_n 0, 1) := by decide +kernel
theorem dX9_attempt_65 : decode cX9_attempt 65 = .ok (.getfield 22, 3) := by decide +kernel
theorem dX9_attempt_68 : decode cX9_attempt 68 = .ok (.iload_n 1, 1) := by decide +kernel
theorem dX9_attempt_69 : decode cX9_attempt 69 = .ok (.invokevirtual 77, 3) := by decide +kernel
theorem dX9_attempt_72 : decode cX9_attempt 72 = .ok (.aload_n 0, 1) := by decide +kernel
theorem dX9_attempt_73 : decode cX9_attempt 73 = .ok (.getfield 22, 3) := by decide +kernel
theorem dX9_attempt_76 : decode cX9_attempt 76 = .ok (.iload_n 1, 1) := by decide +kernel
theorem dX9_attempt_77 : decode cX9_attempt 77 = .ok (.iload_n 2, 1) := by decide +kernel
theorem dX9_attempt_78 : decode cX9_attempt 78 = .ok (.iload 5, 2) := by decide +kernel
theorem dX9_attempt_80 : decode cX9_attempt 80 = .ok (.invokevirtual 81, 3) := by decide +kernel
theorem dX9_attempt_83 : decode cX9_attempt 83 = .ok (.iload 5, 2) := by decide +kernel
theorem dX9_attempt_85 : decode cX9_attempt 85 = .ok (.ireturn, 1) := by decide +kernel
theorem dX9_coinsUpTo_0 : decode cX9_coinsUpTo 0 = .ok (.iload_n 2, 1) := by decide +kernel
theorem dX9_coinsUpTo_1 : decode cX9_coinsUpTo 1 = .ok (.aload_n 0, 1) := by decide +kernel
theorem dX9_coinsUpTo_2 : decode cX9_coinsUpTo 2 = .ok (.getfield 22, 3) := by decide +kernel
theorem dX9_coinsUpTo_5 : decode cX9_coinsUpTo 5 = .ok (.iload_n 1, 1) := by decide +kernel
theorem dX9_coinsUpTo_6 : decode cX9_coinsUpTo 6 = .ok (.invokevirtual 53, 3) := by decide +kernel
theorem dX9_coinsUpTo_9 : decode cX9_coinsUpTo 9 = .ok (.isub, 1) := by decide +kernel
theorem dX9_coinsUpTo_10 : decode cX9_coinsUpTo 10 = .ok (.istore_n 3, 1) := by decide +kernel
theorem dX9_coinsUpTo_11 : decode cX9_coinsUpTo 11 = .ok (.iload_n 3, 1) := by decide +kernel
theorem dX9_coinsUpTo_12 : decode cX9_coinsUpTo 12 = .ok (.ifCond .le 14, 3) := by decide +kernel
theorem dX9_coinsUpTo_15 : decode cX9_coinsUpTo 15 = .ok (.aload_n 0, 1) := by decide +kernel
theorem dX9_coinsUpTo_16 : decode cX9_coinsUpTo 16 = .ok (.getfield 18, 3) := by decide +kernel
theorem dX9_coinsUpTo_19 : decode cX9_coinsUpTo 19 = .ok (.getfield 84, 3) := by decide +kernel
theorem dX9_coinsUpTo_22 : decode cX9_coinsUpTo 22 = .ok (.iconst 1, 1) := by decide +kernel
theorem dX9_coinsUpTo_23 : decode cX9_coinsUpTo 23 = .ok (.if_icmp .ge 5, 3) := by decide +kernel
theorem dX9_coinsUpTo_26 : decode cX9_coinsUpTo 26 = .ok (.iconst 0, 1) := by decide +kernel
theorem dX9_coinsUpTo_27 : decode cX9_coinsUpTo 27 = .ok (.ireturn, 1) := by decide +kernel
theorem dX9_coinsUpTo_28 : decode cX9_coinsUpTo 28 = .ok (.iload_n 3, 1) := by decide +kernel
theorem dX9_coinsUpTo_29 : decode cX9_coinsUpTo 29 = .ok (.aload_n 0, 1) := by decide +kernel
theorem dX9_coinsUpTo_30 : decode cX9_coinsUpTo 30 = .ok (.getfield 18, 3) := by decide +kernel
theorem dX9_coinsUpTo_33 : decode cX9_coinsUpTo 33 = .ok (.getfield 84, 3) := by decide +kernel
theorem dX9_coinsUpTo_36 : decode cX9_coinsUpTo 36 = .ok (.iadd, 1) := by decide +kernel
theorem dX9_coinsUpTo_37 : decode cX9_coinsUpTo 37 = .ok (.iconst 1, 1) := by decide +kernel
theorem dX9_coinsUpTo_38 : decode cX9_coinsUpTo 38 = .ok (.isub, 1) := by decide +kernel
theorem dX9_coinsUpTo_39 : decode cX9_coinsUpTo 39 = .ok (.aload_n 0, 1) := by decide +kernel
theorem dX9_coinsUpTo_40 : decode cX9_coinsUpTo 40 = .ok (.getfield 18, 3) := by decide +kernel
theorem dX9_coinsUpTo_43 : decode cX9_coinsUpTo 43 = .ok (.getfield 84, 3) := by decide +kernel
theorem dX9_coinsUpTo_46 : decode cX9_coinsUpTo 46 = .ok (.idiv, 1) := by decide +kernel
theorem dX9_coinsUpTo_47 : decode cX9_coinsUpTo 47 = .ok (.ireturn, 1) := by decide +kernel
theorem dX9_countCrowds_0 : decode cX9_countCrowds 0 = .ok (.iconst 0, 1) := by decide +kernel
theorem dX9_countCrowds_1 : decode cX9_countCrowds 1 = .ok (.istore_n 1, 1) := by decide +kernel
theorem dX9_countCrowds_2 : decode cX9_countCrowds 2 = .ok (.iload_n 1, 1) := by decide +kernel
theorem dX9_countCrowds_3 : decode cX9_countCrowds 3 = .ok (.bipush 48, 2) := by decide +kernel
theorem dX9_countCrowds_5 : decode cX9_countCrowds 5 = .ok (.if_icmp .ge 29, 3) := by decide +kernel
theorem dX9_countCrowds_8 : decode cX9_countCrowds 8 = .ok (.aload_n 0, 1) := by decide +kernel
theorem dX9_countCrowds_9 : decode cX9_countCrowds 9 = .ok (.getfield 12, 3) := by decide +kernel
theorem dX9_countCrowds_12 : decode cX9_countCrowds 12 = .ok (.getfield 88, 3) := by decide +kernel
theorem dX9_countCrowds_15 : decode cX9_countCrowds 15 = .ok (.iload_n 1, 1) := by decide +kernel
theorem dX9_countCrowds_16 : decode cX9_countCrowds 16 = .ok (.aload_n 0, 1) := by decide +kernel
theorem dX9_countCrowds_17 : decode cX9_countCrowds 17 = .ok (.getfield 22, 3) := by decide +kernel
theorem dX9_countCrowds_20 : decode cX9_countCrowds 20 = .ok (.iload_n 1, 1) := by decide +kernel
theorem dX9_countCrowds_21 : decode cX9_countCrowds 21 = .ok (.invokevirtual 91, 3) := by decide +kernel
theorem dX9_countCrowds_24 : decode cX9_countCrowds 24 = .ok (.invokestatic 94, 3) := by decide +kernel
theorem dX9_countCrowds_27 : decode cX9_countCrowds 27 = .ok (.iastore, 1) := by decide +kernel
theorem dX9_countCrowds_28 : decode cX9_countCrowds 28 = .ok (.iinc 1 1, 3) := by decide +kernel
theorem dX9_countCrowds_31 : decode cX9_countCrowds 31 = .ok (.goto (-29), 3) := by decide +kernel
theorem dX9_countCrowds_34 : decode cX9_countCrowds 34 = .ok (.return_, 1) := by decide +kernel
theorem dX9_answerFor_0 : decode cX9_answerFor 0 = .ok (.iconst 1, 1) := by decide +kernel
theorem dX9_answerFor_1 : decode cX9_answerFor 1 = .ok (.aload_n 0, 1) := by decide +kernel
theorem dX9_answerFor_2 : decode cX9_answerFor 2 = .ok (.getfield 18, 3) := by decide +kernel
theorem dX9_answerFor_5 : decode cX9_answerFor 5 = .ok (.getfield 99, 3) := by decide +kernel
theorem dX9_answerFor_8 : decode cX9_answerFor 8 = .ok (.invokestatic 102, 3) := by decide +kernel
theorem dX9_answerFor_11 : decode cX9_answerFor 11 = .ok (.istore 4, 2) := by decide +kernel
theorem dX9_answerFor_13 : decode cX9_answerFor 13 = .ok (.aload_n 0, 1) := by decide +kernel
theorem dX9_answerFor_14 : decode cX9_answerFor 14 = .ok (.getfield 18, 3) := by decide +kernel
theorem dX9_answerFor_17 : decode cX9_answerFor 17 = .ok (.iload_n 3, 1) := by decide +kernel
theorem dX9_answerFor_18 : decode cX9_answerFor 18 = .ok (.invokevirtual 108, 3) := by decide +kernel
theorem dX9_answerFor_21 : decode cX9_answerFor 21 = .ok (.ifCond .eq 8, 3) := by decide +kernel
theorem dX9_answerFor_24 : decode cX9_answerFor 24 = .ok (.bipush 99, 2) := by decide +kernel
theorem dX9_answerFor_26 : decode cX9_answerFor 26 = .ok (.goto 10, 3) := by decide +kernel
theorem dX9_answerFor_29 : decode cX9_answerFor 29 = .ok (.aload_n 0, 1) := by decide +kernel
theorem dX9_answerFor_30 : decode cX9_answerFor 30 = .ok (.iload_n 2, 1) := by decide +kernel
theorem dX9_answerFor_31 : decode cX9_answerFor 31 = .ok (.iload_n 3, 1) := by decide +kernel
theorem dX9_answerFor_32 : decode cX9_answerFor 32 = .ok (.iconst (-1), 1) := by decide +kernel
theorem dX9_answerFor_33 : decode cX9_answerFor 33 = .ok (.invokevirtual 62, 3) := by decide +kernel
theorem dX9_answerFor_36 : decode cX9_answerFor 36 = .ok (.istore 5, 2) := by decide +kernel
theorem dX9_answerFor_38 : decode cX9_answerFor 38 = .ok (.aload_n 0, 1) := by decide +kernel
theorem dX9_answerFor_39 : decode cX9_answerFor 39 = .ok (.iload_n 2, 1) := by decide +kernel
theorem dX9_answerFor_40 : decode cX9_answerFor 40 = .ok (.iload_n 3, 1) := by decide +kernel
theorem dX9_answerFor_41 : decode cX9_answerFor 41 = .ok (.iconst (-1), 1) := by decide +kernel
theorem dX9_answerFor_42 : decode cX9_answerFor 42 = .ok (.invokevirtual 42, 3) := by decide +kernel
theorem dX9_answerFor_45 : decode cX9_answerFor 45 = .ok (.aload_n 0, 1) := by decide +kernel
theorem dX9_answerFor_46 : decode cX9_answerFor 46 = .ok (.getfield 12, 3) := by decide +kernel
theorem dX9_answerFor_49 : decode cX9_answerFor 49 = .ok (.getfield 58, 3) := by decide +kernel
theorem dX9_answerFor_52 : decode cX9_answerFor 52 = .ok (.bipush 24, 2) := by decide +kernel
theorem dX9_answerFor_54 : decode cX9_answerFor 54 = .ok (.iload_n 3, 1) := by decide +kernel
theorem dX9_answerFor_55 : decode cX9_answerFor 55 = .ok (.iastore, 1) := by decide +kernel
theorem dX9_answerFor_56 : decode cX9_answerFor 56 = .ok (.aload_n 0, 1) := by decide +kernel
theorem dX9_answerFor_57 : decode cX9_answerFor 57 = .ok (.getfield 12, 3) := by decide +kernel
theorem dX9_answerFor_60 : decode cX9_answerFor 60 = .ok (.getfield 58, 3) := by decide +kernel
theorem dX9_answerFor_63 : decode cX9_answerFor 63 = .ok (.bipush 25, 2) := by decide +kernel
theorem dX9_answerFor_65 : decode cX9_answerFor 65 = .ok (.iload_n 3, 1) := by decide +kernel
theorem dX9_answerFor_66 : decode cX9_answerFor 66 = .ok (.iload 4, 2) := by decide +kernel
theorem dX9_answerFor_68 : decode cX9_answerFor 68 = .ok (.irem, 1) := by decide +kernel
theorem dX9_answerFor_69 : decode cX9_answerFor 69 = .ok (.iastore, 1) := by decide +kernel
theorem dX9_answerFor_70 : decode cX9_answerFor 70 = .ok (.aload_n 0, 1) := by decide +kernel
theorem dX9_answerFor_71 : decode cX9_answerFor 71 = .ok (.getfield 12, 3) := by decide +kernel
theorem dX9_answerFor_74 : decode cX9_answerFor 74 = .ok (.getfield 58, 3) := by decide +kernel
theorem dX9_answerFor_77 : decode cX9_answerFor 77 = .ok (.bipush 26, 2) := by decide +kernel
theorem dX9_answerFor_79 : decode cX9_answerFor 79 = .ok (.iload_n 3, 1) := by decide +kernel
theorem dX9_answerFor_80 : decode cX9_answerFor 80 = .ok (.iload 4, 2) := by decide +kernel
theorem dX9_answerFor_82 : decode cX9_answerFor 82 = .ok (.idiv, 1) := by decide +kernel
theorem dX9_answerFor_83 : decode cX9_answerFor 83 = .ok (.iastore, 1) := by decide +kernel
theorem dX9_answerFor_84 : decode cX9_answerFor 84 = .ok (.aload_n 0, 1) := by decide +kernel
theorem dX9_answerFor_85 : decode cX9_answerFor 85 = .ok (.getfield 12, 3) := by decide +kernel
theorem dX9_answerFor_88 : decode cX9_answerFor 88 = .ok (.getfield 58, 3) := by decide +kernel
theorem dX9_answerFor_91 : decode cX9_answerFor 91 = .ok (.bipush 12, 2) := by decide +kernel
theorem dX9_answerFor_93 : decode cX9_answerFor 93 = .ok (.iload 5, 2) := by decide +kernel
theorem dX9_answerFor_95 : decode cX9_answerFor 95 = .ok (.iastore, 1) := by decide +kernel
theorem dX9_answerFor_96 : decode cX9_answerFor 96 = .ok (.aload_n 0, 1) := by decide +kernel
theorem dX9_answerFor_97 : decode cX9_answerFor 97 = .ok (.getfield 12, 3) := by decide +kernel
theorem dX9_answerFor_100 : decode cX9_answerFor 100 = .ok (.getfield 58, 3) := by decide +kernel
theorem dX9_answerFor_103 : decode cX9_answerFor 103 = .ok (.iconst 3, 1) := by decide +kernel
theorem dX9_answerFor_104 : decode cX9_answerFor 104 = .ok (.aload_n 0, 1) := by decide +kernel
theorem dX9_answerFor_105 : decode cX9_answerFor 105 = .ok (.getfield 22, 3) := by decide +kernel
theorem dX9_answerFor_108 : decode cX9_answerFor 108 = .ok (.iload_n 2, 1) := by decide +kernel
theorem dX9_answerFor_109 : decode cX9_answerFor 109 = .ok (.invokevirtual 53, 3) := by decide +kernel
theorem dX9_answerFor_112 : decode cX9_answerFor 112 = .ok (.iastore, 1) := by decide +kernel
theorem dX9_answerFor_113 : decode cX9_answerFor 113 = .ok (.aload_n 0, 1) := by decide +kernel
theorem dX9_answerFor_114 : decode cX9_answerFor 114 = .ok (.getfield 12, 3) := by decide +kernel
theorem dX9_answerFor_117 : decode cX9_answerFor 117 = .ok (.aload_n 1, 1) := by decide +kernel
theorem dX9_answerFor_118 : decode cX9_answerFor 118 = .ok (.iconst 0, 1) := by decide +kernel
theorem dX9_answerFor_119 : decode cX9_answerFor 119 = .ok (.invokevirtual 46, 3) := by decide +kernel
theorem dX9_answerFor_122 : decode cX9_answerFor 122 = .ok (.ireturn, 1) := by decide +kernel
theorem dX9_look_0 : decode cX9_look 0 = .ok (.aload_n 0, 1) := by decide +kernel
theorem dX9_look_1 : decode cX9_look 1 = .ok (.getfield 12, 3) := by decide +kernel
theorem dX9_look_4 : decode cX9_look 4 = .ok (.getfield 58, 3) := by decide +kernel
theorem dX9_look_7 : decode cX9_look 7 = .ok (.astore 4, 2) := by decide +kernel
theorem dX9_look_9 : decode cX9_look 9 = .ok (.aload 4, 2) := by decide +kernel
theorem dX9_look_11 : decode cX9_look 11 = .ok (.bipush 16, 2) := by decide +kernel
theorem dX9_look_13 : decode cX9_look 13 = .ok (.aload_n 0, 1) := by decide +kernel
theorem dX9_look_14 : decode cX9_look 14 = .ok (.getfield 18, 3) := by decide +kernel
theorem dX9_look_17 : decode cX9_look 17 = .ok (.iload_n 2, 1) := by decide +kernel
theorem dX9_look_18 : decode cX9_look 18 = .ok (.invokevirtual 38, 3) := by decide +kernel
theorem dX9_look_21 : decode cX9_look 21 = .ok (.iastore, 1) := by decide +kernel
theorem dX9_look_22 : decode cX9_look 22 = .ok (.aload 4, 2) := by decide +kernel
theorem dX9_look_24 : decode cX9_look 24 = .ok (.bipush 17, 2) := by decide +kernel
theorem dX9_look_26 : decode cX9_look 26 = .ok (.aload_n 0, 1) := by decide +kernel
theorem dX9_look_27 : decode cX9_look 27 = .ok (.getfield 18, 3) := by decide +kernel
theorem dX9_look_30 : decode cX9_look 30 = .ok (.iload_n 2, 1) := by decide +kernel
theorem dX9_look_31 : decode cX9_look 31 = .ok (.invokevirtual 111, 3) := by decide +kernel
theorem dX9_look_34 : decode cX9_look 34 = .ok (.iastore, 1) := by decide +kernel
theorem dX9_look_35 : decode cX9_look 35 = .ok (.aload 4, 2) := by decide +kernel
theorem dX9_look_37 : decode cX9_look 37 = .ok (.bipush 18, 2) := by decide +kernel
theorem dX9_look_39 : decode cX9_look 39 = .ok (.aload_n 0, 1) := by decide +kernel
theorem dX9_look_40 : decode cX9_look 40 = .ok (.getfield 18, 3) := by decide +kernel
theorem dX9_look_43 : decode cX9_look 43 = .ok (.iload_n 2, 1) := by decide +kernel
theorem dX9_look_44 : decode cX9_look 44 = .ok (.invokevirtual 114, 3) := by decide +kernel
theorem dX9_look_47 : decode cX9_look 47 = .ok (.iastore, 1) := by decide +kernel
theorem dX9_look_48 : decode cX9_look 48 = .ok (.aload 4, 2) := by decide +kernel
theorem dX9_look_50 : decode cX9_look 50 = .ok (.bipush 19, 2) := by decide +kernel
theorem dX9_look_52 : decode cX9_look 52 = .ok (.aload_n 0, 1) := by decide +kernel
theorem dX9_look_53 : decode cX9_look 53 = .ok (.getfield 18, 3) := by decide +kernel
theorem dX9_look_56 : decode cX9_look 56 = .ok (.aload_n 0, 1) := by decide +kernel
theorem dX9_look_57 : decode cX9_look 57 = .ok (.getfield 22, 3) := by decide +kernel
theorem dX9_look_60 : decode cX9_look 60 = .ok (.invokevirtual 117, 3) := by decide +kernel
theorem dX9_look_63 : decode cX9_look 63 = .ok (.invokevirtual 121, 3) := by decide +kernel
theorem dX9_look_66 : decode cX9_look 66 = .ok (.iastore, 1) := by decide +kernel
theorem dX9_look_67 : decode cX9_look 67 = .ok (.aload 4, 2) := by decide +kernel
theorem dX9_look_69 : decode cX9_look 69 = .ok (.bipush 20, 2) := by decide +kernel
theorem dX9_look_71 : decode cX9_look 71 = .ok (.aload_n 0, 1) := by decide +kernel
theorem dX9_look_72 : decode cX9_look 72 = .ok (.getfield 22, 3) := by decide +kernel
theorem dX9_look_75 : decode cX9_look 75 = .ok (.iload_n 1, 1) := by decide +kernel
theorem dX9_look_76 : decode cX9_look 76 = .ok (.invokevirtual 124, 3) := by decide +kernel
theorem dX9_look_79 : decode cX9_look 79 = .ok (.iastore, 1) := by decide +kernel
theorem dX9_look_80 : decode cX9_look 80 = .ok (.aload 4, 2) := by decide +kernel
theorem dX9_look_82 : decode cX9_look 82 = .ok (.bipush 6, 2) := by decide +kernel
theorem dX9_look_84 : decode cX9_look 84 = .ok (.aload_n 0, 1) := by decide +kernel
theorem dX9_look_85 : decode cX9_look 85 = .ok (.getfield 18, 3) := by decide +kernel
theorem dX9_look_88 : decode cX9_look 88 = .ok (.aload_n 0, 1) := by decide +kernel
theorem dX9_look_89 : decode cX9_look 89 = .ok (.getfield 22, 3) := by decide +kernel
theorem dX9_look_92 : decode cX9_look 92 = .ok (.iload_n 1, 1) := by decide +kernel
theorem dX9_look_93 : decode cX9_look 93 = .ok (.invokevirtual 127, 3) := by decide +kernel
theorem dX9_look_96 : decode cX9_look 96 = .ok (.invokevirtual 130, 3) := by decide +kernel
theorem dX9_look_99 : decode cX9_look 99 = .ok (.iastore, 1) := by decide +kernel
theorem dX9_look_100 : decode cX9_look 100 = .ok (.aload 4, 2) := by decide +kernel
theorem dX9_look_102 : decode cX9_look 102 = .ok (.bipush 21, 2) := by decide +kernel
theorem dX9_look_104 : decode cX9_look 104 = .ok (.iload_n 3, 1) := by decide +kernel
theorem dX9_look_105 : decode cX9_look 105 = .ok (.iconst (-1), 1) := by decide +kernel
theorem dX9_look_106 : decode cX9_look 106 = .ok (.if_icmp .ne 7, 3) := by decide +kernel
theorem dX9_look_109 : decode cX9_look 109 = .ok (.iconst 0, 1) := by decide +kernel
theorem dX9_look_110 : decode cX9_look 110 = .ok (.goto 4, 3) := by decide +kernel
theorem dX9_look_113 : decode cX9_look 113 = .ok (.iconst 1, 1) := by decide +kernel
theorem dX9_look_114 : decode cX9_look 114 = .ok (.iastore, 1) := by decide +kernel
theorem dX9_look_115 : decode cX9_look 115 = .ok (.aload 4, 2) := by decide +kernel
theorem dX9_look_117 : decode cX9_look 117 = .ok (.bipush 22, 2) := by decide +kernel
theorem dX9_look_119 : decode cX9_look 119 = .ok (.iload_n 3, 1) := by decide +kernel
theorem dX9_look_120 : decode cX9_look 120 = .ok (.iconst (-1), 1) := by decide +kernel
theorem dX9_look_121 : decode cX9_look 121 = .ok (.if_icmp .ne 7, 3) := by decide +kernel
theorem dX9_look_124 : decode cX9_look 124 = .ok (.iconst 0, 1) := by decide +kernel
theorem dX9_look_125 : decode cX9_look 125 = .ok (.goto 4, 3) := by decide +kernel
theorem dX9_look_128 : decode cX9_look 128 = .ok (.iload_n 3, 1) := by decide +kernel
theorem dX9_look_129 : decode cX9_look 129 = .ok (.iastore, 1) := by decide +kernel
theorem dX9_look_130 : decode cX9_look 130 = .ok (.return_, 1) := by decide +kernel
theorem dX10_init_0 : decode cX10_init 0 = .ok (.aload_n 0, 1) := by decide +kernel
theorem dX10_init_1 : decode cX10_init 1 = .ok (.invokespecial 3, 3) := by decide +kernel
theorem dX10_init_4 : decode cX10_init 4 = .ok (.aload_n 0, 1) := by decide +kernel
theorem dX10_init_5 : decode cX10_init 5 = .ok (.bipush 48, 2) := by decide +kernel
theorem dX10_init_7 : decode cX10_init 7 = .ok (.newarray .int, 2) := by decide +kernel
theorem dX10_init_9 : decode cX10_init 9 = .ok (.putfield 9, 3) := by decide +kernel
theorem dX10_init_12 : decode cX10_init 12 = .ok (.aload_n 0, 1) := by decide +kernel
theorem dX10_init_13 : decode cX10_init 13 = .ok (.bipush 48, 2) := by decide +kernel
theorem dX10_init_15 : decode cX10_init 15 = .ok (.newarray .int, 2) := by decide +kernel
theorem dX10_init_17 : decode cX10_init 17 = .ok (.putfield 15, 3) := by decide +kernel
theorem dX10_init_20 : decode cX10_init 20 = .ok (.aload_n 0, 1) := by decide +kernel
theorem dX10_init_21 : decode cX10_init 21 = .ok (.bipush 48, 2) := by decide +kernel
theorem dX10_init_23 : decode cX10_init 23 = .ok (.newarray .int, 2) := by decide +kernel
theorem dX10_init_25 : decode cX10_init 25 = .ok (.putfield 18, 3) := by decide +kernel
theorem dX10_init_28 : decode cX10_init 28 = .ok (.aload_n 0, 1) := by decide +kernel
theorem dX10_init_29 : decode cX10_init 29 = .ok (.aload_n 1, 1) := by decide +kernel
theorem dX10_init_30 : decode cX10_init 30 = .ok (.putfield 21, 3) := by decide +kernel
theorem dX10_init_33 : decode cX10_init 33 = .ok (.aload_n 0, 1) := by decide +kernel
theorem dX10_init_34 : decode cX10_init 34 = .ok (.iconst (-1), 1) := by decide +kernel
theorem dX10_init_35 : decode cX10_init 35 = .ok (.putfield 25, 3) := by decide +kernel
theorem dX10_init_38 : decode cX10_init 38 = .ok (.return_, 1) := by decide +kernel
theorem dX10_findRoute_0 : decode cX10_findRoute 0 = .ok (.aload_n 0, 1) := by decide +kernel
theorem dX10_findRoute_1 : decode cX10_findRoute 1 = .ok (.iload_n 1, 1) := by decide +kernel
theorem dX10_findRoute_2 : decode cX10_findRoute 2 = .ok (.invokevirtual 29, 3) := by decide +kernel
theorem dX10_findRoute_5 : decode cX10_findRoute 5 = .ok (.aload_n 0, 1) := by decide +kernel
theorem dX10_findRoute_6 : decode cX10_findRoute 6 = .ok (.getfield 21, 3) := by decide +kernel
theorem dX10_findRoute_9 : decode cX10_findRoute 9 = .ok (.getfield 33, 3) := by decide +kernel
theorem dX10_findRoute_12 : decode cX10_findRoute 12 = .ok (.iload_n 1, 1) := by decide +kernel
theorem dX10_findRoute_13 : decode cX10_findRoute 13 = .ok (.invokevirtual 39, 3) := by decide +kernel
theorem dX10_findRoute_16 : decode cX10_findRoute 16 = .ok (.istore_n 3, 1) := by decide +kernel
theorem dX10_findRoute_17 : decode cX10_findRoute 17 = .ok (.aload_n 0, 1) := by decide +kernel
theorem dX10_findRoute_18 : decode cX10_findRoute 18 = .ok (.getfield 21, 3) := by decide +kernel
theorem dX10_findRoute_21 : decode cX10_findRoute 21 = .ok (.getfield 45, 3) := by decide +kernel
theorem dX10_findRoute_24 : decode cX10_findRoute 24 = .ok (.iload_n 3, 1) := by decide +kernel
theorem dX10_findRoute_25 : decode cX10_findRoute 25 = .ok (.invokevirtual 49, 3) := by decide +kernel
theorem dX10_findRoute_28 : decode cX10_findRoute 28 = .ok (.ifCond .eq 17, 3) := by decide +kernel
theorem dX10_findRoute_31 : decode cX10_findRoute 31 = .ok (.aload_n 0, 1) := by decide +kernel
theorem dX10_findRoute_32 : decode cX10_findRoute 32 = .ok (.getfield 21, 3) := by decide +kernel
theorem dX10_findRoute_35 : decode cX10_findRoute 35 = .ok (.getfield 45, 3) := by decide +kernel
theorem dX10_findRoute_38 : decode cX10_findRoute 38 = .ok (.iload_n 2, 1) := by decide +kernel
theorem dX10_findRoute_39 : decode cX10_findRoute 39 = .ok (.invokevirtual 49, 3) := by decide +kernel
theorem dX10_findRoute_42 : decode cX10_findRoute 42 = .ok (.ifCond .ne 5, 3) := by decide +kernel
theorem dX10_findRoute_45 : decode cX10_findRoute 45 = .ok (.iconst (-1), 1) := by decide +kernel
theorem dX10_findRoute_46 : decode cX10_findRoute 46 = .ok (.ireturn, 1) := by decide +kernel
theorem dX10_findRoute_47 : decode cX10_findRoute 47 = .ok (.iload_n 3, 1) := by decide +kernel
theorem dX10_findRoute_48 : decode cX10_findRoute 48 = .ok (.iload_n 2, 1) := by decide +kernel
theorem dX10_findRoute_49 : decode cX10_findRoute 49 = .ok (.if_icmp .ne 5, 3) := by decide +kernel
theorem dX10_findRoute_52 : decode cX10_findRoute 52 = .ok (.iconst 0, 1) := by decide +kernel
theorem dX10_findRoute_53 : decode cX10_findRoute 53 = .ok (.ireturn, 1) := by decide +kernel
theorem dX10_findRoute_54 : decode cX10_findRoute 54 = .ok (.aload_n 0, 1) := by decide +kernel
theorem dX10_findRoute_55 : decode cX10_findRoute 55 = .ok (.getfield 21, 3) := by decide +kernel
theorem dX10_findRoute_58 : decode cX10_findRoute 58 = .ok (.getfield 33, 3) := by decide +kernel
theorem dX10_findRoute_61 : decode cX10_findRoute 61 = .ok (.iload_n 1, 1) := by decide +kernel
theorem dX10_findRoute_62 : decode cX10_findRoute 62 = .ok (.invokevirtual 55, 3) := by decide +kernel
theorem dX10_findRoute_65 : decode cX10_findRoute 65 = .ok (.istore 4, 2) := by decide +kernel
theorem dX10_findRoute_67 : decode cX10_findRoute 67 = .ok (.aload_n 0, 1) := by decide +kernel
theorem dX10_findRoute_68 : decode cX10_findRoute 68 = .ok (.iload_n 2, 1) := by decide +kernel
theorem dX10_findRoute_69 : decode cX10_findRoute 69 = .ok (.iload 4, 2) := by decide +kernel
theorem dX10_findRoute_71 : decode cX10_findRoute 71 = .ok (.invokevirtual 58, 3) := by decide +kernel
theorem dX10_findRoute_74 : decode cX10_findRoute 74 = .ok (.aload_n 0, 1) := by decide +kernel
theorem dX10_findRoute_75 : decode cX10_findRoute 75 = .ok (.iload_n 3, 1) := by decide +kernel
theorem dX10_findRoute_76 : decode cX10_findRoute 76 = .ok (.invokevirtual 62, 3) := by decide +kernel
theorem dX10_findRoute_79 : decode cX10_findRoute 79 = .ok (.istore 5, 2) := by decide +kernel
theorem dX10_findRoute_81 : decode cX10_findRoute 81 = .ok (.iload 5, 2) := by decide +kernel
theorem dX10_findRoute_83 : decode cX10_findRoute 83 = .ok (.sipush 1000, 3) := by decide +kernel
theorem dX10_findRoute_86 : decode cX10_findRoute 86 = .ok (.if_icmp .lt 5, 3) := by decide +kernel
theorem dX10_findRoute_89 : decode cX10_findRoute 89 = .ok (.iconst (-1), 1) := by decide +kernel
theorem dX10_findRoute_90 : decode cX10_findRoute 90 = .ok (.ireturn, 1) := by decide +kernel
theorem dX10_findRoute_91 : decode cX10_findRoute 91 = .ok (.iload_n 3, 1) := by decide +kernel
theorem dX10_findRoute_92 : decode cX10_findRoute 92 = .ok (.istore 6, 2) := by decide +kernel
theorem dX10_findRoute_94 : decode cX10_findRoute 94 = .ok (.iconst 0, 1) := by decide +kernel
theorem dX10_findRoute_95 : decode cX10_findRoute 95 = .ok (.istore 7, 2) := by decide +kernel
theorem dX10_findRoute_97 : decode cX10_findRoute 97 = .ok (.iload 7, 2) := by decide +kernel
theorem dX10_findRoute_99 : decode cX10_findRoute 99 = .ok (.iload 5, 2) := by decide +kernel
theorem dX10_findRoute_101 : decode cX10_findRoute 101 = .ok (.if_icmp .gt 38, 3) := by decide +kernel
theorem dX10_findRoute_104 : decode cX10_findRoute 104 = .ok (.iload 7, 2) := by decide +kernel
theorem dX10_findRoute_106 : decode cX10_findRoute 106 = .ok (.bipush 48, 2) := by decide +kernel
theorem dX10_findRoute_108 : decode cX10_findRoute 108 = .ok (.if_icmp .ge 31, 3) := by decide +kernel
theorem dX10_findRoute_111 : decode cX10_findRoute 111 = .ok (.aload_n 0, 1) := by decide +kernel
theorem dX10_findRoute_112 : decode cX10_findRoute 112 = .ok (.iload 6, 2) := by decide +kernel
theorem dX10_findRoute_114 : decode cX10_findRoute 114 = .ok (.iload 5, 2) := by decide +kernel
theorem dX10_findRoute_116 : decode cX10_findRoute 116 = .ok (.iload 7, 2) := by decide +kernel
theorem dX10_findRoute_118 : decode cX10_findRoute 118 = .ok (.isub, 1) := by decide +kernel
theorem dX10_findRoute_119 : decode cX10_findRoute 119 = .ok (.invokevirtual 65, 3) := by decide +kernel
theorem dX10_findRoute_122 : decode cX10_findRoute 122 = .ok (.istore 6, 2) := by decide +kernel
theorem dX10_findRoute_124 : decode cX10_findRoute 124 = .ok (.aload_n 0, 1) := by decide +kernel
theorem dX10_findRoute_125 : decode cX10_findRoute 125 = .ok (.getfield 18, 3) := by decide +kernel
theorem dX10_findRoute_128 : decode cX10_findRoute 128 = .ok (.iload 7, 2) := by decide +kernel
theorem dX10_findRoute_130 : decode cX10_findRoute 130 = .ok (.iload 6, 2) := by decide +kernel
theorem dX10_findRoute_132 : decode cX10_findRoute 132 = .ok (.iastore, 1) := by decide +kernel
theorem dX10_findRoute_133 : decode cX10_findRoute 133 = .ok (.iinc 7 1, 3) := by decide +kernel
theorem dX10_findRoute_136 : decode cX10_findRoute 136 = .ok (.goto (-39), 3) := by decide +kernel
theorem dX10_findRoute_139 : decode cX10_findRoute 139 = .ok (.iload 5, 2) := by decide +kernel
theorem dX10_findRoute_141 : decode cX10_findRoute 141 = .ok (.iconst 1, 1) := by decide +kernel
theorem dX10_findRoute_142 : decode cX10_findRoute 142 = .ok (.iadd, 1) := by decide +kernel
theorem dX10_findRoute_143 : decode cX10_findRoute 143 = .ok (.ireturn, 1) := by decide +kernel
theorem dX10_readFears_0 : decode cX10_readFears 0 = .ok (.iconst 0, 1) := by decide +kernel
theorem dX10_readFears_1 : decode cX10_readFears 1 = .ok (.istore_n 2, 1) := by decide +kernel
theorem dX10_readFears_2 : decode cX10_readFears 2 = .ok (.iload_n 2, 1) := by decide +kernel
theorem dX10_readFears_3 : decode cX10_readFears 3 = .ok (.aload_n 0, 1) := by decide +kernel
theorem dX10_readFears_4 : decode cX10_readFears 4 = .ok (.getfield 21, 3) := by decide +kernel
theorem dX10_readFears_7 : decode cX10_readFears 7 = .ok (.getfield 45, 3) := by decide +kernel
theorem dX10_readFears_10 : decode cX10_readFears 10 = .ok (.invokevirtual 69, 3) := by decide +kernel
theorem dX10_readFears_13 : decode cX10_readFears 13 = .ok (.if_icmp .ge 44, 3) := by decide +kernel
theorem dX10_readFears_16 : decode cX10_readFears 16 = .ok (.aload_n 0, 1) := by decide +kernel
theorem dX10_readFears_17 : decode cX10_readFears 17 = .ok (.getfield 9, 3) := by decide +kernel
theorem dX10_readFears_20 : decode cX10_readFears 20 = .ok (.iload_n 2, 1) := by decide +kernel
theorem dX10_readFears_21 : decode cX10_readFears 21 = .ok (.aload_n 0, 1) := by decide +kernel
theorem dX10_readFears_22 : decode cX10_readFears 22 = .ok (.getfield 21, 3) := by decide +kernel
theorem dX10_readFears_25 : decode cX10_readFears 25 = .ok (.getfield 45, 3) := by decide +kernel
theorem dX10_readFears_28 : decode cX10_readFears 28 = .ok (.iload_n 2, 1) := by decide +kernel
theorem dX10_readFears_29 : decode cX10_readFears 29 = .ok (.invokevirtual 73, 3) := by decide +kernel
theorem dX10_readFears_32 : decode cX10_readFears 32 = .ok (.ifCond .eq 8, 3) := by decide +kernel
theorem dX10_readFears_35 : decode cX10_readFears 35 = .ok (.bipush 99, 2) := by decide +kernel
theorem dX10_readFears_37 : decode cX10_readFears 37 = .ok (.goto 13, 3) := by decide +kernel
theorem dX10_readFears_40 : decode cX10_readFears 40 = .ok (.aload_n 0, 1) := by decide +kernel
theorem dX10_readFears_41 : decode cX10_readFears 41 = .ok (.getfield 21, 3) := by decide +kernel
theorem dX10_readFears_44 : decode cX10_readFears 44 = .ok (.iload_n 1, 1) := by decide +kernel
theorem dX10_readFears_45 : decode cX10_readFears 45 = .ok (.iload_n 2, 1) := by decide +kernel
theorem dX10_readFears_46 : decode cX10_readFears 46 = .ok (.iconst (-1), 1) := by decide +kernel
theorem dX10_readFears_47 : decode cX10_readFears 47 = .ok (.invokevirtual 76, 3) := by decide +kernel
theorem dX10_readFears_50 : decode cX10_readFears 50 = .ok (.iastore, 1) := by decide +kernel
theorem dX10_readFears_51 : decode cX10_readFears 51 = .ok (.iinc 2 1, 3) := by decide +kernel
theorem dX10_readFears_54 : decode cX10_readFears 54 = .ok (.goto (-52), 3) := by decide +kernel
theorem dX10_readFears_57 : decode cX10_readFears 57 = .ok (.return_, 1) := by decide +kernel
theorem dX10_markStepsTo_0 : decode cX10_markStepsTo 0 = .ok (.aload_n 0, 1) := by decide +kernel
theorem dX10_markStepsTo_1 : decode cX10_markStepsTo 1 = .ok (.getfield 15, 3) := by decide +kernel
theorem dX10_markStepsTo_4 : decode cX10_markStepsTo 4 = .ok (.sipush 1000, 3) := by decide +kernel
theorem dX10_markStepsTo_7 : decode cX10_markStepsTo 7 = .ok (.invokestatic 80, 3) := by decide +kernel
theorem dX10_markStepsTo_10 : decode cX10_markStepsTo 10 = .ok (.aload_n 0, 1) := by decide +kernel
theorem dX10_markStepsTo_11 : decode cX10_markStepsTo 11 = .ok (.iload_n 1, 1) := by decide +kernel
theorem dX10_markStepsTo_12 : decode cX10_markStepsTo 12 = .ok (.iload_n 2, 1) := by decide +kernel
theorem dX10_markStepsTo_13 : decode cX10_markStepsTo 13 = .ok (.invokevirtual 86, 3) := by decide +kernel
theorem dX10_markStepsTo_16 : decode cX10_markStepsTo 16 = .ok (.ifCond .ne 4, 3) := by decide +kernel
theorem dX10_markStepsTo_19 : decode cX10_markStepsTo 19 = .ok (.return_, 1) := by decide +kernel
theorem dX10_markStepsTo_20 : decode cX10_markStepsTo 20 = .ok (.aload_n 0, 1) := by decide +kernel
theorem dX10_markStepsTo_21 : decode cX10_markStepsTo 21 = .ok (.getfield 15, 3) := by decide +kernel
theorem dX10_markStepsTo_24 : decode cX10_markStepsTo 24 = .ok (.iload_n 1, 1) := by decide +kernel
theorem dX10_markStepsTo_25 : decode cX10_markStepsTo 25 = .ok (.iconst 0, 1) := by decide +kernel
theorem dX10_markStepsTo_26 : decode cX10_markStepsTo 26 = .ok (.iastore, 1) := by decide +kernel
theorem dX10_markStepsTo_27 : decode cX10_markStepsTo 27 = .ok (.iconst 1, 1) := by decide +kernel
theorem dX10_markStepsTo_28 : decode cX10_markStepsTo 28 = .ok (.istore_n 3, 1) := by decide +kernel
theorem dX10_markStepsTo_29 : decode cX10_markStepsTo 29 = .ok (.iconst 0, 1) := by decide +kernel
theorem dX10_markStepsTo_30 : decode cX10_markStepsTo 30 = .ok (.istore 4, 2) := by decide +kernel
theorem dX10_markStepsTo_32 : decode cX10_markStepsTo 32 = .ok (.iload 4, 2) := by decide +kernel
theorem dX10_markStepsTo_34 : decode cX10_markStepsTo 34 = .ok (.bipush 48, 2) := by decide +kernel
theorem dX10_markStepsTo_36 : decode cX10_markStepsTo 36 = .ok (.if_icmp .ge 88, 3) := by decide +kernel
theorem dX10_markStepsTo_39 : decode cX10_markStepsTo 39 = .ok (.iload_n 3, 1) := by decide +kernel
theorem dX10_markStepsTo_40 : decode cX10_markStepsTo 40 = .ok (.ifCond .eq 84, 3) := by decide +kernel
theorem dX10_markStepsTo_43 : decode cX10_markStepsTo 43 = .ok (.iconst 0, 1) := by decide +kernel
theorem dX10_markStepsTo_44 : decode cX10_markStepsTo 44 = .ok (.istore_n 3, 1) := by decide +kernel
theorem dX10_markStepsTo_45 : decode cX10_markStepsTo 45 = .ok (.iconst 0, 1) := by decide +kernel
theorem dX10_markStepsTo_46 : decode cX10_markStepsTo 46 = .ok (.istore 5, 2) := by decide +kernel
theorem dX10_markStepsTo_48 : decode cX10_markStepsTo 48 = .ok (.iload 5, 2) := by decide +kernel
theorem dX10_markStepsTo_50 : decode cX10_markStepsTo 50 = .ok (.aload_n 0, 1) := by decide +kernel
theorem dX10_markStepsTo_51 : decode cX10_markStepsTo 51 = .ok (.getfield 21, 3) := by decide +kernel
theorem dX10_markStepsTo_54 : decode cX10_markStepsTo 54 = .ok (.getfield 45, 3) := by decide +kernel
theorem dX10_markStepsTo_57 : decode cX10_markStepsTo 57 = .ok (.invokevirtual 69, 3) := by decide +kernel
theorem dX10_markStepsTo_60 : decode cX10_markStepsTo 60 = .ok (.if_icmp .ge 58, 3) := by decide +kernel
theorem dX10_markStepsTo_63 : decode cX10_markStepsTo 63 = .ok (.aload_n 0, 1) := by decide +kernel
theorem dX10_markStepsTo_64 : decode cX10_markStepsTo 64 = .ok (.iload 5, 2) := by decide +kernel
theorem dX10_markStepsTo_66 : decode cX10_markStepsTo 66 = .ok (.iload_n 2, 1) := by decide +kernel
theorem dX10_markStepsTo_67 : decode cX10_markStepsTo 67 = .ok (.invokevirtual 86, 3) := by decide +kernel
theorem dX10_markStepsTo_70 : decode cX10_markStepsTo 70 = .ok (.ifCond .eq 14, 3) := by decide +kernel
theorem dX10_markStepsTo_73 : decode cX10_markStepsTo 73 = .ok (.aload_n 0, 1) := by decide +kernel
theorem dX10_markStepsTo_74 : decode cX10_markStepsTo 74 = .ok (.iload 5, 2) := by decide +kernel
theorem dX10_markStepsTo_76 : decode cX10_markStepsTo 76 = .ok (.invokevirtual 62, 3) := by decide +kernel
theorem dX10_markStepsTo_79 : decode cX10_markStepsTo 79 = .ok (.iconst 1, 1) := by decide +kernel
theorem dX10_markStepsTo_80 : decode cX10_markStepsTo 80 = .ok (.iadd, 1) := by decide +kernel
theorem dX10_markStepsTo_81 : decode cX10_markStepsTo 81 = .ok (.goto 6, 3) := by decide +kernel
theorem dX10_markStepsTo_84 : decode cX10_markStepsTo 84 = .ok (.sipush 1000, 3) := by decide +kernel
theorem dX10_markStepsTo_87 : decode cX10_markStepsTo 87 = .ok (.istore 6, 2) := by decide +kernel
theorem dX10_markStepsTo_89 : decode cX10_markStepsTo 89 = .ok (.iload 6, 2) := by decide +kernel
theorem dX10_markStepsTo_91 : decode cX10_markStepsTo 91 = .ok (.aload_n 0, 1) := by decide +kernel
theorem dX10_markStepsTo_92 : decode cX10_markStepsTo 92 = .ok (.getfield 15, 3) := by decide +kernel
theorem dX10_markStepsTo_95 : decode cX10_markStepsTo 95 = .ok (.iload 5, 2) := by decide +kernel
theorem dX10_markStepsTo_97 : decode cX10_markStepsTo 97 = .ok (.iaload, 1) := by decide +kernel
theorem dX10_markStepsTo_98 : decode cX10_markStepsTo 98 = .ok (.if_icmp .ge 14, 3) := by decide +kernel
theorem dX10_markStepsTo_101 : decode cX10_markStepsTo 101 = .ok (.aload_n 0, 1) := by decide +kernel
theorem dX10_markStepsTo_102 : decode cX10_markStepsTo 102 = .ok (.getfield 15, 3) := by decide +kernel
theorem dX10_markStepsTo_105 : decode cX10_markStepsTo 105 = .ok (.iload 5, 2) := by decide +kernel
theorem dX10_markStepsTo_107 : decode cX10_markStepsTo 107 = .ok (.iload 6, 2) := by decide +kernel
theorem dX10_markStepsTo_109 : decode cX10_markStepsTo 109 = .ok (.iastore, 1) := by decide +kernel
theorem dX10_markStepsTo_110 : decode cX10_markStepsTo 110 = .ok (.iconst 1, 1) := by decide +kernel
theorem dX10_markStepsTo_111 : decode cX10_markStepsTo 111 = .ok (.istore_n 3, 1) := by decide +kernel
theorem dX10_markStepsTo_112 : decode cX10_markStepsTo 112 = .ok (.iinc 5 1, 3) := by decide +kernel
theorem dX10_markStepsTo_115 : decode cX10_markStepsTo 115 = .ok (.goto (-67), 3) := by decide +kernel
theorem dX10_markStepsTo_118 : decode cX10_markStepsTo 118 = .ok (.iinc 4 1, 3) := by decide +kernel
theorem dX10_markStepsTo_121 : decode cX10_markStepsTo 121 = .ok (.goto (-89), 3) := by decide +kernel
theorem dX10_markStepsTo_124 : decode cX10_markStepsTo 124 = .ok (.return_, 1) := by decide +kernel
theorem dX10_isEasy_0 : decode cX10_isEasy 0 = .ok (.aload_n 0, 1) := by decide +kernel
theorem dX10_isEasy_1 : decode cX10_isEasy 1 = .ok (.getfield 21, 3) := by decide +kernel
theorem dX10_isEasy_4 : decode cX10_isEasy 4 = .ok (.getfield 45, 3) := by decide +kernel
theorem dX10_isEasy_7 : decode cX10_isEasy 7 = .ok (.iload_n 1, 1) := by decide +kernel
theorem dX10_isEasy_8 : decode cX10_isEasy 8 = .ok (.invokevirtual 90, 3) := by decide +kernel
theorem dX10_isEasy_11 : decode cX10_isEasy 11 = .ok (.ifCond .eq 17, 3) := by decide +kernel
theorem dX10_isEasy_14 : decode cX10_isEasy 14 = .ok (.aload_n 0, 1) := by decide +kernel
theorem dX10_isEasy_15 : decode cX10_isEasy 15 = .ok (.getfield 9, 3) := by decide +kernel
theorem dX10_isEasy_18 : decode cX10_isEasy 18 = .ok (.iload_n 1, 1) := by decide +kernel
theorem dX10_isEasy_19 : decode cX10_isEasy 19 = .ok (.iaload, 1) := by decide +kernel
theorem dX10_isEasy_20 : decode cX10_isEasy 20 = .ok (.iload_n 2, 1) := by decide +kernel
theorem dX10_isEasy_21 : decode cX10_isEasy 21 = .ok (.if_icmp .gt 7, 3) := by decide +kernel
theorem dX10_isEasy_24 : decode cX10_isEasy 24 = .ok (.iconst 1, 1) := by decide +kernel
theorem dX10_isEasy_25 : decode cX10_isEasy 25 = .ok (.goto 4, 3) := by decide +kernel
theorem dX10_isEasy_28 : decode cX10_isEasy 28 = .ok (.iconst 0, 1) := by decide +kernel
theorem dX10_isEasy_29 : decode cX10_isEasy 29 = .ok (.ireturn, 1) := by decide +kernel
theorem dX10_stepsBeside_0 : decode cX10_stepsBeside 0 = .ok (.sipush 1000, 3) := by decide +kernel
theorem dX10_stepsBeside_3 : decode cX10_stepsBeside 3 = .ok (.istore_n 2, 1) := by decide +kernel
theorem dX10_stepsBeside_4 : decode cX10_stepsBeside 4 = .ok (.iconst 0, 1) := by decide +kernel
theorem dX10_stepsBeside_5 : decode cX10_stepsBeside 5 = .ok (.istore_n 3, 1) := by decide +kernel
theorem dX10_stepsBeside_6 : decode cX10_stepsBeside 6 = .ok (.iload_n 3, 1) := by decide +kernel
theorem dX10_stepsBeside_7 : decode cX10_stepsBeside 7 = .ok (.iconst 4, 1) := by decide +kernel
theorem dX10_stepsBeside_8 : decode cX10_stepsBeside 8 = .ok (.if_icmp .ge 50, 3) := by decide +kernel
theorem dX10_stepsBeside_11 : decode cX10_stepsBeside 11 = .ok (.aload_n 0, 1) := by decide +kernel
theorem dX10_stepsBeside_12 : decode cX10_stepsBeside 12 = .ok (.getfield 21, 3) := by decide +kernel
theorem dX10_stepsBeside_15 : decode cX10_stepsBeside 15 = .ok (.getfield 45, 3) := by decide +kernel
theorem dX10_stepsBeside_18 : decode cX10_stepsBeside 18 = .ok (.iload_n 1, 1) := by decide +kernel
theorem dX10_stepsBeside_19 : decode cX10_stepsBeside 19 = .ok (.iload_n 3, 1) := by decide +kernel
theorem dX10_stepsBeside_20 : decode cX10_stepsBeside 20 = .ok (.invokevirtual 93, 3) := by decide +kernel
theorem dX10_stepsBeside_23 : decode cX10_stepsBeside 23 = .ok (.istore 4, 2) := by decide +kernel
theorem dX10_stepsBeside_25 : decode cX10_stepsBeside 25 = .ok (.aload_n 0, 1) := by decide +kernel
theorem dX10_stepsBeside_26 : decode cX10_stepsBeside 26 = .ok (.getfield 21, 3) := by decide +kernel
theorem dX10_stepsBeside_29 : decode cX10_stepsBeside 29 = .ok (.getfield 45, 3) := by decide +kernel
theorem dX10_stepsBeside_32 : decode cX10_stepsBeside 32 = .ok (.iload 4, 2) := by decide +kernel
theorem dX10_stepsBeside_34 : decode cX10_stepsBeside 34 = .ok (.invokevirtual 49, 3) := by decide +kernel
theorem dX10_stepsBeside_37 : decode cX10_stepsBeside 37 = .ok (.ifCond .eq 15, 3) := by decide +kernel
theorem dX10_stepsBeside_40 : decode cX10_stepsBeside 40 = .ok (.iload_n 2, 1) := by decide +kernel
theorem dX10_stepsBeside_41 : decode cX10_stepsBeside 41 = .ok (.aload_n 0, 1) := by decide +kernel
theorem dX10_stepsBeside_42 : decode cX10_stepsBeside 42 = .ok (.getfield 15, 3) := by decide +kernel
theorem dX10_stepsBeside_45 : decode cX10_stepsBeside 45 = .ok (.iload 4, 2) := by decide +kernel
theorem dX10_stepsBeside_47 : decode cX10_stepsBeside 47 = .ok (.iaload, 1) := by decide +kernel
theorem dX10_stepsBeside_48 : decode cX10_stepsBeside 48 = .ok (.invokestatic 96, 3) := by decide +kernel
theorem dX10_stepsBeside_51 : decode cX10_stepsBeside 51 = .ok (.istore_n 2, 1) := by decide +kernel
theorem dX10_stepsBeside_52 : decode cX10_stepsBeside 52 = .ok (.iinc 3 1, 3) := by decide +kernel
theorem dX10_stepsBeside_55 : decode cX10_stepsBeside 55 = .ok (.goto (-49), 3) := by decide +kernel
theorem dX10_stepsBeside_58 : decode cX10_stepsBeside 58 = .ok (.iload_n 2, 1) := by decide +kernel
theorem dX10_stepsBeside_59 : decode cX10_stepsBeside 59 = .ok (.ireturn, 1) := by decide +kernel
theorem dX10_firstBeside_0 : decode cX10_firstBeside 0 = .ok (.iconst (-1), 1) := by decide +kernel
theorem dX10_firstBeside_1 : decode cX10_firstBeside 1 = .ok (.istore_n 3, 1) := by decide +kernel
theorem dX10_firstBeside_2 : decode cX10_firstBeside 2 = .ok (.iconst 0, 1) := by decide +kernel
theorem dX10_firstBeside_3 : decode cX10_firstBeside 3 = .ok (.istore 4, 2) := by decide +kernel
theorem dX10_firstBeside_5 : decode cX10_firstBeside 5 = .ok (.iload 4, 2) := by decide +kernel
theorem dX10_firstBeside_7 : decode cX10_firstBeside 7 = .ok (.iconst 4, 1) := by decide +kernel
theorem dX10_firstBeside_8 : decode cX10_firstBeside 8 = .ok (.if_icmp .ge 64, 3) := by decide +kernel
theorem dX10_firstBeside_11 : decode cX10_firstBeside 11 = .ok (.aload_n 0, 1) := by decide +kernel
theorem dX10_firstBeside_12 : decode cX10_firstBeside 12 = .ok (.getfield 21, 3) := by decide +kernel
theorem dX10_firstBeside_15 : decode cX10_firstBeside 15 = .ok (.getfield 45, 3) := by decide +kernel
theorem dX10_firstBeside_18 : decode cX10_firstBeside 18 = .ok (.iload_n 1, 1) := by decide +kernel
theorem dX10_firstBeside_19 : decode cX10_firstBeside 19 = .ok (.iload 4, 2) := by decide +kernel
theorem dX10_firstBeside_21 : decode cX10_firstBeside 21 = .ok (.invokevirtual 93, 3) := by decide +kernel
theorem dX10_firstBeside_24 : decode cX10_firstBeside 24 = .ok (.istore 5, 2) := by decide +kernel
theorem dX10_firstBeside_26 : decode cX10_firstBeside 26 = .ok (.aload_n 0, 1) := by decide +kernel
theorem dX10_firstBeside_27 : decode cX10_firstBeside 27 = .ok (.getfield 21, 3) := by decide +kernel
theorem dX10_firstBeside_30 : decode cX10_firstBeside 30 = .ok (.getfield 45, 3) := by decide +kernel
theorem dX10_firstBeside_33 : decode cX10_firstBeside 33 = .ok (.iload 5, 2) := by decide +kernel
theorem dX10_firstBeside_35 : decode cX10_firstBeside 35 = .ok (.invokevirtual 49, 3) := by decide +kernel
theorem dX10_firstBeside_38 : decode cX10_firstBeside 38 = .ok (.ifCond .eq 28, 3) := by decide +kernel
theorem dX10_firstBeside_41 : decode cX10_firstBeside 41 = .ok (.aload_n 0, 1) := by decide +kernel
theorem dX10_firstBeside_42 : decode cX10_firstBeside 42 = .ok (.getfield 15, 3) := by decide +kernel
theorem dX10_firstBeside_45 : decode cX10_firstBeside 45 = .ok (.iload 5, 2) := by decide +kernel
theorem dX10_firstBeside_47 : decode cX10_firstBeside 47 = .ok (.iaload, 1) := by decide +kernel
theorem dX10_firstBeside_48 : decode cX10_firstBeside 48 = .ok (.iload_n 2, 1) := by decide +kernel
theorem dX10_firstBeside_49 : decode cX10_firstBeside 49 = .ok (.if_icmp .ne 17, 3) := by decide +kernel
theorem dX10_firstBeside_52 : decode cX10_firstBeside 52 = .ok (.iload_n 3, 1) := by decide +kernel
theorem dX10_firstBeside_53 : decode cX10_firstBeside 53 = .ok (.iconst (-1), 1) := by decide +kernel
theorem dX10_firstBeside_54 : decode cX10_firstBeside 54 = .ok (.if_icmp .eq 9, 3) := by decide +kernel
theorem dX10_firstBeside_57 : decode cX10_firstBeside 57 = .ok (.iload 5, 2) := by decide +kernel
theorem dX10_firstBeside_59 : decode cX10_firstBeside 59 = .ok (.iload_n 3, 1) := by decide +kernel
theorem dX10_firstBeside_60 : decode cX10_firstBeside 60 = .ok (.if_icmp .ge 6, 3) := by decide +kernel
theorem dX10_firstBeside_63 : decode cX10_firstBeside 63 = .ok (.iload 5, 2) := by decide +kernel
theorem dX10_firstBeside_65 : decode cX10_firstBeside 65 = .ok (.istore_n 3, 1) := by decide +kernel
theorem dX10_firstBeside_66 : decode cX10_firstBeside 66 = .ok (.iinc 4 1, 3) := by decide +kernel
theorem dX10_firstBeside_69 : decode cX10_firstBeside 69 = .ok (.goto (-64), 3) := by decide +kernel
theorem dX10_firstBeside_72 : decode cX10_firstBeside 72 = .ok (.iload_n 3, 1) := by decide +kernel
theorem dX10_firstBeside_73 : decode cX10_firstBeside 73 = .ok (.ireturn, 1) := by decide +kernel
theorem dX10_gentlest_0 : decode cX10_gentlest 0 = .ok (.aload_n 0, 1) := by decide +kernel
theorem dX10_gentlest_1 : decode cX10_gentlest 1 = .ok (.iload_n 1, 1) := by decide +kernel
theorem dX10_gentlest_2 : decode cX10_gentlest 2 = .ok (.invokevirtual 29, 3) := by decide +kernel
theorem dX10_gentlest_5 : decode cX10_gentlest 5 = .ok (.aload_n 0, 1) := by decide +kernel
theorem dX10_gentlest_6 : decode cX10_gentlest 6 = .ok (.getfield 21, 3) := by decide +kernel
theorem dX10_gentlest_9 : decode cX10_gentlest 9 = .ok (.getfield 33, 3) := by decide +kernel
theorem dX10_gentlest_12 : decode cX10_gentlest 12 = .ok (.iload_n 1, 1) := by decide +kernel
theorem dX10_gentlest_13 : decode cX10_gentlest 13 = .ok (.invokevirtual 39, 3) := by decide +kernel
theorem dX10_gentlest_16 : decode cX10_gentlest 16 = .ok (.istore_n 3, 1) := by decide +kernel
theorem dX10_gentlest_17 : decode cX10_gentlest 17 = .ok (.aload_n 0, 1) := by decide +kernel
theorem dX10_gentlest_18 : decode cX10_gentlest 18 = .ok (.getfield 21, 3) := by decide +kernel
theorem dX10_gentlest_21 : decode cX10_gentlest 21 = .ok (.getfield 45, 3) := by decide +kernel
theorem dX10_gentlest_24 : decode cX10_gentlest 24 = .ok (.iload_n 3, 1) := by decide +kernel
theorem dX10_gentlest_25 : decode cX10_gentlest 25 = .ok (.invokevirtual 49, 3) := by decide +kernel
theorem dX10_gentlest_28 : decode cX10_gentlest 28 = .ok (.ifCond .eq 17, 3) := by decide +kernel
theorem dX10_gentlest_31 : decode cX10_gentlest 31 = .ok (.aload_n 0, 1) := by decide +kernel
theorem dX10_gentlest_32 : decode cX10_gentlest 32 = .ok (.getfield 21, 3) := by decide +kernel
theorem dX10_gentlest_35 : decode cX10_gentlest 35 = .ok (.getfield 45, 3) := by decide +kernel
theorem dX10_gentlest_38 : decode cX10_gentlest 38 = .ok (.iload_n 2, 1) := by decide +kernel
theorem dX10_gentlest_39 : decode cX10_gentlest 39 = .ok (.invokevirtual 49, 3) := by decide +kernel
theorem dX10_gentlest_42 : decode cX10_gentlest 42 = .ok (.ifCond .ne 5, 3) := by decide +kernel
theorem dX10_gentlest_45 : decode cX10_gentlest 45 = .ok (.iconst (-1), 1) := by decide +kernel
theorem dX10_gentlest_46 : decode cX10_gentlest 46 = .ok (.ireturn, 1) := by decide +kernel
theorem dX10_gentlest_47 : decode cX10_gentlest 47 = .ok (.aload_n 0, 1) := by decide +kernel
theorem dX10_gentlest_48 : decode cX10_gentlest 48 = .ok (.getfield 15, 3) := by decide +kernel
theorem dX10_gentlest_51 : decode cX10_gentlest 51 = .ok (.sipush 1000, 3) := by decide +kernel
theorem dX10_gentlest_54 : decode cX10_gentlest 54 = .ok (.invokestatic 80, 3) := by decide +kernel
theorem dX10_gentlest_57 : decode cX10_gentlest 57 = .ok (.aload_n 0, 1) := by decide +kernel
theorem dX10_gentlest_58 : decode cX10_gentlest 58 = .ok (.getfield 15, 3) := by decide +kernel
theorem dX10_gentlest_61 : decode cX10_gentlest 61 = .ok (.iload_n 3, 1) := by decide +kernel
theorem dX10_gentlest_62 : decode cX10_gentlest 62 = .ok (.iconst 0, 1) := by decide +kernel
theorem dX10_gentlest_63 : decode cX10_gentlest 63 = .ok (.iastore, 1) := by decide +kernel
theorem dX10_gentlest_64 : decode cX10_gentlest 64 = .ok (.iconst 1, 1) := by decide +kernel
theorem dX10_gentlest_65 : decode cX10_gentlest 65 = .ok (.istore 4, 2) := by decide +kernel
theorem dX10_gentlest_67 : decode cX10_gentlest 67 = .ok (.iconst 0, 1) := by decide +kernel
theorem dX10_gentlest_68 : decode cX10_gentlest 68 = .ok (.istore 5, 2) := by decide +kernel
theorem dX10_gentlest_70 : decode cX10_gentlest 70 = .ok (.iload 5, 2) := by decide +kernel
theorem dX10_gentlest_72 : decode cX10_gentlest 72 = .ok (.bipush 48, 2) := by decide +kernel
theorem dX10_gentlest_74 : decode cX10_gentlest 74 = .ok (.if_icmp .ge 104, 3) := by decide +kernel
theorem dX10_gentlest_77 : decode cX10_gentlest 77 = .ok (.iload 4, 2) := by decide +kernel
theorem dX10_gentlest_79 : decode cX10_gentlest 79 = .ok (.ifCond .eq 99, 3) := by decide +kernel
theorem dX10_gentlest_82 : decode cX10_gentlest 82 = .ok (.iconst 0, 1) := by decide +kernel
theorem dX10_gentlest_83 : decode cX10_gentlest 83 = .ok (.istore 4, 2) := by decide +kernel
theorem dX10_gentlest_85 : decode cX10_gentlest 85 = .ok (.iconst 0, 1) := by decide +kernel
theorem dX10_gentlest_86 : decode cX10_gentlest 86 = .ok (.istore 6, 2) := by decide +kernel
theorem dX10_gentlest_88 : decode cX10_gentlest 88 = .ok (.iload 6, 2) := by decide +kernel
theorem dX10_gentlest_90 : decode cX10_gentlest 90 = .ok (.aload_n 0, 1) := by decide +kernel
theorem dX10_gentlest_91 : decode cX10_gentlest 91 = .ok (.getfield 21, 3) := by decide +kernel
theorem dX10_gentlest_94 : decode cX10_gentlest 94 = .ok (.getfield 45, 3) := by decide +kernel
theorem dX10_gentlest_97 : decode cX10_gentlest 97 = .ok (.invokevirtual 69, 3) := by decide +kernel
theorem dX10_gentlest_100 : decode cX10_gentlest 100 = .ok (.if_icmp .ge 72, 3) := by decide +kernel
theorem dX10_gentlest_103 : decode cX10_gentlest 103 = .ok (.aload_n 0, 1) := by decide +kernel
theorem dX10_gentlest_104 : decode cX10_gentlest 104 = .ok (.getfield 21, 3) := by decide +kernel
theorem dX10_gentlest_107 : decode cX10_gentlest 107 = .ok (.getfield 45, 3) := by decide +kernel
theorem dX10_gentlest_110 : decode cX10_gentlest 110 = .ok (.iload 6, 2) := by decide +kernel
theorem dX10_gentlest_112 : decode cX10_gentlest 112 = .ok (.invokevirtual 90, 3) := by decide +kernel
theorem dX10_gentlest_115 : decode cX10_gentlest 115 = .ok (.ifCond .eq 22, 3) := by decide +kernel
theorem dX10_gentlest_118 : decode cX10_gentlest 118 = .ok (.aload_n 0, 1) := by decide +kernel
theorem dX10_gentlest_119 : decode cX10_gentlest 119 = .ok (.getfield 9, 3) := by decide +kernel
theorem dX10_gentlest_122 : decode cX10_gentlest 122 = .ok (.iload 6, 2) := by decide +kernel
theorem dX10_gentlest_124 : decode cX10_gentlest 124 = .ok (.iaload, 1) := by decide +kernel
theorem dX10_gentlest_125 : decode cX10_gentlest 125 = .ok (.aload_n 0, 1) := by decide +kernel
theorem dX10_gentlest_126 : decode cX10_gentlest 126 = .ok (.iload 6, 2) := by decide +kernel
theorem dX10_gentlest_128 : decode cX10_gentlest 128 = .ok (.invokevirtual 62, 3) := by decide +kernel
theorem dX10_gentlest_131 : decode cX10_gentlest 131 = .ok (.invokestatic 101, 3) := by decide +kernel
theorem dX10_gentlest_134 : decode cX10_gentlest 134 = .ok (.goto 6, 3) := by decide +kernel
theorem dX10_gentlest_137 : decode cX10_gentlest 137 = .ok (.sipush 1000, 3) := by decide +kernel
theorem dX10_gentlest_140 : decode cX10_gentlest 140 = .ok (.istore 7, 2) := by decide +kernel
theorem dX10_gentlest_142 : decode cX10_gentlest 142 = .ok (.iload 7, 2) := by decide +kernel
theorem dX10_gentlest_144 : decode cX10_gentlest 144 = .ok (.aload_n 0, 1) := by decide +kernel
theorem dX10_gentlest_145 : decode cX10_gentlest 145 = .ok (.getfield 15, 3) := by decide +kernel
theorem dX10_gentlest_148 : decode cX10_gentlest 148 = .ok (.iload 6, 2) := by decide +kernel
theorem dX10_gentlest_150 : decode cX10_gentlest 150 = .ok (.iaload, 1) := by decide +kernel
theorem dX10_gentlest_151 : decode cX10_gentlest 151 = .ok (.if_icmp .ge 15, 3) := by decide +kernel
theorem dX10_gentlest_154 : decode cX10_gentlest 154 = .ok (.aload_n 0, 1) := by decide +kernel
theorem dX10_gentlest_155 : decode cX10_gentlest 155 = .ok (.getfield 15, 3) := by decide +kernel
theorem dX10_gentlest_158 : decode cX10_gentlest 158 = .ok (.iload 6, 2) := by decide +kernel
theorem dX10_gentlest_160 : decode cX10_gentlest 160 = .ok (.iload 7, 2) := by decide +kernel
theorem dX10_gentlest_162 : decode cX10_gentlest 162 = .ok (.iastore, 1) := by decide +kernel
theorem dX10_gentlest_163 : decode cX10_gentlest 163 = .ok (.iconst 1, 1) := by decide +kernel
theorem dX10_gentlest_164 : decode cX10_gentlest 164 = .ok (.istore 4, 2) := by decide +kernel
theorem dX10_gentlest_166 : decode cX10_gentlest 166 = .ok (.iinc 6 1, 3) := by decide +kernel
theorem dX10_gentlest_169 : decode cX10_gentlest 169 = .ok (.goto (-81), 3) := by decide +kernel
theorem dX10_gentlest_172 : decode cX10_gentlest 172 = .ok (.iinc 5 1, 3) := by decide +kernel
theorem dX10_gentlest_175 : decode cX10_gentlest 175 = .ok (.goto (-105), 3) := by decide +kernel
theorem dX10_gentlest_178 : decode cX10_gentlest 178 = .ok (.aload_n 0, 1) := by decide +kernel
theorem dX10_gentlest_179 : decode cX10_gentlest 179 = .ok (.getfield 15, 3) := by decide +kernel
theorem dX10_gentlest_182 : decode cX10_gentlest 182 = .ok (.iload_n 2, 1) := by decide +kernel
theorem dX10_gentlest_183 : decode cX10_gentlest 183 = .ok (.iaload, 1) := by decide +kernel
theorem dX10_gentlest_184 : decode cX10_gentlest 184 = .ok (.sipush 1000, 3) := by decide +kernel
theorem dX10_gentlest_187 : decode cX10_gentlest 187 = .ok (.if_icmp .ge 12, 3) := by decide +kernel
theorem dX10_gentlest_190 : decode cX10_gentlest 190 = .ok (.aload_n 0, 1) := by decide +kernel
theorem dX10_gentlest_191 : decode cX10_gentlest 191 = .ok (.getfield 15, 3) := by decide +kernel
theorem dX10_gentlest_194 : decode cX10_gentlest 194 = .ok (.iload_n 2, 1) := by decide +kernel
theorem dX10_gentlest_195 : decode cX10_gentlest 195 = .ok (.iaload, 1) := by decide +kernel
theorem dX10_gentlest_196 : decode cX10_gentlest 196 = .ok (.goto 4, 3) := by decide +kernel
theorem dX10_gentlest_199 : decode cX10_gentlest 199 = .ok (.iconst (-1), 1) := by decide +kernel
theorem dX10_gentlest_200 : decode cX10_gentlest 200 = .ok (.ireturn, 1) := by decide +kernel
theorem dX10_runAway_0 : decode cX10_runAway 0 = .ok (.aload_n 0, 1) := by decide +kernel
theorem dX10_runAway_1 : decode cX10_runAway 1 = .ok (.iload_n 1, 1) := by decide +kernel
theorem dX10_runAway_2 : decode cX10_runAway 2 = .ok (.invokevirtual 29, 3) := by decide +kernel
theorem dX10_runAway_5 : decode cX10_runAway 5 = .ok (.iconst 0, 1) := by decide +kernel
theorem dX10_runAway_6 : decode cX10_runAway 6 = .ok (.istore_n 2, 1) := by decide +kernel
theorem dX10_runAway_7 : decode cX10_runAway 7 = .ok (.aload_n 0, 1) := by decide +kernel
theorem dX10_runAway_8 : decode cX10_runAway 8 = .ok (.aload_n 0, 1) := by decide +kernel
theorem dX10_runAway_9 : decode cX10_runAway 9 = .ok (.getfield 21, 3) := by decide +kernel
theorem dX10_runAway_12 : decode cX10_runAway 12 = .ok (.getfield 33, 3) := by decide +kernel
theorem dX10_runAway_15 : decode cX10_runAway 15 = .ok (.iload_n 1, 1) := by decide +kernel
theorem dX10_runAway_16 : decode cX10_runAway 16 = .ok (.invokevirtual 39, 3) := by decide +kernel
theorem dX10_runAway_19 : decode cX10_runAway 19 = .ok (.putfield 25, 3) := by decide +kernel
theorem dX10_runAway_22 : decode cX10_runAway 22 = .ok (.iconst 0, 1) := by decide +kernel
theorem dX10_runAway_23 : decode cX10_runAway 23 = .ok (.istore_n 3, 1) := by decide +kernel
theorem dX10_runAway_24 : decode cX10_runAway 24 = .ok (.iload_n 3, 1) := by decide +kernel
theorem dX10_runAway_25 : decode cX10_runAway 25 = .ok (.bipush 48, 2) := by decide +kernel
theorem dX10_runAway_27 : decode cX10_runAway 27 = .ok (.if_icmp .ge 37, 3) := by decide +kernel
theorem dX10_runAway_30 : decode cX10_runAway 30 = .ok (.aload_n 0, 1) := by decide +kernel
theorem dX10_runAway_31 : decode cX10_runAway 31 = .ok (.aload_n 0, 1) := by decide +kernel
theorem dX10_runAway_32 : decode cX10_runAway 32 = .ok (.getfield 25, 3) := by decide +kernel
theorem dX10_runAway_35 : decode cX10_runAway 35 = .ok (.invokevirtual 104, 3) := by decide +kernel
theorem dX10_runAway_38 : decode cX10_runAway 38 = .ok (.istore 4, 2) := by decide +kernel
theorem dX10_runAway_40 : decode cX10_runAway 40 = .ok (.iload 4, 2) := by decide +kernel
theorem dX10_runAway_42 : decode cX10_runAway 42 = .ok (.iconst (-1), 1) := by decide +kernel
theorem dX10_runAway_43 : decode cX10_runAway 43 = .ok (.if_icmp .ne 6, 3) := by decide +kernel
theorem dX10_runAway_46 : decode cX10_runAway 46 = .ok (.goto 18, 3) := by decide +kernel
theorem dX10_runAway_49 : decode cX10_runAway 49 = .ok (.aload_n 0, 1) := by decide +kernel
theorem dX10_runAway_50 : decode cX10_runAway 50 = .ok (.iload 4, 2) := by decide +kernel
theorem dX10_runAway_52 : decode cX10_runAway 52 = .ok (.putfield 25, 3) := by decide +kernel
theorem dX10_runAway_55 : decode cX10_runAway 55 = .ok (.iinc 2 1, 3) := by decide +kernel
theorem dX10_runAway_58 : decode cX10_runAway 58 = .ok (.iinc 3 1, 3) := by decide +kernel
theorem dX10_runAway_61 : decode cX10_runAway 61 = .ok (.goto (-37), 3) := by decide +kernel
theorem dX10_runAway_64 : decode cX10_runAway 64 = .ok (.iload_n 2, 1) := by decide +kernel
theorem dX10_runAway_65 : decode cX10_runAway 65 = .ok (.ireturn, 1) := by decide +kernel
theorem dX10_calmerBeside_0 : decode cX10_calmerBeside 0 = .ok (.aload_n 0, 1) := by decide +kernel
theorem dX10_calmerBeside_1 : decode cX10_calmerBeside 1 = .ok (.getfield 21, 3) := by decide +kernel
theorem dX10_calmerBeside_4 : decode cX10_calmerBeside 4 = .ok (.getfield 45, 3) := by decide +kernel
theorem dX10_calmerBeside_7 : decode cX10_calmerBeside 7 = .ok (.iload_n 1, 1) := by decide +kernel
theorem dX10_calmerBeside_8 : decode cX10_calmerBeside 8 = .ok (.invokevirtual 49, 3) := by decide +kernel
theorem dX10_calmerBeside_11 : decode cX10_calmerBeside 11 = .ok (.ifCond .ne 5, 3) := by decide +kernel
theorem dX10_calmerBeside_14 : decode cX10_calmerBeside 14 = .ok (.iconst (-1), 1) := by decide +kernel
theorem dX10_calmerBeside_15 : decode cX10_calmerBeside 15 = .ok (.ireturn, 1) := by decide +kernel
theorem dX10_calmerBeside_16 : decode cX10_calmerBeside 16 = .ok (.aload_n 0, 1) := by decide +kernel
theorem dX10_calmerBeside_17 : decode cX10_calmerBeside 17 = .ok (.getfield 9, 3) := by decide +kernel
theorem dX10_calmerBeside_20 : decode cX10_calmerBeside 20 = .ok (.iload_n 1, 1) := by decide +kernel
theorem dX10_calmerBeside_21 : decode cX10_calmerBeside 21 = .ok (.iaload, 1) := by decide +kernel
theorem dX10_calmerBeside_22 : decode cX10_calmerBeside 22 = .ok (.istore_n 2, 1) := by decide +kernel
theorem dX10_calmerBeside_23 : decode cX10_calmerBeside 23 = .ok (.iconst (-1), 1) := by decide +kernel
theorem dX10_calmerBeside_24 : decode cX10_calmerBeside 24 = .ok (.istore_n 3, 1) := by decide +kernel
theorem dX10_calmerBeside_25 : decode cX10_calmerBeside 25 = .ok (.iconst 0, 1) := by decide +kernel
theorem dX10_calmerBeside_26 : decode cX10_calmerBeside 26 = .ok (.istore 4, 2) := by decide +kernel
theorem dX10_calmerBeside_28 : decode cX10_calmerBeside 28 = .ok (.iload 4, 2) := by decide +kernel
theorem dX10_calmerBeside_30 : decode cX10_calmerBeside 30 = .ok (.iconst 4, 1) := by decide +kernel
theorem dX10_calmerBeside_31 : decode cX10_calmerBeside 31 = .ok (.if_icmp .ge 98, 3) := by decide +kernel
theorem dX10_calmerBeside_34 : decode cX10_calmerBeside 34 = .ok (.aload_n 0, 1) := by decide +kernel
theorem dX10_calmerBeside_35 : decode cX10_calmerBeside 35 = .ok (.getfield 21, 3) := by decide +kernel
theorem dX10_calmerBeside_38 : decode cX10_calmerBeside 38 = .ok (.getfield 45, 3) := by decide +kernel
theorem dX10_calmerBeside_41 : decode cX10_calmerBeside 41 = .ok (.iload_n 1, 1) := by decide +kernel
theorem dX10_calmerBeside_42 : decode cX10_calmerBeside 42 = .ok (.iload 4, 2) := by decide +kernel
theorem dX10_calmerBeside_44 : decode cX10_calmerBeside 44 = .ok (.invokevirtual 93, 3) := by decide +kernel
theorem dX10_calmerBeside_47 : decode cX10_calmerBeside 47 = .ok (.istore 5, 2) := by decide +kernel
theorem dX10_calmerBeside_49 : decode cX10_calmerBeside 49 = .ok (.aload_n 0, 1) := by decide +kernel
theorem dX10_calmerBeside_50 : decode cX10_calmerBeside 50 = .ok (.getfield 21, 3) := by decide +kernel
theorem dX10_calmerBeside_53 : decode cX10_calmerBeside 53 = .ok (.getfield 45, 3) := by decide +kernel
theorem dX10_calmerBeside_56 : decode cX10_calmerBeside 56 = .ok (.iload 5, 2) := by decide +kernel
theorem dX10_calmerBeside_58 : decode cX10_calmerBeside 58 = .ok (.invokevirtual 49, 3) := by decide +kernel
theorem dX10_calmerBeside_61 : decode cX10_calmerBeside 61 = .ok (.ifCond .ne 6, 3) := by decide +kernel
theorem dX10_calmerBeside_64 : decode cX10_calmerBeside 64 = .ok (.goto 59, 3) := by decide +kernel
theorem dX10_calmerBeside_67 : decode cX10_calmerBeside 67 = .ok (.iload_n 3, 1) := by decide +kernel
theorem dX10_calmerBeside_68 : decode cX10_calmerBeside 68 = .ok (.iconst (-1), 1) := by decide +kernel
theorem dX10_calmerBeside_69 : decode cX10_calmerBeside 69 = .ok (.if_icmp .eq 24, 3) := by decide +kernel
theorem dX10_calmerBeside_72 : decode cX10_calmerBeside 72 = .ok (.aload_n 0, 1) := by decide +kernel
theorem dX10_calmerBeside_73 : decode cX10_calmerBeside 73 = .ok (.getfield 9, 3) := by decide +kernel
theorem dX10_calmerBeside_76 : decode cX10_calmerBeside 76 = .ok (.iload 5, 2) := by decide +kernel
theorem dX10_calmerBeside_78 : decode cX10_calmerBeside 78 = .ok (.iaload, 1) := by decide +kernel
theorem dX10_calmerBeside_79 : decode cX10_calmerBeside 79 = .ok (.iload_n 2, 1) := by decide +kernel
theorem dX10_calmerBeside_80 : decode cX10_calmerBeside 80 = .ok (.if_icmp .ne 13, 3) := by decide +kernel
theorem dX10_calmerBeside_83 : decode cX10_calmerBeside 83 = .ok (.iload 5, 2) := by decide +kernel
theorem dX10_calmerBeside_85 : decode cX10_calmerBeside 85 = .ok (.iload_n 3, 1) := by decide +kernel
theorem dX10_calmerBeside_86 : decode cX10_calmerBeside 86 = .ok (.if_icmp .ge 7, 3) := by decide +kernel
theorem dX10_calmerBeside_89 : decode cX10_calmerBeside 89 = .ok (.iconst 1, 1) := by decide +kernel
theorem dX10_calmerBeside_90 : decode cX10_calmerBeside 90 = .ok (.goto 4, 3) := by decide +kernel
theorem dX10_calmerBeside_93 : decode cX10_calmerBeside 93 = .ok (.iconst 0, 1) := by decide +kernel
theorem dX10_calmerBeside_94 : decode cX10_calmerBeside 94 = .ok (.istore 6, 2) := by decide +kernel
theorem dX10_calmerBeside_96 : decode cX10_calmerBeside 96 = .ok (.aload_n 0, 1) := by decide +kernel
theorem dX10_calmerBeside_97 : decode cX10_calmerBeside 97 = .ok (.getfield 9, 3) := by decide +kernel
theorem dX10_calmerBeside_100 : decode cX10_calmerBeside 100 = .ok (.iload 5, 2) := by decide +kernel
theorem dX10_calmerBeside_102 : decode cX10_calmerBeside 102 = .ok (.iaload, 1) := by decide +kernel
theorem dX10_calmerBeside_103 : decode cX10_calmerBeside 103 = .ok (.iload_n 2, 1) := by decide +kernel
theorem dX10_calmerBeside_104 : decode cX10_calmerBeside 104 = .ok (.if_icmp .lt 8, 3) := by decide +kernel
theorem dX10_calmerBeside_107 : decode cX10_calmerBeside 107 = .ok (.iload 6, 2) := by decide +kernel
theorem dX10_calmerBeside_109 : decode cX10_calmerBeside 109 = .ok (.ifCond .eq 14, 3) := by decide +kernel
theorem dX10_calmerBeside_112 : decode cX10_calmerBeside 112 = .ok (.aload_n 0, 1) := by decide +kernel
theorem dX10_calmerBeside_113 : decode cX10_calmerBeside 113 = .ok (.getfield 9, 3) := by decide +kernel
theorem dX10_calmerBeside_116 : decode cX10_calmerBeside 116 = .ok (.iload 5, 2) := by decide +kernel
theorem dX10_calmerBeside_118 : decode cX10_calmerBeside 118 = .ok (.iaload, 1) := by decide +kernel
theorem dX10_calmerBeside_119 : decode cX10_calmerBeside 119 = .ok (.istore_n 2, 1) := by decide +kernel
theorem dX10_calmerBeside_120 : decode cX10_calmerBeside 120 = .ok (.iload 5, 2) := by decide +kernel
theorem dX10_calmerBeside_122 : decode cX10_calmerBeside 122 = .ok (.istore_n 3, 1) := by decide +kernel
theorem dX10_calmerBeside_123 : decode cX10_calmerBeside 123 = .ok (.iinc 4 1, 3) := by decide +kernel
theorem dX10_calmerBeside_126 : decode cX10_calmerBeside 126 = .ok (.goto (-98), 3) := by decide +kernel
theorem dX10_calmerBeside_129 : decode cX10_calmerBeside 129 = .ok (.iload_n 3, 1) := by decide +kernel
theorem dX10_calmerBeside_130 : decode cX10_calmerBeside 130 = .ok (.ireturn, 1) := by decide +kernel
theorem dX11_init_0 : decode cX11_init 0 = .ok (.aload_n 0, 1) := by decide +kernel
theorem dX11_init_1 : decode cX11_init 1 = .ok (.invokespecial 3, 3) := by decide +kernel
theorem dX11_init_4 : decode cX11_init 4 = .ok (.aload_n 0, 1) := by decide +kernel
theorem dX11_init_5 : decode cX11_init 5 = .ok (.new 9, 3) := by decide +kernel
theorem dX11_init_8 : decode cX11_init 8 = .ok (.dup, 1) := by decide +kernel
theorem dX11_init_9 : decode cX11_init 9 = .ok (.invokespecial 11, 3) := by decide +kernel
theorem dX11_init_12 : decode cX11_init 12 = .ok (.putfield 12, 3) := by decide +kernel
theorem dX11_init_15 : decode cX11_init 15 = .ok (.aload_n 0, 1) := by decide +kernel
theorem dX11_init_16 : decode cX11_init 16 = .ok (.new 16, 3) := by decide +kernel
theorem dX11_init_19 : decode cX11_init 19 = .ok (.dup, 1) := by decide +kernel
theorem dX11_init_20 : decode cX11_init 20 = .ok (.aload_n 0, 1) := by decide +kernel
theorem dX11_init_21 : decode cX11_init 21 = .ok (.getfield 12, 3) := by decide +kernel
theorem dX11_init_24 : decode cX11_init 24 = .ok (.invokespecial 18, 3) := by decide +kernel
theorem dX11_init_27 : decode cX11_init 27 = .ok (.putfield 21, 3) := by decide +kernel
theorem dX11_init_30 : decode cX11_init 30 = .ok (.aload_n 0, 1) := by decide +kernel
theorem dX11_init_31 : decode cX11_init 31 = .ok (.new 25, 3) := by decide +kernel
theorem dX11_init_34 : decode cX11_init 34 = .ok (.dup, 1) := by decide +kernel
