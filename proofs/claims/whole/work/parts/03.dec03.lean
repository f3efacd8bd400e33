theorem dX11_init_35 : decode cX11_init 35 = .ok (.aload_n 0, 1) := by decide +kernel
theorem dX11_init_36 : decode cX11_init 36 = .ok (.getfield 12, 3) := by decide +kernel
theorem dX11_init_39 : decode cX11_init 39 = .ok (.aload_n 0, 1) := by decide +kernel
theorem dX11_init_40 : decode cX11_init 40 = .ok (.getfield 21, 3) := by decide +kernel
theorem dX11_init_43 : decode cX11_init 43 = .ok (.invokespecial 27, 3) := by decide +kernel
theorem dX11_init_46 : decode cX11_init 46 = .ok (.putfield 30, 3) := by decide +kernel
theorem dX11_init_49 : decode cX11_init 49 = .ok (.aload_n 0, 1) := by decide +kernel
theorem dX11_init_50 : decode cX11_init 50 = .ok (.new 34, 3) := by decide +kernel
theorem dX11_init_53 : decode cX11_init 53 = .ok (.dup, 1) := by decide +kernel
theorem dX11_init_54 : decode cX11_init 54 = .ok (.invokespecial 36, 3) := by decide +kernel
theorem dX11_init_57 : decode cX11_init 57 = .ok (.putfield 37, 3) := by decide +kernel
theorem dX11_init_60 : decode cX11_init 60 = .ok (.aload_n 0, 1) := by decide +kernel
theorem dX11_init_61 : decode cX11_init 61 = .ok (.new 41, 3) := by decide +kernel
theorem dX11_init_64 : decode cX11_init 64 = .ok (.dup, 1) := by decide +kernel
theorem dX11_init_65 : decode cX11_init 65 = .ok (.new 43, 3) := by decide +kernel
theorem dX11_init_68 : decode cX11_init 68 = .ok (.dup, 1) := by decide +kernel
theorem dX11_init_69 : decode cX11_init 69 = .ok (.invokespecial 45, 3) := by decide +kernel
theorem dX11_init_72 : decode cX11_init 72 = .ok (.aload_n 0, 1) := by decide +kernel
theorem dX11_init_73 : decode cX11_init 73 = .ok (.getfield 37, 3) := by decide +kernel
theorem dX11_init_76 : decode cX11_init 76 = .ok (.invokespecial 46, 3) := by decide +kernel
theorem dX11_init_79 : decode cX11_init 79 = .ok (.putfield 49, 3) := by decide +kernel
theorem dX11_init_82 : decode cX11_init 82 = .ok (.aload_n 0, 1) := by decide +kernel
theorem dX11_init_83 : decode cX11_init 83 = .ok (.new 53, 3) := by decide +kernel
theorem dX11_init_86 : decode cX11_init 86 = .ok (.dup, 1) := by decide +kernel
theorem dX11_init_87 : decode cX11_init 87 = .ok (.aload_n 0, 1) := by decide +kernel
theorem dX11_init_88 : decode cX11_init 88 = .ok (.getfield 49, 3) := by decide +kernel
theorem dX11_init_91 : decode cX11_init 91 = .ok (.invokespecial 55, 3) := by decide +kernel
theorem dX11_init_94 : decode cX11_init 94 = .ok (.putfield 58, 3) := by decide +kernel
theorem dX11_init_97 : decode cX11_init 97 = .ok (.aload_n 0, 1) := by decide +kernel
theorem dX11_init_98 : decode cX11_init 98 = .ok (.new 62, 3) := by decide +kernel
theorem dX11_init_101 : decode cX11_init 101 = .ok (.dup, 1) := by decide +kernel
theorem dX11_init_102 : decode cX11_init 102 = .ok (.aload_n 0, 1) := by decide +kernel
theorem dX11_init_103 : decode cX11_init 103 = .ok (.getfield 49, 3) := by decide +kernel
theorem dX11_init_106 : decode cX11_init 106 = .ok (.invokespecial 64, 3) := by decide +kernel
theorem dX11_init_109 : decode cX11_init 109 = .ok (.putfield 65, 3) := by decide +kernel
theorem dX11_init_112 : decode cX11_init 112 = .ok (.aload_n 0, 1) := by decide +kernel
theorem dX11_init_113 : decode cX11_init 113 = .ok (.new 69, 3) := by decide +kernel
theorem dX11_init_116 : decode cX11_init 116 = .ok (.dup, 1) := by decide +kernel
theorem dX11_init_117 : decode cX11_init 117 = .ok (.aload_n 0, 1) := by decide +kernel
theorem dX11_init_118 : decode cX11_init 118 = .ok (.getfield 49, 3) := by decide +kernel
theorem dX11_init_121 : decode cX11_init 121 = .ok (.invokespecial 71, 3) := by decide +kernel
theorem dX11_init_124 : decode cX11_init 124 = .ok (.putfield 72, 3) := by decide +kernel
theorem dX11_init_127 : decode cX11_init 127 = .ok (.aload_n 0, 1) := by decide +kernel
theorem dX11_init_128 : decode cX11_init 128 = .ok (.new 76, 3) := by decide +kernel
theorem dX11_init_131 : decode cX11_init 131 = .ok (.dup, 1) := by decide +kernel
theorem dX11_init_132 : decode cX11_init 132 = .ok (.invokespecial 78, 3) := by decide +kernel
theorem dX11_init_135 : decode cX11_init 135 = .ok (.putfield 79, 3) := by decide +kernel
theorem dX11_init_138 : decode cX11_init 138 = .ok (.aload_n 0, 1) := by decide +kernel
theorem dX11_init_139 : decode cX11_init 139 = .ok (.bipush 30, 2) := by decide +kernel
theorem dX11_init_141 : decode cX11_init 141 = .ok (.newarray .int, 2) := by decide +kernel
theorem dX11_init_143 : decode cX11_init 143 = .ok (.putfield 83, 3) := by decide +kernel
theorem dX11_init_146 : decode cX11_init 146 = .ok (.aload_n 0, 1) := by decide +kernel
theorem dX11_init_147 : decode cX11_init 147 = .ok (.bipush 6, 2) := by decide +kernel
theorem dX11_init_149 : decode cX11_init 149 = .ok (.newarray .int, 2) := by decide +kernel
theorem dX11_init_151 : decode cX11_init 151 = .ok (.putfield 87, 3) := by decide +kernel
theorem dX11_init_154 : decode cX11_init 154 = .ok (.aload_n 0, 1) := by decide +kernel
theorem dX11_init_155 : decode cX11_init 155 = .ok (.new 43, 3) := by decide +kernel
theorem dX11_init_158 : decode cX11_init 158 = .ok (.dup, 1) := by decide +kernel
theorem dX11_init_159 : decode cX11_init 159 = .ok (.invokespecial 45, 3) := by decide +kernel
theorem dX11_init_162 : decode cX11_init 162 = .ok (.putfield 90, 3) := by decide +kernel
theorem dX11_init_165 : decode cX11_init 165 = .ok (.aload_n 0, 1) := by decide +kernel
theorem dX11_init_166 : decode cX11_init 166 = .ok (.iconst 0, 1) := by decide +kernel
theorem dX11_init_167 : decode cX11_init 167 = .ok (.putfield 94, 3) := by decide +kernel
theorem dX11_init_170 : decode cX11_init 170 = .ok (.aload_n 0, 1) := by decide +kernel
theorem dX11_init_171 : decode cX11_init 171 = .ok (.lconst 1, 1) := by decide +kernel
theorem dX11_init_172 : decode cX11_init 172 = .ok (.putfield 98, 3) := by decide +kernel
theorem dX11_init_175 : decode cX11_init 175 = .ok (.return_, 1) := by decide +kernel
theorem dX11_feed_0 : decode cX11_feed 0 = .ok (.aload_n 0, 1) := by decide +kernel
theorem dX11_feed_1 : decode cX11_feed 1 = .ok (.getfield 12, 3) := by decide +kernel
theorem dX11_feed_4 : decode cX11_feed 4 = .ok (.getfield 102, 3) := by decide +kernel
theorem dX11_feed_7 : decode cX11_feed 7 = .ok (.bipush 20, 2) := by decide +kernel
theorem dX11_feed_9 : decode cX11_feed 9 = .ok (.iadd, 1) := by decide +kernel
theorem dX11_feed_10 : decode cX11_feed 10 = .ok (.sipush 1600, 3) := by decide +kernel
theorem dX11_feed_13 : decode cX11_feed 13 = .ok (.if_icmp .le 9, 3) := by decide +kernel
theorem dX11_feed_16 : decode cX11_feed 16 = .ok (.aload_n 0, 1) := by decide +kernel
theorem dX11_feed_17 : decode cX11_feed 17 = .ok (.iconst 0, 1) := by decide +kernel
theorem dX11_feed_18 : decode cX11_feed 18 = .ok (.invokevirtual 105, 3) := by decide +kernel
theorem dX11_feed_21 : decode cX11_feed 21 = .ok (.ireturn, 1) := by decide +kernel
theorem dX11_feed_22 : decode cX11_feed 22 = .ok (.aload_n 0, 1) := by decide +kernel
theorem dX11_feed_23 : decode cX11_feed 23 = .ok (.getfield 12, 3) := by decide +kernel
theorem dX11_feed_26 : decode cX11_feed 26 = .ok (.iload_n 1, 1) := by decide +kernel
theorem dX11_feed_27 : decode cX11_feed 27 = .ok (.invokevirtual 109, 3) := by decide +kernel
theorem dX11_feed_30 : decode cX11_feed 30 = .ok (.aload_n 0, 1) := by decide +kernel
theorem dX11_feed_31 : decode cX11_feed 31 = .ok (.getfield 12, 3) := by decide +kernel
theorem dX11_feed_34 : decode cX11_feed 34 = .ok (.iload_n 2, 1) := by decide +kernel
theorem dX11_feed_35 : decode cX11_feed 35 = .ok (.invokevirtual 109, 3) := by decide +kernel
theorem dX11_feed_38 : decode cX11_feed 38 = .ok (.aload_n 0, 1) := by decide +kernel
theorem dX11_feed_39 : decode cX11_feed 39 = .ok (.getfield 12, 3) := by decide +kernel
theorem dX11_feed_42 : decode cX11_feed 42 = .ok (.iload_n 3, 1) := by decide +kernel
theorem dX11_feed_43 : decode cX11_feed 43 = .ok (.invokevirtual 109, 3) := by decide +kernel
theorem dX11_feed_46 : decode cX11_feed 46 = .ok (.aload_n 0, 1) := by decide +kernel
theorem dX11_feed_47 : decode cX11_feed 47 = .ok (.getfield 12, 3) := by decide +kernel
theorem dX11_feed_50 : decode cX11_feed 50 = .ok (.iload 4, 2) := by decide +kernel
theorem dX11_feed_52 : decode cX11_feed 52 = .ok (.invokevirtual 109, 3) := by decide +kernel
theorem dX11_feed_55 : decode cX11_feed 55 = .ok (.aload_n 0, 1) := by decide +kernel
theorem dX11_feed_56 : decode cX11_feed 56 = .ok (.getfield 12, 3) := by decide +kernel
theorem dX11_feed_59 : decode cX11_feed 59 = .ok (.iload 5, 2) := by decide +kernel
theorem dX11_feed_61 : decode cX11_feed 61 = .ok (.invokevirtual 109, 3) := by decide +kernel
theorem dX11_feed_64 : decode cX11_feed 64 = .ok (.aload_n 0, 1) := by decide +kernel
theorem dX11_feed_65 : decode cX11_feed 65 = .ok (.getfield 12, 3) := by decide +kernel
theorem dX11_feed_68 : decode cX11_feed 68 = .ok (.getfield 102, 3) := by decide +kernel
theorem dX11_feed_71 : decode cX11_feed 71 = .ok (.ireturn, 1) := by decide +kernel
theorem dX11_end_0 : decode cX11_end 0 = .ok (.iload_n 1, 1) := by decide +kernel
theorem dX11_end_1 : decode cX11_end 1 = .ok (.ifCond .lt 14, 3) := by decide +kernel
theorem dX11_end_4 : decode cX11_end 4 = .ok (.iload_n 1, 1) := by decide +kernel
theorem dX11_end_5 : decode cX11_end 5 = .ok (.aload_n 0, 1) := by decide +kernel
theorem dX11_end_6 : decode cX11_end 6 = .ok (.getfield 12, 3) := by decide +kernel
theorem dX11_end_9 : decode cX11_end 9 = .ok (.getfield 102, 3) := by decide +kernel
theorem dX11_end_12 : decode cX11_end 12 = .ok (.if_icmp .le 11, 3) := by decide +kernel
theorem dX11_end_15 : decode cX11_end 15 = .ok (.aload_n 0, 1) := by decide +kernel
theorem dX11_end_16 : decode cX11_end 16 = .ok (.iconst 0, 1) := by decide +kernel
theorem dX11_end_17 : decode cX11_end 17 = .ok (.invokevirtual 105, 3) := by decide +kernel
theorem dX11_end_20 : decode cX11_end 20 = .ok (.pop, 1) := by decide +kernel
theorem dX11_end_21 : decode cX11_end 21 = .ok (.iconst 0, 1) := by decide +kernel
theorem dX11_end_22 : decode cX11_end 22 = .ok (.ireturn, 1) := by decide +kernel
theorem dX11_end_23 : decode cX11_end 23 = .ok (.aload_n 0, 1) := by decide +kernel
theorem dX11_end_24 : decode cX11_end 24 = .ok (.getfield 12, 3) := by decide +kernel
theorem dX11_end_27 : decode cX11_end 27 = .ok (.iload_n 1, 1) := by decide +kernel
theorem dX11_end_28 : decode cX11_end 28 = .ok (.putfield 102, 3) := by decide +kernel
theorem dX11_end_31 : decode cX11_end 31 = .ok (.iconst 1, 1) := by decide +kernel
theorem dX11_end_32 : decode cX11_end 32 = .ok (.ireturn, 1) := by decide +kernel
theorem dX11_lake_0 : decode cX11_lake 0 = .ok (.aload_n 0, 1) := by decide +kernel
theorem dX11_lake_1 : decode cX11_lake 1 = .ok (.getfield 30, 3) := by decide +kernel
theorem dX11_lake_4 : decode cX11_lake 4 = .ok (.aload_n 0, 1) := by decide +kernel
theorem dX11_lake_5 : decode cX11_lake 5 = .ok (.getfield 90, 3) := by decide +kernel
theorem dX11_lake_8 : decode cX11_lake 8 = .ok (.invokevirtual 113, 3) := by decide +kernel
theorem dX11_lake_11 : decode cX11_lake 11 = .ok (.istore_n 1, 1) := by decide +kernel
theorem dX11_lake_12 : decode cX11_lake 12 = .ok (.aload_n 0, 1) := by decide +kernel
theorem dX11_lake_13 : decode cX11_lake 13 = .ok (.getfield 12, 3) := by decide +kernel
theorem dX11_lake_16 : decode cX11_lake 16 = .ok (.iconst 0, 1) := by decide +kernel
theorem dX11_lake_17 : decode cX11_lake 17 = .ok (.putfield 102, 3) := by decide +kernel
theorem dX11_lake_20 : decode cX11_lake 20 = .ok (.iload_n 1, 1) := by decide +kernel
theorem dX11_lake_21 : decode cX11_lake 21 = .ok (.ifCond .ne 9, 3) := by decide +kernel
theorem dX11_lake_24 : decode cX11_lake 24 = .ok (.aload_n 0, 1) := by decide +kernel
theorem dX11_lake_25 : decode cX11_lake 25 = .ok (.iconst 1, 1) := by decide +kernel
theorem dX11_lake_26 : decode cX11_lake 26 = .ok (.invokevirtual 105, 3) := by decide +kernel
theorem dX11_lake_29 : decode cX11_lake 29 = .ok (.ireturn, 1) := by decide +kernel
theorem dX11_lake_30 : decode cX11_lake 30 = .ok (.aload_n 0, 1) := by decide +kernel
theorem dX11_lake_31 : decode cX11_lake 31 = .ok (.getfield 49, 3) := by decide +kernel
theorem dX11_lake_34 : decode cX11_lake 34 = .ok (.getfield 117, 3) := by decide +kernel
theorem dX11_lake_37 : decode cX11_lake 37 = .ok (.astore_n 2, 1) := by decide +kernel
theorem dX11_lake_38 : decode cX11_lake 38 = .ok (.aload_n 0, 1) := by decide +kernel
theorem dX11_lake_39 : decode cX11_lake 39 = .ok (.getfield 49, 3) := by decide +kernel
theorem dX11_lake_42 : decode cX11_lake 42 = .ok (.aload_n 0, 1) := by decide +kernel
theorem dX11_lake_43 : decode cX11_lake 43 = .ok (.getfield 90, 3) := by decide +kernel
theorem dX11_lake_46 : decode cX11_lake 46 = .ok (.putfield 117, 3) := by decide +kernel
theorem dX11_lake_49 : decode cX11_lake 49 = .ok (.aload_n 0, 1) := by decide +kernel
theorem dX11_lake_50 : decode cX11_lake 50 = .ok (.aload_n 2, 1) := by decide +kernel
theorem dX11_lake_51 : decode cX11_lake 51 = .ok (.putfield 90, 3) := by decide +kernel
theorem dX11_lake_54 : decode cX11_lake 54 = .ok (.aload_n 0, 1) := by decide +kernel
theorem dX11_lake_55 : decode cX11_lake 55 = .ok (.getfield 37, 3) := by decide +kernel
theorem dX11_lake_58 : decode cX11_lake 58 = .ok (.aload_n 0, 1) := by decide +kernel
theorem dX11_lake_59 : decode cX11_lake 59 = .ok (.getfield 49, 3) := by decide +kernel
theorem dX11_lake_62 : decode cX11_lake 62 = .ok (.getfield 117, 3) := by decide +kernel
theorem dX11_lake_65 : decode cX11_lake 65 = .ok (.invokevirtual 120, 3) := by decide +kernel
theorem dX11_lake_68 : decode cX11_lake 68 = .ok (.aload_n 0, 1) := by decide +kernel
theorem dX11_lake_69 : decode cX11_lake 69 = .ok (.getfield 72, 3) := by decide +kernel
theorem dX11_lake_72 : decode cX11_lake 72 = .ok (.iconst 0, 1) := by decide +kernel
theorem dX11_lake_73 : decode cX11_lake 73 = .ok (.putfield 124, 3) := by decide +kernel
theorem dX11_lake_76 : decode cX11_lake 76 = .ok (.aload_n 0, 1) := by decide +kernel
theorem dX11_lake_77 : decode cX11_lake 77 = .ok (.getfield 49, 3) := by decide +kernel
theorem dX11_lake_80 : decode cX11_lake 80 = .ok (.getfield 117, 3) := by decide +kernel
theorem dX11_lake_83 : decode cX11_lake 83 = .ok (.getfield 127, 3) := by decide +kernel
theorem dX11_lake_86 : decode cX11_lake 86 = .ok (.ireturn, 1) := by decide +kernel
theorem dX11_fault_0 : decode cX11_fault 0 = .ok (.iload_n 1, 1) := by decide +kernel
theorem dX11_fault_1 : decode cX11_fault 1 = .ok (.lookupswitch 43 #[(0, 27), (1, 35)], 27) := by decide +kernel
theorem dX11_fault_28 : decode cX11_fault 28 = .ok (.aload_n 0, 1) := by decide +kernel
theorem dX11_fault_29 : decode cX11_fault 29 = .ok (.getfield 12, 3) := by decide +kernel
theorem dX11_fault_32 : decode cX11_fault 32 = .ok (.getfield 130, 3) := by decide +kernel
theorem dX11_fault_35 : decode cX11_fault 35 = .ok (.ireturn, 1) := by decide +kernel
theorem dX11_fault_36 : decode cX11_fault 36 = .ok (.aload_n 0, 1) := by decide +kernel
theorem dX11_fault_37 : decode cX11_fault 37 = .ok (.getfield 12, 3) := by decide +kernel
theorem dX11_fault_40 : decode cX11_fault 40 = .ok (.getfield 133, 3) := by decide +kernel
theorem dX11_fault_43 : decode cX11_fault 43 = .ok (.ireturn, 1) := by decide +kernel
theorem dX11_fault_44 : decode cX11_fault 44 = .ok (.iconst (-1), 1) := by decide +kernel
theorem dX11_fault_45 : decode cX11_fault 45 = .ok (.ireturn, 1) := by decide +kernel
theorem dX11_has_0 : decode cX11_has 0 = .ok (.aload_n 0, 1) := by decide +kernel
theorem dX11_has_1 : decode cX11_has 1 = .ok (.getfield 49, 3) := by decide +kernel
theorem dX11_has_4 : decode cX11_has 4 = .ok (.getfield 117, 3) := by decide +kernel
theorem dX11_has_7 : decode cX11_has 7 = .ok (.astore_n 2, 1) := by decide +kernel
theorem dX11_has_8 : decode cX11_has 8 = .ok (.iload_n 1, 1) := by decide +kernel
theorem dX11_has_9 : decode cX11_has 9 = .ok (.tableswitch 151 0 11 #[63, 68, 73, 78, 83, 91, 103, 111, 119, 127, 135, 143], 63) := by decide +kernel
theorem dX11_has_72 : decode cX11_has 72 = .ok (.aload_n 2, 1) := by decide +kernel
theorem dX11_has_73 : decode cX11_has 73 = .ok (.getfield 136, 3) := by decide +kernel
theorem dX11_has_76 : decode cX11_has 76 = .ok (.ireturn, 1) := by decide +kernel
theorem dX11_has_77 : decode cX11_has 77 = .ok (.aload_n 2, 1) := by decide +kernel
theorem dX11_has_78 : decode cX11_has 78 = .ok (.getfield 139, 3) := by decide +kernel
theorem dX11_has_81 : decode cX11_has 81 = .ok (.ireturn, 1) := by decide +kernel
theorem dX11_has_82 : decode cX11_has 82 = .ok (.aload_n 2, 1) := by decide +kernel
theorem dX11_has_83 : decode cX11_has 83 = .ok (.getfield 142, 3) := by decide +kernel
theorem dX11_has_86 : decode cX11_has 86 = .ok (.ireturn, 1) := by decide +kernel
theorem dX11_has_87 : decode cX11_has 87 = .ok (.aload_n 2, 1) := by decide +kernel
theorem dX11_has_88 : decode cX11_has 88 = .ok (.getfield 145, 3) := by decide +kernel
theorem dX11_has_91 : decode cX11_has 91 = .ok (.ireturn, 1) := by decide +kernel
theorem dX11_has_92 : decode cX11_has 92 = .ok (.aload_n 0, 1) := by decide +kernel
theorem dX11_has_93 : decode cX11_has 93 = .ok (.getfield 37, 3) := by decide +kernel
theorem dX11_has_96 : decode cX11_has 96 = .ok (.invokevirtual 148, 3) := by decide +kernel
theorem dX11_has_99 : decode cX11_has 99 = .ok (.ireturn, 1) := by decide +kernel
theorem dX11_has_100 : decode cX11_has 100 = .ok (.aload_n 2, 1) := by decide +kernel
theorem dX11_has_101 : decode cX11_has 101 = .ok (.aload_n 0, 1) := by decide +kernel
theorem dX11_has_102 : decode cX11_has 102 = .ok (.getfield 37, 3) := by decide +kernel
theorem dX11_has_105 : decode cX11_has 105 = .ok (.invokevirtual 148, 3) := by decide +kernel
theorem dX11_has_108 : decode cX11_has 108 = .ok (.invokevirtual 152, 3) := by decide +kernel
theorem dX11_has_111 : decode cX11_has 111 = .ok (.ireturn, 1) := by decide +kernel
theorem dX11_has_112 : decode cX11_has 112 = .ok (.aload_n 0, 1) := by decide +kernel
theorem dX11_has_113 : decode cX11_has 113 = .ok (.getfield 37, 3) := by decide +kernel
theorem dX11_has_116 : decode cX11_has 116 = .ok (.invokevirtual 155, 3) := by decide +kernel
theorem dX11_has_119 : decode cX11_has 119 = .ok (.ireturn, 1) := by decide +kernel
theorem dX11_has_120 : decode cX11_has 120 = .ok (.aload_n 0, 1) := by decide +kernel
theorem dX11_has_121 : decode cX11_has 121 = .ok (.getfield 37, 3) := by decide +kernel
theorem dX11_has_124 : decode cX11_has 124 = .ok (.invokevirtual 158, 3) := by decide +kernel
theorem dX11_has_127 : decode cX11_has 127 = .ok (.ireturn, 1) := by decide +kernel
theorem dX11_has_128 : decode cX11_has 128 = .ok (.aload_n 0, 1) := by decide +kernel
theorem dX11_has_129 : decode cX11_has 129 = .ok (.getfield 37, 3) := by decide +kernel
theorem dX11_has_132 : decode cX11_has 132 = .ok (.invokevirtual 161, 3) := by decide +kernel
theorem dX11_has_135 : decode cX11_has 135 = .ok (.ireturn, 1) := by decide +kernel
theorem dX11_has_136 : decode cX11_has 136 = .ok (.aload_n 0, 1) := by decide +kernel
theorem dX11_has_137 : decode cX11_has 137 = .ok (.getfield 37, 3) := by decide +kernel
theorem dX11_has_140 : decode cX11_has 140 = .ok (.invokevirtual 164, 3) := by decide +kernel
theorem dX11_has_143 : decode cX11_has 143 = .ok (.ireturn, 1) := by decide +kernel
theorem dX11_has_144 : decode cX11_has 144 = .ok (.aload_n 0, 1) := by decide +kernel
theorem dX11_has_145 : decode cX11_has 145 = .ok (.getfield 72, 3) := by decide +kernel
theorem dX11_has_148 : decode cX11_has 148 = .ok (.getfield 124, 3) := by decide +kernel
theorem dX11_has_151 : decode cX11_has 151 = .ok (.ireturn, 1) := by decide +kernel
theorem dX11_has_152 : decode cX11_has 152 = .ok (.aload_n 0, 1) := by decide +kernel
theorem dX11_has_153 : decode cX11_has 153 = .ok (.getfield 37, 3) := by decide +kernel
theorem dX11_has_156 : decode cX11_has 156 = .ok (.getfield 167, 3) := by decide +kernel
theorem dX11_has_159 : decode cX11_has 159 = .ok (.ireturn, 1) := by decide +kernel
theorem dX11_has_160 : decode cX11_has 160 = .ok (.iconst (-1), 1) := by decide +kernel
theorem dX11_has_161 : decode cX11_has 161 = .ok (.ireturn, 1) := by decide +kernel
theorem dX11_letter_0 : decode cX11_letter 0 = .ok (.iload_n 3, 1) := by decide +kernel
theorem dX11_letter_1 : decode cX11_letter 1 = .ok (.ifCond .lt 9, 3) := by decide +kernel
theorem dX11_letter_4 : decode cX11_letter 4 = .ok (.iload_n 3, 1) := by decide +kernel
theorem dX11_letter_5 : decode cX11_letter 5 = .ok (.bipush 6, 2) := by decide +kernel
theorem dX11_letter_7 : decode cX11_letter 7 = .ok (.if_icmp .lt 5, 3) := by decide +kernel
theorem dX11_letter_10 : decode cX11_letter 10 = .ok (.iconst (-1), 1) := by decide +kernel
theorem dX11_letter_11 : decode cX11_letter 11 = .ok (.ireturn, 1) := by decide +kernel
theorem dX11_letter_12 : decode cX11_letter 12 = .ok (.iload_n 1, 1) := by decide +kernel
theorem dX11_letter_13 : decode cX11_letter 13 = .ok (.ifCond .ne 34, 3) := by decide +kernel
theorem dX11_letter_16 : decode cX11_letter 16 = .ok (.aload_n 0, 1) := by decide +kernel
theorem dX11_letter_17 : decode cX11_letter 17 = .ok (.getfield 49, 3) := by decide +kernel
theorem dX11_letter_20 : decode cX11_letter 20 = .ok (.getfield 117, 3) := by decide +kernel
theorem dX11_letter_23 : decode cX11_letter 23 = .ok (.iload_n 2, 1) := by decide +kernel
theorem dX11_letter_24 : decode cX11_letter 24 = .ok (.invokevirtual 170, 3) := by decide +kernel
theorem dX11_letter_27 : decode cX11_letter 27 = .ok (.ifCond .eq 20, 3) := by decide +kernel
theorem dX11_letter_30 : decode cX11_letter 30 = .ok (.aload_n 0, 1) := by decide +kernel
theorem dX11_letter_31 : decode cX11_letter 31 = .ok (.getfield 49, 3) := by decide +kernel
theorem dX11_letter_34 : decode cX11_letter 34 = .ok (.getfield 117, 3) := by decide +kernel
theorem dX11_letter_37 : decode cX11_letter 37 = .ok (.getfield 174, 3) := by decide +kernel
theorem dX11_letter_40 : decode cX11_letter 40 = .ok (.iload_n 2, 1) := by decide +kernel
theorem dX11_letter_41 : decode cX11_letter 41 = .ok (.iaload, 1) := by decide +kernel
theorem dX11_letter_42 : decode cX11_letter 42 = .ok (.iload_n 3, 1) := by decide +kernel
theorem dX11_letter_43 : decode cX11_letter 43 = .ok (.invokestatic 177, 3) := by decide +kernel
theorem dX11_letter_46 : decode cX11_letter 46 = .ok (.ireturn, 1) := by decide +kernel
theorem dX11_letter_47 : decode cX11_letter 47 = .ok (.iload_n 1, 1) := by decide +kernel
theorem dX11_letter_48 : decode cX11_letter 48 = .ok (.iconst 1, 1) := by decide +kernel
theorem dX11_letter_49 : decode cX11_letter 49 = .ok (.if_icmp .ne 34, 3) := by decide +kernel
theorem dX11_letter_52 : decode cX11_letter 52 = .ok (.aload_n 0, 1) := by decide +kernel
theorem dX11_letter_53 : decode cX11_letter 53 = .ok (.getfield 49, 3) := by decide +kernel
theorem dX11_letter_56 : decode cX11_letter 56 = .ok (.getfield 117, 3) := by decide +kernel
theorem dX11_letter_59 : decode cX11_letter 59 = .ok (.iload_n 2, 1) := by decide +kernel
theorem dX11_letter_60 : decode cX11_letter 60 = .ok (.invokevirtual 181, 3) := by decide +kernel
theorem dX11_letter_63 : decode cX11_letter 63 = .ok (.ifCond .eq 20, 3) := by decide +kernel
theorem dX11_letter_66 : decode cX11_letter 66 = .ok (.aload_n 0, 1) := by decide +kernel
theorem dX11_letter_67 : decode cX11_letter 67 = .ok (.getfield 49, 3) := by decide +kernel
theorem dX11_letter_70 : decode cX11_letter 70 = .ok (.getfield 117, 3) := by decide +kernel
theorem dX11_letter_73 : decode cX11_letter 73 = .ok (.getfield 184, 3) := by decide +kernel
theorem dX11_letter_76 : decode cX11_letter 76 = .ok (.iload_n 2, 1) := by decide +kernel
theorem dX11_letter_77 : decode cX11_letter 77 = .ok (.iaload, 1) := by decide +kernel
theorem dX11_letter_78 : decode cX11_letter 78 = .ok (.iload_n 3, 1) := by decide +kernel
theorem dX11_letter_79 : decode cX11_letter 79 = .ok (.invokestatic 177, 3) := by decide +kernel
theorem dX11_letter_82 : decode cX11_letter 82 = .ok (.ireturn, 1) := by decide +kernel
theorem dX11_letter_83 : decode cX11_letter 83 = .ok (.iconst (-1), 1) := by decide +kernel
theorem dX11_letter_84 : decode cX11_letter 84 = .ok (.ireturn, 1) := by decide +kernel
theorem dX11_boat_0 : decode cX11_boat 0 = .ok (.aload_n 0, 1) := by decide +kernel
theorem dX11_boat_1 : decode cX11_boat 1 = .ok (.getfield 49, 3) := by decide +kernel
theorem dX11_boat_4 : decode cX11_boat 4 = .ok (.getfield 117, 3) := by decide +kernel
theorem dX11_boat_7 : decode cX11_boat 7 = .ok (.iload_n 1, 1) := by decide +kernel
theorem dX11_boat_8 : decode cX11_boat 8 = .ok (.invokevirtual 170, 3) := by decide +kernel
theorem dX11_boat_11 : decode cX11_boat 11 = .ok (.ifCond .ne 5, 3) := by decide +kernel
theorem dX11_boat_14 : decode cX11_boat 14 = .ok (.iconst (-1), 1) := by decide +kernel
theorem dX11_boat_15 : decode cX11_boat 15 = .ok (.ireturn, 1) := by decide +kernel
theorem dX11_boat_16 : decode cX11_boat 16 = .ok (.iload_n 2, 1) := by decide +kernel
theorem dX11_boat_17 : decode cX11_boat 17 = .ok (.tableswitch 84 0 4 #[35, 44, 53, 62, 71], 35) := by decide +kernel
theorem dX11_boat_52 : decode cX11_boat 52 = .ok (.aload_n 0, 1) := by decide +kernel
theorem dX11_boat_53 : decode cX11_boat 53 = .ok (.getfield 37, 3) := by decide +kernel
theorem dX11_boat_56 : decode cX11_boat 56 = .ok (.iload_n 1, 1) := by decide +kernel
theorem dX11_boat_57 : decode cX11_boat 57 = .ok (.invokevirtual 187, 3) := by decide +kernel
theorem dX11_boat_60 : decode cX11_boat 60 = .ok (.ireturn, 1) := by decide +kernel
theorem dX11_boat_61 : decode cX11_boat 61 = .ok (.aload_n 0, 1) := by decide +kernel
theorem dX11_boat_62 : decode cX11_boat 62 = .ok (.getfield 37, 3) := by decide +kernel
theorem dX11_boat_65 : decode cX11_boat 65 = .ok (.iload_n 1, 1) := by decide +kernel
theorem dX11_boat_66 : decode cX11_boat 66 = .ok (.invokevirtual 190, 3) := by decide +kernel
theorem dX11_boat_69 : decode cX11_boat 69 = .ok (.ireturn, 1) := by decide +kernel
theorem dX11_boat_70 : decode cX11_boat 70 = .ok (.aload_n 0, 1) := by decide +kernel
theorem dX11_boat_71 : decode cX11_boat 71 = .ok (.getfield 37, 3) := by decide +kernel
theorem dX11_boat_74 : decode cX11_boat 74 = .ok (.iload_n 1, 1) := by decide +kernel
theorem dX11_boat_75 : decode cX11_boat 75 = .ok (.invokevirtual 193, 3) := by decide +kernel
theorem dX11_boat_78 : decode cX11_boat 78 = .ok (.ireturn, 1) := by decide +kernel
theorem dX11_boat_79 : decode cX11_boat 79 = .ok (.aload_n 0, 1) := by decide +kernel
theorem dX11_boat_80 : decode cX11_boat 80 = .ok (.getfield 37, 3) := by decide +kernel
theorem dX11_boat_83 : decode cX11_boat 83 = .ok (.iload_n 1, 1) := by decide +kernel
theorem dX11_boat_84 : decode cX11_boat 84 = .ok (.invokevirtual 196, 3) := by decide +kernel
theorem dX11_boat_87 : decode cX11_boat 87 = .ok (.ireturn, 1) := by decide +kernel
theorem dX11_boat_88 : decode cX11_boat 88 = .ok (.aload_n 0, 1) := by decide +kernel
theorem dX11_boat_89 : decode cX11_boat 89 = .ok (.getfield 49, 3) := by decide +kernel
theorem dX11_boat_92 : decode cX11_boat 92 = .ok (.getfield 117, 3) := by decide +kernel
theorem dX11_boat_95 : decode cX11_boat 95 = .ok (.getfield 199, 3) := by decide +kernel
theorem dX11_boat_98 : decode cX11_boat 98 = .ok (.iload_n 1, 1) := by decide +kernel
theorem dX11_boat_99 : decode cX11_boat 99 = .ok (.iaload, 1) := by decide +kernel
theorem dX11_boat_100 : decode cX11_boat 100 = .ok (.ireturn, 1) := by decide +kernel
theorem dX11_boat_101 : decode cX11_boat 101 = .ok (.iconst (-1), 1) := by decide +kernel
theorem dX11_boat_102 : decode cX11_boat 102 = .ok (.ireturn, 1) := by decide +kernel
theorem dX11_cell_0 : decode cX11_cell 0 = .ok (.aload_n 0, 1) := by decide +kernel
theorem dX11_cell_1 : decode cX11_cell 1 = .ok (.getfield 49, 3) := by decide +kernel
theorem dX11_cell_4 : decode cX11_cell 4 = .ok (.getfield 117, 3) := by decide +kernel
theorem dX11_cell_7 : decode cX11_cell 7 = .ok (.astore_n 3, 1) := by decide +kernel
theorem dX11_cell_8 : decode cX11_cell 8 = .ok (.aload_n 3, 1) := by decide +kernel
theorem dX11_cell_9 : decode cX11_cell 9 = .ok (.iload_n 1, 1) := by decide +kernel
theorem dX11_cell_10 : decode cX11_cell 10 = .ok (.invokevirtual 202, 3) := by decide +kernel
theorem dX11_cell_13 : decode cX11_cell 13 = .ok (.ifCond .ne 5, 3) := by decide +kernel
theorem dX11_cell_16 : decode cX11_cell 16 = .ok (.iconst (-1), 1) := by decide +kernel
theorem dX11_cell_17 : decode cX11_cell 17 = .ok (.ireturn, 1) := by decide +kernel
theorem dX11_cell_18 : decode cX11_cell 18 = .ok (.iload_n 2, 1) := by decide +kernel
theorem dX11_cell_19 : decode cX11_cell 19 = .ok (.tableswitch 68 0 3 #[29, 47, 53, 59], 29) := by decide +kernel
theorem dX11_cell_48 : decode cX11_cell 48 = .ok (.aload_n 3, 1) := by decide +kernel
theorem dX11_cell_49 : decode cX11_cell 49 = .ok (.iload_n 1, 1) := by decide +kernel
theorem dX11_cell_50 : decode cX11_cell 50 = .ok (.invokevirtual 205, 3) := by decide +kernel
theorem dX11_cell_53 : decode cX11_cell 53 = .ok (.ifCond .eq 7, 3) := by decide +kernel
theorem dX11_cell_56 : decode cX11_cell 56 = .ok (.iconst (-1), 1) := by decide +kernel
theorem dX11_cell_57 : decode cX11_cell 57 = .ok (.goto 8, 3) := by decide +kernel
theorem dX11_cell_60 : decode cX11_cell 60 = .ok (.aload_n 3, 1) := by decide +kernel
theorem dX11_cell_61 : decode cX11_cell 61 = .ok (.iload_n 1, 1) := by decide +kernel
theorem dX11_cell_62 : decode cX11_cell 62 = .ok (.invokevirtual 208, 3) := by decide +kernel
theorem dX11_cell_65 : decode cX11_cell 65 = .ok (.ireturn, 1) := by decide +kernel
theorem dX11_cell_66 : decode cX11_cell 66 = .ok (.aload_n 3, 1) := by decide +kernel
theorem dX11_cell_67 : decode cX11_cell 67 = .ok (.iload_n 1, 1) := by decide +kernel
theorem dX11_cell_68 : decode cX11_cell 68 = .ok (.invokevirtual 211, 3) := by decide +kernel
theorem dX11_cell_71 : decode cX11_cell 71 = .ok (.ireturn, 1) := by decide +kernel
theorem dX11_cell_72 : decode cX11_cell 72 = .ok (.aload_n 3, 1) := by decide +kernel
theorem dX11_cell_73 : decode cX11_cell 73 = .ok (.iload_n 1, 1) := by decide +kernel
theorem dX11_cell_74 : decode cX11_cell 74 = .ok (.invokevirtual 214, 3) := by decide +kernel
theorem dX11_cell_77 : decode cX11_cell 77 = .ok (.ireturn, 1) := by decide +kernel
theorem dX11_cell_78 : decode cX11_cell 78 = .ok (.aload_n 0, 1) := by decide +kernel
theorem dX11_cell_79 : decode cX11_cell 79 = .ok (.getfield 37, 3) := by decide +kernel
theorem dX11_cell_82 : decode cX11_cell 82 = .ok (.iload_n 1, 1) := by decide +kernel
theorem dX11_cell_83 : decode cX11_cell 83 = .ok (.invokevirtual 217, 3) := by decide +kernel
theorem dX11_cell_86 : decode cX11_cell 86 = .ok (.ireturn, 1) := by decide +kernel
theorem dX11_cell_87 : decode cX11_cell 87 = .ok (.iconst (-1), 1) := by decide +kernel
theorem dX11_cell_88 : decode cX11_cell 88 = .ok (.ireturn, 1) := by decide +kernel
theorem dX11_hand_0 : decode cX11_hand 0 = .ok (.aload_n 0, 1) := by decide +kernel
theorem dX11_hand_1 : decode cX11_hand 1 = .ok (.getfield 49, 3) := by decide +kernel
theorem dX11_hand_4 : decode cX11_hand 4 = .ok (.getfield 117, 3) := by decide +kernel
theorem dX11_hand_7 : decode cX11_hand 7 = .ok (.iload_n 1, 1) := by decide +kernel
theorem dX11_hand_8 : decode cX11_hand 8 = .ok (.invokevirtual 181, 3) := by decide +kernel
theorem dX11_hand_11 : decode cX11_hand 11 = .ok (.ifCond .ne 5, 3) := by decide +kernel
theorem dX11_hand_14 : decode cX11_hand 14 = .ok (.iconst (-1), 1) := by decide +kernel
theorem dX11_hand_15 : decode cX11_hand 15 = .ok (.ireturn, 1) := by decide +kernel
theorem dX11_hand_16 : decode cX11_hand 16 = .ok (.iload_n 2, 1) := by decide +kernel
theorem dX11_hand_17 : decode cX11_hand 17 = .ok (.lookupswitch 48 #[(0, 27), (1, 39)], 27) := by decide +kernel
theorem dX11_hand_44 : decode cX11_hand 44 = .ok (.aload_n 0, 1) := by decide +kernel
theorem dX11_hand_45 : decode cX11_hand 45 = .ok (.getfield 49, 3) := by decide +kernel
theorem dX11_hand_48 : decode cX11_hand 48 = .ok (.getfield 117, 3) := by decide +kernel
theorem dX11_hand_51 : decode cX11_hand 51 = .ok (.iload_n 1, 1) := by decide +kernel
theorem dX11_hand_52 : decode cX11_hand 52 = .ok (.invokevirtual 220, 3) := by decide +kernel
theorem dX11_hand_55 : decode cX11_hand 55 = .ok (.ireturn, 1) := by decide +kernel
theorem dX11_hand_56 : decode cX11_hand 56 = .ok (.aload_n 0, 1) := by decide +kernel
theorem dX11_hand_57 : decode cX11_hand 57 = .ok (.getfield 37, 3) := by decide +kernel
theorem dX11_hand_60 : decode cX11_hand 60 = .ok (.iload_n 1, 1) := by decide +kernel
theorem dX11_hand_61 : decode cX11_hand 61 = .ok (.invokevirtual 223, 3) := by decide +kernel
theorem dX11_hand_64 : decode cX11_hand 64 = .ok (.ireturn, 1) := by decide +kernel
theorem dX11_hand_65 : decode cX11_hand 65 = .ok (.iconst (-1), 1) := by decide +kernel
theorem dX11_hand_66 : decode cX11_hand 66 = .ok (.ireturn, 1) := by decide +kernel
theorem dX11_likes_0 : decode cX11_likes 0 = .ok (.aload_n 0, 1) := by decide +kernel
theorem dX11_likes_1 : decode cX11_likes 1 = .ok (.getfield 49, 3) := by decide +kernel
theorem dX11_likes_4 : decode cX11_likes 4 = .ok (.getfield 117, 3) := by decide +kernel
theorem dX11_likes_7 : decode cX11_likes 7 = .ok (.iload_n 1, 1) := by decide +kernel
theorem dX11_likes_8 : decode cX11_likes 8 = .ok (.invokevirtual 170, 3) := by decide +kernel
theorem dX11_likes_11 : decode cX11_likes 11 = .ok (.ifCond .eq 17, 3) := by decide +kernel
theorem dX11_likes_14 : decode cX11_likes 14 = .ok (.aload_n 0, 1) := by decide +kernel
theorem dX11_likes_15 : decode cX11_likes 15 = .ok (.getfield 49, 3) := by decide +kernel
theorem dX11_likes_18 : decode cX11_likes 18 = .ok (.getfield 117, 3) := by decide +kernel
theorem dX11_likes_21 : decode cX11_likes 21 = .ok (.iload_n 2, 1) := by decide +kernel
theorem dX11_likes_22 : decode cX11_likes 22 = .ok (.invokevirtual 181, 3) := by decide +kernel
theorem dX11_likes_25 : decode cX11_likes 25 = .ok (.ifCond .ne 5, 3) := by decide +kernel
theorem dX11_likes_28 : decode cX11_likes 28 = .ok (.iconst (-1), 1) := by decide +kernel
theorem dX11_likes_29 : decode cX11_likes 29 = .ok (.ireturn, 1) := by decide +kernel
theorem dX11_likes_30 : decode cX11_likes 30 = .ok (.aload_n 0, 1) := by decide +kernel
theorem dX11_likes_31 : decode cX11_likes 31 = .ok (.getfield 49, 3) := by decide +kernel
theorem dX11_likes_34 : decode cX11_likes 34 = .ok (.getfield 117, 3) := by decide +kernel
theorem dX11_likes_37 : decode cX11_likes 37 = .ok (.iload_n 1, 1) := by decide +kernel
theorem dX11_likes_38 : decode cX11_likes 38 = .ok (.iload_n 2, 1) := by decide +kernel
theorem dX11_likes_39 : decode cX11_likes 39 = .ok (.invokevirtual 226, 3) := by decide +kernel
theorem dX11_likes_42 : decode cX11_likes 42 = .ok (.ireturn, 1) := by decide +kernel
theorem dX11_sky_0 : decode cX11_sky 0 = .ok (.iload_n 1, 1) := by decide +kernel
theorem dX11_sky_1 : decode cX11_sky 1 = .ok (.ifCond .lt 10, 3) := by decide +kernel
theorem dX11_sky_4 : decode cX11_sky 4 = .ok (.iload_n 1, 1) := by decide +kernel
theorem dX11_sky_5 : decode cX11_sky 5 = .ok (.sipush 999, 3) := by decide +kernel
theorem dX11_sky_8 : decode cX11_sky 8 = .ok (.if_icmp .le 5, 3) := by decide +kernel
theorem dX11_sky_11 : decode cX11_sky 11 = .ok (.iconst (-1), 1) := by decide +kernel
theorem dX11_sky_12 : decode cX11_sky 12 = .ok (.ireturn, 1) := by decide +kernel
theorem dX11_sky_13 : decode cX11_sky 13 = .ok (.aload_n 0, 1) := by decide +kernel
theorem dX11_sky_14 : decode cX11_sky 14 = .ok (.getfield 49, 3) := by decide +kernel
theorem dX11_sky_17 : decode cX11_sky 17 = .ok (.getfield 117, 3) := by decide +kernel
theorem dX11_sky_20 : decode cX11_sky 20 = .ok (.iload_n 1, 1) := by decide +kernel
theorem dX11_sky_21 : decode cX11_sky 21 = .ok (.invokevirtual 152, 3) := by decide +kernel
theorem dX11_sky_24 : decode cX11_sky 24 = .ok (.ireturn, 1) := by decide +kernel
theorem dX11_kept_0 : decode cX11_kept 0 = .ok (.iload_n 1, 1) := by decide +kernel
theorem dX11_kept_1 : decode cX11_kept 1 = .ok (.ifCond .lt 14, 3) := by decide +kernel
theorem dX11_kept_4 : decode cX11_kept 4 = .ok (.iload_n 1, 1) := by decide +kernel
theorem dX11_kept_5 : decode cX11_kept 5 = .ok (.aload_n 0, 1) := by decide +kernel
theorem dX11_kept_6 : decode cX11_kept 6 = .ok (.getfield 37, 3) := by decide +kernel
theorem dX11_kept_9 : decode cX11_kept 9 = .ok (.invokevirtual 164, 3) := by decide +kernel
theorem dX11_kept_12 : decode cX11_kept 12 = .ok (.if_icmp .lt 5, 3) := by decide +kernel
theorem dX11_kept_15 : decode cX11_kept 15 = .ok (.iconst (-1), 1) := by decide +kernel
theorem dX11_kept_16 : decode cX11_kept 16 = .ok (.ireturn, 1) := by decide +kernel
theorem dX11_kept_17 : decode cX11_kept 17 = .ok (.aload_n 0, 1) := by decide +kernel
theorem dX11_kept_18 : decode cX11_kept 18 = .ok (.getfield 37, 3) := by decide +kernel
theorem dX11_kept_21 : decode cX11_kept 21 = .ok (.iload_n 1, 1) := by decide +kernel
theorem dX11_kept_22 : decode cX11_kept 22 = .ok (.iload_n 2, 1) := by decide +kernel
theorem dX11_kept_23 : decode cX11_kept 23 = .ok (.invokevirtual 229, 3) := by decide +kernel
theorem dX11_kept_26 : decode cX11_kept 26 = .ok (.ireturn, 1) := by decide +kernel
theorem dX11_dread_0 : decode cX11_dread 0 = .ok (.aload_n 0, 1) := by decide +kernel
theorem dX11_dread_1 : decode cX11_dread 1 = .ok (.getfield 49, 3) := by decide +kernel
theorem dX11_dread_4 : decode cX11_dread 4 = .ok (.getfield 117, 3) := by decide +kernel
theorem dX11_dread_7 : decode cX11_dread 7 = .ok (.astore 4, 2) := by decide +kernel
theorem dX11_dread_9 : decode cX11_dread 9 = .ok (.aload 4, 2) := by decide +kernel
theorem dX11_dread_11 : decode cX11_dread 11 = .ok (.iload_n 1, 1) := by decide +kernel
theorem dX11_dread_12 : decode cX11_dread 12 = .ok (.invokevirtual 170, 3) := by decide +kernel
theorem dX11_dread_15 : decode cX11_dread 15 = .ok (.ifCond .eq 17, 3) := by decide +kernel
theorem dX11_dread_18 : decode cX11_dread 18 = .ok (.aload 4, 2) := by decide +kernel
theorem dX11_dread_20 : decode cX11_dread 20 = .ok (.iload_n 2, 1) := by decide +kernel
theorem dX11_dread_21 : decode cX11_dread 21 = .ok (.invokevirtual 232, 3) := by decide +kernel
theorem dX11_dread_24 : decode cX11_dread 24 = .ok (.ifCond .eq 8, 3) := by decide +kernel
theorem dX11_dread_27 : decode cX11_dread 27 = .ok (.iload_n 3, 1) := by decide +kernel
theorem dX11_dread_28 : decode cX11_dread 28 = .ok (.iload_n 1, 1) := by decide +kernel
theorem dX11_dread_29 : decode cX11_dread 29 = .ok (.if_icmp .ne 5, 3) := by decide +kernel
theorem dX11_dread_32 : decode cX11_dread 32 = .ok (.iconst (-1), 1) := by decide +kernel
theorem dX11_dread_33 : decode cX11_dread 33 = .ok (.ireturn, 1) := by decide +kernel
theorem dX11_dread_34 : decode cX11_dread 34 = .ok (.iload_n 3, 1) := by decide +kernel
theorem dX11_dread_35 : decode cX11_dread 35 = .ok (.iconst (-1), 1) := by decide +kernel
theorem dX11_dread_36 : decode cX11_dread 36 = .ok (.if_icmp .ne 14, 3) := by decide +kernel
theorem dX11_dread_39 : decode cX11_dread 39 = .ok (.aload_n 0, 1) := by decide +kernel
theorem dX11_dread_40 : decode cX11_dread 40 = .ok (.getfield 49, 3) := by decide +kernel
theorem dX11_dread_43 : decode cX11_dread 43 = .ok (.iload_n 1, 1) := by decide +kernel
theorem dX11_dread_44 : decode cX11_dread 44 = .ok (.iload_n 2, 1) := by decide +kernel
theorem dX11_dread_45 : decode cX11_dread 45 = .ok (.iconst (-1), 1) := by decide +kernel
theorem dX11_dread_46 : decode cX11_dread 46 = .ok (.invokevirtual 235, 3) := by decide +kernel
theorem dX11_dread_49 : decode cX11_dread 49 = .ok (.ireturn, 1) := by decide +kernel
theorem dX11_dread_50 : decode cX11_dread 50 = .ok (.aload 4, 2) := by decide +kernel
theorem dX11_dread_52 : decode cX11_dread 52 = .ok (.iload_n 3, 1) := by decide +kernel
theorem dX11_dread_53 : decode cX11_dread 53 = .ok (.invokevirtual 170, 3) := by decide +kernel
theorem dX11_dread_56 : decode cX11_dread 56 = .ok (.ifCond .ne 5, 3) := by decide +kernel
theorem dX11_dread_59 : decode cX11_dread 59 = .ok (.iconst (-1), 1) := by decide +kernel
theorem dX11_dread_60 : decode cX11_dread 60 = .ok (.ireturn, 1) := by decide +kernel
theorem dX11_dread_61 : decode cX11_dread 61 = .ok (.aload_n 0, 1) := by decide +kernel
theorem dX11_dread_62 : decode cX11_dread 62 = .ok (.getfield 49, 3) := by decide +kernel
theorem dX11_dread_65 : decode cX11_dread 65 = .ok (.iload_n 1, 1) := by decide +kernel
theorem dX11_dread_66 : decode cX11_dread 66 = .ok (.iload_n 2, 1) := by decide +kernel
theorem dX11_dread_67 : decode cX11_dread 67 = .ok (.aload_n 0, 1) := by decide +kernel
theorem dX11_dread_68 : decode cX11_dread 68 = .ok (.getfield 37, 3) := by decide +kernel
theorem dX11_dread_71 : decode cX11_dread 71 = .ok (.iload_n 3, 1) := by decide +kernel
theorem dX11_dread_72 : decode cX11_dread 72 = .ok (.invokevirtual 190, 3) := by decide +kernel
theorem dX11_dread_75 : decode cX11_dread 75 = .ok (.invokevirtual 235, 3) := by decide +kernel
theorem dX11_dread_78 : decode cX11_dread 78 = .ok (.ireturn, 1) := by decide +kernel
theorem dX11_route_0 : decode cX11_route 0 = .ok (.aload_n 0, 1) := by decide +kernel
theorem dX11_route_1 : decode cX11_route 1 = .ok (.getfield 49, 3) := by decide +kernel
theorem dX11_route_4 : decode cX11_route 4 = .ok (.getfield 117, 3) := by decide +kernel
theorem dX11_route_7 : decode cX11_route 7 = .ok (.iload_n 1, 1) := by decide +kernel
theorem dX11_route_8 : decode cX11_route 8 = .ok (.invokevirtual 170, 3) := by decide +kernel
theorem dX11_route_11 : decode cX11_route 11 = .ok (.ifCond .eq 22, 3) := by decide +kernel
theorem dX11_route_14 : decode cX11_route 14 = .ok (.aload_n 0, 1) := by decide +kernel
theorem dX11_route_15 : decode cX11_route 15 = .ok (.getfield 49, 3) := by decide +kernel
theorem dX11_route_18 : decode cX11_route 18 = .ok (.getfield 117, 3) := by decide +kernel
theorem dX11_route_21 : decode cX11_route 21 = .ok (.iload_n 2, 1) := by decide +kernel
theorem dX11_route_22 : decode cX11_route 22 = .ok (.invokevirtual 232, 3) := by decide +kernel
theorem dX11_route_25 : decode cX11_route 25 = .ok (.ifCond .eq 8, 3) := by decide +kernel
theorem dX11_route_28 : decode cX11_route 28 = .ok (.iload_n 3, 1) := by decide +kernel
theorem dX11_route_29 : decode cX11_route 29 = .ok (.iconst (-1), 1) := by decide +kernel
theorem dX11_route_30 : decode cX11_route 30 = .ok (.if_icmp .ge 5, 3) := by decide +kernel
theorem dX11_route_33 : decode cX11_route 33 = .ok (.iconst (-1), 1) := by decide +kernel
theorem dX11_route_34 : decode cX11_route 34 = .ok (.ireturn, 1) := by decide +kernel
theorem dX11_route_35 : decode cX11_route 35 = .ok (.aload_n 0, 1) := by decide +kernel
theorem dX11_route_36 : decode cX11_route 36 = .ok (.getfield 58, 3) := by decide +kernel
theorem dX11_route_39 : decode cX11_route 39 = .ok (.iload_n 1, 1) := by decide +kernel
theorem dX11_route_40 : decode cX11_route 40 = .ok (.iload_n 2, 1) := by decide +kernel
theorem dX11_route_41 : decode cX11_route 41 = .ok (.invokevirtual 239, 3) := by decide +kernel
theorem dX11_route_44 : decode cX11_route 44 = .ok (.istore 4, 2) := by decide +kernel
theorem dX11_route_46 : decode cX11_route 46 = .ok (.iload_n 3, 1) := by decide +kernel
theorem dX11_route_47 : decode cX11_route 47 = .ok (.iconst (-1), 1) := by decide +kernel
theorem dX11_route_48 : decode cX11_route 48 = .ok (.if_icmp .ne 6, 3) := by decide +kernel
theorem dX11_route_51 : decode cX11_route 51 = .ok (.iload 4, 2) := by decide +kernel
theorem dX11_route_53 : decode cX11_route 53 = .ok (.ireturn, 1) := by decide +kernel
theorem dX11_route_54 : decode cX11_route 54 = .ok (.iload_n 3, 1) := by decide +kernel
theorem dX11_route_55 : decode cX11_route 55 = .ok (.iload 4, 2) := by decide +kernel
theorem dX11_route_57 : decode cX11_route 57 = .ok (.if_icmp .ge 21, 3) := by decide +kernel
theorem dX11_route_60 : decode cX11_route 60 = .ok (.iload_n 3, 1) := by decide +kernel
theorem dX11_route_61 : decode cX11_route 61 = .ok (.bipush 48, 2) := by decide +kernel
theorem dX11_route_63 : decode cX11_route 63 = .ok (.if_icmp .ge 15, 3) := by decide +kernel
theorem dX11_route_66 : decode cX11_route 66 = .ok (.aload_n 0, 1) := by decide +kernel
theorem dX11_route_67 : decode cX11_route 67 = .ok (.getfield 58, 3) := by decide +kernel
theorem dX11_route_70 : decode cX11_route 70 = .ok (.getfield 242, 3) := by decide +kernel
theorem dX11_route_73 : decode cX11_route 73 = .ok (.iload_n 3, 1) := by decide +kernel
theorem dX11_route_74 : decode cX11_route 74 = .ok (.iaload, 1) := by decide +kernel
theorem dX11_route_75 : decode cX11_route 75 = .ok (.goto 4, 3) := by decide +kernel
theorem dX11_route_78 : decode cX11_route 78 = .ok (.iconst (-1), 1) := by decide +kernel
theorem dX11_route_79 : decode cX11_route 79 = .ok (.ireturn, 1) := by decide +kernel
theorem dX11_gentle_0 : decode cX11_gentle 0 = .ok (.aload_n 0, 1) := by decide +kernel
theorem dX11_gentle_1 : decode cX11_gentle 1 = .ok (.getfield 49, 3) := by decide +kernel
theorem dX11_gentle_4 : decode cX11_gentle 4 = .ok (.getfield 117, 3) := by decide +kernel
theorem dX11_gentle_7 : decode cX11_gentle 7 = .ok (.iload_n 1, 1) := by decide +kernel
theorem dX11_gentle_8 : decode cX11_gentle 8 = .ok (.invokevirtual 170, 3) := by decide +kernel
theorem dX11_gentle_11 : decode cX11_gentle 11 = .ok (.ifCond .eq 17, 3) := by decide +kernel
theorem dX11_gentle_14 : decode cX11_gentle 14 = .ok (.aload_n 0, 1) := by decide +kernel
theorem dX11_gentle_15 : decode cX11_gentle 15 = .ok (.getfield 49, 3) := by decide +kernel
theorem dX11_gentle_18 : decode cX11_gentle 18 = .ok (.getfield 117, 3) := by decide +kernel
theorem dX11_gentle_21 : decode cX11_gentle 21 = .ok (.iload_n 2, 1) := by decide +kernel
theorem dX11_gentle_22 : decode cX11_gentle 22 = .ok (.invokevirtual 232, 3) := by decide +kernel
theorem dX11_gentle_25 : decode cX11_gentle 25 = .ok (.ifCond .ne 5, 3) := by decide +kernel
theorem dX11_gentle_28 : decode cX11_gentle 28 = .ok (.iconst (-1), 1) := by decide +kernel
theorem dX11_gentle_29 : decode cX11_gentle 29 = .ok (.ireturn, 1) := by decide +kernel
theorem dX11_gentle_30 : decode cX11_gentle 30 = .ok (.aload_n 0, 1) := by decide +kernel
theorem dX11_gentle_31 : decode cX11_gentle 31 = .ok (.getfield 58, 3) := by decide +kernel
theorem dX11_gentle_34 : decode cX11_gentle 34 = .ok (.iload_n 1, 1) := by decide +kernel
theorem dX11_gentle_35 : decode cX11_gentle 35 = .ok (.iload_n 2, 1) := by decide +kernel
theorem dX11_gentle_36 : decode cX11_gentle 36 = .ok (.invokevirtual 245, 3) := by decide +kernel
theorem dX11_gentle_39 : decode cX11_gentle 39 = .ok (.istore 4, 2) := by decide +kernel
theorem dX11_gentle_41 : decode cX11_gentle 41 = .ok (.iload 4, 2) := by decide +kernel
theorem dX11_gentle_43 : decode cX11_gentle 43 = .ok (.iconst (-1), 1) := by decide +kernel
theorem dX11_gentle_44 : decode cX11_gentle 44 = .ok (.if_icmp .ne 5, 3) := by decide +kernel
theorem dX11_gentle_47 : decode cX11_gentle 47 = .ok (.iconst (-1), 1) := by decide +kernel
theorem dX11_gentle_48 : decode cX11_gentle 48 = .ok (.ireturn, 1) := by decide +kernel
theorem dX11_gentle_49 : decode cX11_gentle 49 = .ok (.iload_n 3, 1) := by decide +kernel
theorem dX11_gentle_50 : decode cX11_gentle 50 = .ok (.lookupswitch 40 #[(0, 26), (1, 29)], 26) := by decide +kernel
theorem dX11_gentle_76 : decode cX11_gentle 76 = .ok (.iload 4, 2) := by decide +kernel
theorem dX11_gentle_78 : decode cX11_gentle 78 = .ok (.ireturn, 1) := by decide +kernel
theorem dX11_gentle_79 : decode cX11_gentle 79 = .ok (.aload_n 0, 1) := by decide +kernel
theorem dX11_gentle_80 : decode cX11_gentle 80 = .ok (.getfield 49, 3) := by decide +kernel
theorem dX11_gentle_83 : decode cX11_gentle 83 = .ok (.iload_n 1, 1) := by decide +kernel
theorem dX11_gentle_84 : decode cX11_gentle 84 = .ok (.iload 4, 2) := by decide +kernel
theorem dX11_gentle_86 : decode cX11_gentle 86 = .ok (.invokevirtual 248, 3) := by decide +kernel
theorem dX11_gentle_89 : decode cX11_gentle 89 = .ok (.ireturn, 1) := by decide +kernel
theorem dX11_gentle_90 : decode cX11_gentle 90 = .ok (.iconst (-1), 1) := by decide +kernel
theorem dX11_gentle_91 : decode cX11_gentle 91 = .ok (.ireturn, 1) := by decide +kernel
theorem dX11_runs_0 : decode cX11_runs 0 = .ok (.aload_n 0, 1) := by decide +kernel
theorem dX11_runs_1 : decode cX11_runs 1 = .ok (.getfield 49, 3) := by decide +kernel
theorem dX11_runs_4 : decode cX11_runs 4 = .ok (.getfield 117, 3) := by decide +kernel
theorem dX11_runs_7 : decode cX11_runs 7 = .ok (.iload_n 1, 1) := by decide +kernel
theorem dX11_runs_8 : decode cX11_runs 8 = .ok (.invokevirtual 170, 3) := by decide +kernel
theorem dX11_runs_11 : decode cX11_runs 11 = .ok (.ifCond .ne 5, 3) := by decide +kernel
theorem dX11_runs_14 : decode cX11_runs 14 = .ok (.iconst (-1), 1) := by decide +kernel
theorem dX11_runs_15 : decode cX11_runs 15 = .ok (.ireturn, 1) := by decide +kernel
theorem dX11_runs_16 : decode cX11_runs 16 = .ok (.aload_n 0, 1) := by decide +kernel
theorem dX11_runs_17 : decode cX11_runs 17 = .ok (.getfield 58, 3) := by decide +kernel
theorem dX11_runs_20 : decode cX11_runs 20 = .ok (.iload_n 1, 1) := by decide +kernel
theorem dX11_runs_21 : decode cX11_runs 21 = .ok (.invokevirtual 251, 3) := by decide +kernel
theorem dX11_runs_24 : decode cX11_runs 24 = .ok (.istore_n 3, 1) := by decide +kernel
theorem dX11_runs_25 : decode cX11_runs 25 = .ok (.iload_n 2, 1) := by decide +kernel
theorem dX11_runs_26 : decode cX11_runs 26 = .ok (.lookupswitch 36 #[(0, 26), (1, 34)], 26) := by decide +kernel
theorem dX11_runs_52 : decode cX11_runs 52 = .ok (.aload_n 0, 1) := by decide +kernel
theorem dX11_runs_53 : decode cX11_runs 53 = .ok (.getfield 58, 3) := by decide +kernel
theorem dX11_runs_56 : decode cX11_runs 56 = .ok (.getfield 254, 3) := by decide +kernel
theorem dX11_runs_59 : decode cX11_runs 59 = .ok (.ireturn, 1) := by decide +kernel
theorem dX11_runs_60 : decode cX11_runs 60 = .ok (.iload_n 3, 1) := by decide +kernel
theorem dX11_runs_61 : decode cX11_runs 61 = .ok (.ireturn, 1) := by decide +kernel
theorem dX11_runs_62 : decode cX11_runs 62 = .ok (.iconst (-1), 1) := by decide +kernel
theorem dX11_runs_63 : decode cX11_runs 63 = .ok (.ireturn, 1) := by decide +kernel
theorem dX11_order_0 : decode cX11_order 0 = .ok (.aload_n 0, 1) := by decide +kernel
theorem dX11_order_1 : decode cX11_order 1 = .ok (.getfield 65, 3) := by decide +kernel
theorem dX11_order_4 : decode cX11_order 4 = .ok (.iload_n 1, 1) := by decide +kernel
theorem dX11_order_5 : decode cX11_order 5 = .ok (.iload_n 2, 1) := by decide +kernel
theorem dX11_order_6 : decode cX11_order 6 = .ok (.invokevirtual 257, 3) := by decide +kernel
theorem dX11_order_9 : decode cX11_order 9 = .ok (.ifCond .eq 8, 3) := by decide +kernel
theorem dX11_order_12 : decode cX11_order 12 = .ok (.iload_n 3, 1) := by decide +kernel
theorem dX11_order_13 : decode cX11_order 13 = .ok (.iconst (-1), 1) := by decide +kernel
theorem dX11_order_14 : decode cX11_order 14 = .ok (.if_icmp .ge 5, 3) := by decide +kernel
theorem dX11_order_17 : decode cX11_order 17 = .ok (.iconst (-1), 1) := by decide +kernel
theorem dX11_order_18 : decode cX11_order 18 = .ok (.ireturn, 1) := by decide +kernel
theorem dX11_order_19 : decode cX11_order 19 = .ok (.aload_n 0, 1) := by decide +kernel
theorem dX11_order_20 : decode cX11_order 20 = .ok (.getfield 65, 3) := by decide +kernel
theorem dX11_order_23 : decode cX11_order 23 = .ok (.iload_n 1, 1) := by decide +kernel
theorem dX11_order_24 : decode cX11_order 24 = .ok (.iload_n 2, 1) := by decide +kernel
theorem dX11_order_25 : decode cX11_order 25 = .ok (.invokevirtual 261, 3) := by decide +kernel
theorem dX11_order_28 : decode cX11_order 28 = .ok (.istore 4, 2) := by decide +kernel
theorem dX11_order_30 : decode cX11_order 30 = .ok (.iload_n 3, 1) := by decide +kernel
theorem dX11_order_31 : decode cX11_order 31 = .ok (.iconst (-1), 1) := by decide +kernel
theorem dX11_order_32 : decode cX11_order 32 = .ok (.if_icmp .ne 6, 3) := by decide +kernel
theorem dX11_order_35 : decode cX11_order 35 = .ok (.iload 4, 2) := by decide +kernel
theorem dX11_order_37 : decode cX11_order 37 = .ok (.ireturn, 1) := by decide +kernel
theorem dX11_order_38 : decode cX11_order 38 = .ok (.iload_n 3, 1) := by decide +kernel
theorem dX11_order_39 : decode cX11_order 39 = .ok (.iload_n 1, 1) := by decide +kernel
theorem dX11_order_40 : decode cX11_order 40 = .ok (.invokestatic 264, 3) := by decide +kernel
theorem dX11_order_43 : decode cX11_order 43 = .ok (.if_icmp .ge 21, 3) := by decide +kernel
theorem dX11_order_46 : decode cX11_order 46 = .ok (.iload_n 3, 1) := by decide +kernel
theorem dX11_order_47 : decode cX11_order 47 = .ok (.bipush 6, 2) := by decide +kernel
theorem dX11_order_49 : decode cX11_order 49 = .ok (.if_icmp .ge 15, 3) := by decide +kernel
theorem dX11_order_52 : decode cX11_order 52 = .ok (.aload_n 0, 1) := by decide +kernel
theorem dX11_order_53 : decode cX11_order 53 = .ok (.getfield 65, 3) := by decide +kernel
theorem dX11_order_56 : decode cX11_order 56 = .ok (.getfield 269, 3) := by decide +kernel
theorem dX11_order_59 : decode cX11_order 59 = .ok (.iload_n 3, 1) := by decide +kernel
theorem dX11_order_60 : decode cX11_order 60 = .ok (.iaload, 1) := by decide +kernel
theorem dX11_order_61 : decode cX11_order 61 = .ok (.goto 4, 3) := by decide +kernel
theorem dX11_order_64 : decode cX11_order 64 = .ok (.iconst (-1), 1) := by decide +kernel
theorem dX11_order_65 : decode cX11_order 65 = .ok (.ireturn, 1) := by decide +kernel
theorem dX11_lead_0 : decode cX11_lead 0 = .ok (.aload_n 0, 1) := by decide +kernel
theorem dX11_lead_1 : decode cX11_lead 1 = .ok (.getfield 65, 3) := by decide +kernel
theorem dX11_lead_4 : decode cX11_lead 4 = .ok (.iload_n 1, 1) := by decide +kernel
theorem dX11_lead_5 : decode cX11_lead 5 = .ok (.iload_n 2, 1) := by decide +kernel
theorem dX11_lead_6 : decode cX11_lead 6 = .ok (.invokevirtual 257, 3) := by decide +kernel
theorem dX11_lead_9 : decode cX11_lead 9 = .ok (.ifCond .ne 5, 3) := by decide +kernel
theorem dX11_lead_12 : decode cX11_lead 12 = .ok (.iconst (-1), 1) := by decide +kernel
theorem dX11_lead_13 : decode cX11_lead 13 = .ok (.ireturn, 1) := by decide +kernel
theorem dX11_lead_14 : decode cX11_lead 14 = .ok (.aload_n 0, 1) := by decide +kernel
theorem dX11_lead_15 : decode cX11_lead 15 = .ok (.getfield 65, 3) := by decide +kernel
theorem dX11_lead_18 : decode cX11_lead 18 = .ok (.iload_n 1, 1) := by decide +kernel
theorem dX11_lead_19 : decode cX11_lead 19 = .ok (.iload_n 2, 1) := by decide +kernel
theorem dX11_lead_20 : decode cX11_lead 20 = .ok (.invokevirtual 272, 3) := by decide +kernel
theorem dX11_lead_23 : decode cX11_lead 23 = .ok (.istore 4, 2) := by decide +kernel
theorem dX11_lead_25 : decode cX11_lead 25 = .ok (.iload 4, 2) := by decide +kernel
theorem dX11_lead_27 : decode cX11_lead 27 = .ok (.iconst (-1), 1) := by decide +kernel
theorem dX11_lead_28 : decode cX11_lead 28 = .ok (.if_icmp .ne 5, 3) := by decide +kernel
theorem dX11_lead_31 : decode cX11_lead 31 = .ok (.iconst (-1), 1) := by decide +kernel
theorem dX11_lead_32 : decode cX11_lead 32 = .ok (.ireturn, 1) := by decide +kernel
theorem dX11_lead_33 : decode cX11_lead 33 = .ok (.iload_n 3, 1) := by decide +kernel
theorem dX11_lead_34 : decode cX11_lead 34 = .ok (.lookupswitch 37 #[(0, 26), (1, 29)], 26) := by decide +kernel
theorem dX11_lead_60 : decode cX11_lead 60 = .ok (.iload 4, 2) := by decide +kernel
theorem dX11_lead_62 : decode cX11_lead 62 = .ok (.ireturn, 1) := by decide +kernel
theorem dX11_lead_63 : decode cX11_lead 63 = .ok (.aload_n 0, 1) := by decide +kernel
theorem dX11_lead_64 : decode cX11_lead 64 = .ok (.getfield 65, 3) := by decide +kernel
theorem dX11_lead_67 : decode cX11_lead 67 = .ok (.getfield 275, 3) := by decide +kernel
theorem dX11_lead_70 : decode cX11_lead 70 = .ok (.ireturn, 1) := by decide +kernel
theorem dX11_lead_71 : decode cX11_lead 71 = .ok (.iconst (-1), 1) := by decide +kernel
theorem dX11_lead_72 : decode cX11_lead 72 = .ok (.ireturn, 1) := by decide +kernel
theorem dX11_match_0 : decode cX11_match 0 = .ok (.aload_n 0, 1) := by decide +kernel
theorem dX11_match_1 : decode cX11_match 1 = .ok (.getfield 49, 3) := by decide +kernel
theorem dX11_match_4 : decode cX11_match 4 = .ok (.getfield 117, 3) := by decide +kernel
theorem dX11_match_7 : decode cX11_match 7 = .ok (.iload_n 1, 1) := by decide +kernel
theorem dX11_match_8 : decode cX11_match 8 = .ok (.invokevirtual 170, 3) := by decide +kernel
theorem dX11_match_11 : decode cX11_match 11 = .ok (.ifCond .ne 5, 3) := by decide +kernel
theorem dX11_match_14 : decode cX11_match 14 = .ok (.iconst (-1), 1) := by decide +kernel
theorem dX11_match_15 : decode cX11_match 15 = .ok (.ireturn, 1) := by decide +kernel
theorem dX11_match_16 : decode cX11_match 16 = .ok (.aload_n 0, 1) := by decide +kernel
theorem dX11_match_17 : decode cX11_match 17 = .ok (.getfield 65, 3) := by decide +kernel
theorem dX11_match_20 : decode cX11_match 20 = .ok (.iload_n 1, 1) := by decide +kernel
theorem dX11_match_21 : decode cX11_match 21 = .ok (.invokevirtual 278, 3) := by decide +kernel
theorem dX11_match_24 : decode cX11_match 24 = .ok (.ireturn, 1) := by decide +kernel
theorem dX11_trials_0 : decode cX11_trials 0 = .ok (.aload_n 0, 1) := by decide +kernel
theorem dX11_trials_1 : decode cX11_trials 1 = .ok (.getfield 72, 3) := by decide +kernel
theorem dX11_trials_4 : decode cX11_trials 4 = .ok (.iload_n 1, 1) := by decide +kernel
theorem dX11_trials_5 : decode cX11_trials 5 = .ok (.aload_n 0, 1) := by decide +kernel
theorem dX11_trials_6 : decode cX11_trials 6 = .ok (.getfield 12, 3) := by decide +kernel
theorem dX11_trials_9 : decode cX11_trials 9 = .ok (.getfield 281, 3) := by decide +kernel
theorem dX11_trials_12 : decode cX11_trials 12 = .ok (.aload_n 0, 1) := by decide +kernel
theorem dX11_trials_13 : decode cX11_trials 13 = .ok (.getfield 12, 3) := by decide +kernel
theorem dX11_trials_16 : decode cX11_trials 16 = .ok (.getfield 102, 3) := by decide +kernel
theorem dX11_trials_19 : decode cX11_trials 19 = .ok (.invokevirtual 284, 3) := by decide +kernel
theorem dX11_trials_22 : decode cX11_trials 22 = .ok (.istore_n 2, 1) := by decide +kernel
theorem dX11_trials_23 : decode cX11_trials 23 = .ok (.aload_n 0, 1) := by decide +kernel
theorem dX11_trials_24 : decode cX11_trials 24 = .ok (.getfield 12, 3) := by decide +kernel
theorem dX11_trials_27 : decode cX11_trials 27 = .ok (.iconst 0, 1) := by decide +kernel
theorem dX11_trials_28 : decode cX11_trials 28 = .ok (.putfield 102, 3) := by decide +kernel
theorem dX11_trials_31 : decode cX11_trials 31 = .ok (.iload_n 2, 1) := by decide +kernel
theorem dX11_trials_32 : decode cX11_trials 32 = .ok (.ifCond .eq 13, 3) := by decide +kernel
theorem dX11_trials_35 : decode cX11_trials 35 = .ok (.aload_n 0, 1) := by decide +kernel
theorem dX11_trials_36 : decode cX11_trials 36 = .ok (.getfield 72, 3) := by decide +kernel
theorem dX11_trials_39 : decode cX11_trials 39 = .ok (.getfield 124, 3) := by decide +kernel
theorem dX11_trials_42 : decode cX11_trials 42 = .ok (.goto 8, 3) := by decide +kernel
theorem dX11_trials_45 : decode cX11_trials 45 = .ok (.aload_n 0, 1) := by decide +kernel
theorem dX11_trials_46 : decode cX11_trials 46 = .ok (.iconst 1, 1) := by decide +kernel
theorem dX11_trials_47 : decode cX11_trials 47 = .ok (.invokevirtual 105, 3) := by decide +kernel
theorem dX11_trials_50 : decode cX11_trials 50 = .ok (.ireturn, 1) := by decide +kernel
theorem dX11_trusts_0 : decode cX11_trusts 0 = .ok (.aload_n 0, 1) := by decide +kernel
theorem dX11_trusts_1 : decode cX11_trusts 1 = .ok (.getfield 72, 3) := by decide +kernel
theorem dX11_trusts_4 : decode cX11_trusts 4 = .ok (.getfield 124, 3) := by decide +kernel
theorem dX11_trusts_7 : decode cX11_trusts 7 = .ok (.ifCond .ne 5, 3) := by decide +kernel
theorem dX11_trusts_10 : decode cX11_trusts 10 = .ok (.iconst (-1), 1) := by decide +kernel
theorem dX11_trusts_11 : decode cX11_trusts 11 = .ok (.ireturn, 1) := by decide +kernel
theorem dX11_trusts_12 : decode cX11_trusts 12 = .ok (.aload_n 0, 1) := by decide +kernel
theorem dX11_trusts_13 : decode cX11_trusts 13 = .ok (.getfield 72, 3) := by decide +kernel
theorem dX11_trusts_16 : decode cX11_trusts 16 = .ok (.invokevirtual 288, 3) := by decide +kernel
theorem dX11_trusts_19 : decode cX11_trusts 19 = .ok (.istore_n 2, 1) := by decide +kernel
theorem dX11_trusts_20 : decode cX11_trusts 20 = .ok (.iload_n 1, 1) := by decide +kernel
theorem dX11_trusts_21 : decode cX11_trusts 21 = .ok (.tableswitch 61 0 2 #[27, 29, 45], 27) := by decide +kernel
theorem dX11_trusts_48 : decode cX11_trusts 48 = .ok (.iload_n 2, 1) := by decide +kernel
theorem dX11_trusts_49 : decode cX11_trusts 49 = .ok (.ireturn, 1) := by decide +kernel
theorem dX11_trusts_50 : decode cX11_trusts 50 = .ok (.iload_n 2, 1) := by decide +kernel
theorem dX11_trusts_51 : decode cX11_trusts 51 = .ok (.ifCond .le 13, 3) := by decide +kernel
theorem dX11_trusts_54 : decode cX11_trusts 54 = .ok (.aload_n 0, 1) := by decide +kernel
theorem dX11_trusts_55 : decode cX11_trusts 55 = .ok (.getfield 72, 3) := by decide +kernel
theorem dX11_trusts_58 : decode cX11_trusts 58 = .ok (.getfield 291, 3) := by decide +kernel
theorem dX11_trusts_61 : decode cX11_trusts 61 = .ok (.goto 4, 3) := by decide +kernel
theorem dX11_trusts_64 : decode cX11_trusts 64 = .ok (.iconst (-1), 1) := by decide +kernel
theorem dX11_trusts_65 : decode cX11_trusts 65 = .ok (.ireturn, 1) := by decide +kernel
theorem dX11_trusts_66 : decode cX11_trusts 66 = .ok (.iload_n 2, 1) := by decide +kernel
theorem dX11_trusts_67 : decode cX11_trusts 67 = .ok (.ifCond .le 13, 3) := by decide +kernel
theorem dX11_trusts_70 : decode cX11_trusts 70 = .ok (.aload_n 0, 1) := by decide +kernel
theorem dX11_trusts_71 : decode cX11_trusts 71 = .ok (.getfield 72, 3) := by decide +kernel
theorem dX11_trusts_74 : decode cX11_trusts 74 = .ok (.getfield 294, 3) := by decide +kernel
theorem dX11_trusts_77 : decode cX11_trusts 77 = .ok (.goto 4, 3) := by decide +kernel
theorem dX11_trusts_80 : decode cX11_trusts 80 = .ok (.iconst (-1), 1) := by decide +kernel
theorem dX11_trusts_81 : decode cX11_trusts 81 = .ok (.ireturn, 1) := by decide +kernel
theorem dX11_trusts_82 : decode cX11_trusts 82 = .ok (.iconst (-1), 1) := by decide +kernel
theorem dX11_trusts_83 : decode cX11_trusts 83 = .ok (.ireturn, 1) := by decide +kernel
theorem dX11_next_0 : decode cX11_next 0 = .ok (.aload_n 0, 1) := by decide +kernel
theorem dX11_next_1 : decode cX11_next 1 = .ok (.getfield 72, 3) := by decide +kernel
theorem dX11_next_4 : decode cX11_next 4 = .ok (.getfield 124, 3) := by decide +kernel
theorem dX11_next_7 : decode cX11_next 7 = .ok (.ifCond .eq 13, 3) := by decide +kernel
theorem dX11_next_10 : decode cX11_next 10 = .ok (.aload_n 0, 1) := by decide +kernel
theorem dX11_next_11 : decode cX11_next 11 = .ok (.getfield 72, 3) := by decide +kernel
theorem dX11_next_14 : decode cX11_next 14 = .ok (.invokevirtual 288, 3) := by decide +kernel
theorem dX11_next_17 : decode cX11_next 17 = .ok (.ifCond .ne 5, 3) := by decide +kernel
theorem dX11_next_20 : decode cX11_next 20 = .ok (.iconst (-1), 1) := by decide +kernel
theorem dX11_next_21 : decode cX11_next 21 = .ok (.ireturn, 1) := by decide +kernel
theorem dX11_next_22 : decode cX11_next 22 = .ok (.aload_n 0, 1) := by decide +kernel
theorem dX11_next_23 : decode cX11_next 23 = .ok (.getfield 72, 3) := by decide +kernel
theorem dX11_next_26 : decode cX11_next 26 = .ok (.invokevirtual 297, 3) := by decide +kernel
theorem dX11_next_29 : decode cX11_next 29 = .ok (.istore_n 2, 1) := by decide +kernel
theorem dX11_next_30 : decode cX11_next 30 = .ok (.iload_n 1, 1) := by decide +kernel
theorem dX11_next_31 : decode cX11_next 31 = .ok (.lookupswitch 35 #[(0, 25), (1, 27)], 25) := by decide +kernel
theorem dX11_next_56 : decode cX11_next 56 = .ok (.iload_n 2, 1) := by decide +kernel
theorem dX11_next_57 : decode cX11_next 57 = .ok (.ireturn, 1) := by decide +kernel
theorem dX11_next_58 : decode cX11_next 58 = .ok (.aload_n 0, 1) := by decide +kernel
theorem dX11_next_59 : decode cX11_next 59 = .ok (.getfield 72, 3) := by decide +kernel
theorem dX11_next_62 : decode cX11_next 62 = .ok (.getfield 300, 3) := by decide +kernel
theorem dX11_next_65 : decode cX11_next 65 = .ok (.ireturn, 1) := by decide +kernel
theorem dX11_next_66 : decode cX11_next 66 = .ok (.iconst (-1), 1) := by decide +kernel
theorem dX11_next_67 : decode cX11_next 67 = .ok (.ireturn, 1) := by decide +kernel
theorem dX11_go_0 : decode cX11_go 0 = .ok (.aload_n 0, 1) := by decide +kernel
theorem dX11_go_1 : decode cX11_go 1 = .ok (.getfield 49, 3) := by decide +kernel
theorem dX11_go_4 : decode cX11_go 4 = .ok (.getfield 117, 3) := by decide +kernel
theorem dX11_go_7 : decode cX11_go 7 = .ok (.iload_n 1, 1) := by decide +kernel
theorem dX11_go_8 : decode cX11_go 8 = .ok (.invokevirtual 170, 3) := by decide +kernel
theorem dX11_go_11 : decode cX11_go 11 = .ok (.ifCond .eq 25, 3) := by decide +kernel
theorem dX11_go_14 : decode cX11_go 14 = .ok (.aload_n 0, 1) := by decide +kernel
theorem dX11_go_15 : decode cX11_go 15 = .ok (.getfield 49, 3) := by decide +kernel
theorem dX11_go_18 : decode cX11_go 18 = .ok (.getfield 117, 3) := by decide +kernel
theorem dX11_go_21 : decode cX11_go 21 = .ok (.aload_n 0, 1) := by decide +kernel
theorem dX11_go_22 : decode cX11_go 22 = .ok (.getfield 37, 3) := by decide +kernel
theorem dX11_go_25 : decode cX11_go 25 = .ok (.iload_n 1, 1) := by decide +kernel
theorem dX11_go_26 : decode cX11_go 26 = .ok (.invokevirtual 187, 3) := by decide +kernel
theorem dX11_go_29 : decode cX11_go 29 = .ok (.iload_n 2, 1) := by decide +kernel
theorem dX11_go_30 : decode cX11_go 30 = .ok (.invokevirtual 303, 3) := by decide +kernel
theorem dX11_go_33 : decode cX11_go 33 = .ok (.ifCond .ne 9, 3) := by decide +kernel
theorem dX11_go_36 : decode cX11_go 36 = .ok (.aload_n 0, 1) := by decide +kernel
theorem dX11_go_37 : decode cX11_go 37 = .ok (.iconst 2, 1) := by decide +kernel
theorem dX11_go_38 : decode cX11_go 38 = .ok (.invokevirtual 105, 3) := by decide +kernel
theorem dX11_go_41 : decode cX11_go 41 = .ok (.ireturn, 1) := by decide +kernel
theorem dX11_go_42 : decode cX11_go 42 = .ok (.aload_n 0, 1) := by decide +kernel
theorem dX11_go_43 : decode cX11_go 43 = .ok (.getfield 37, 3) := by decide +kernel
theorem dX11_go_46 : decode cX11_go 46 = .ok (.invokevirtual 306, 3) := by decide +kernel
theorem dX11_go_49 : decode cX11_go 49 = .ok (.aload_n 0, 1) := by decide +kernel
theorem dX11_go_50 : decode cX11_go 50 = .ok (.getfield 49, 3) := by decide +kernel
theorem dX11_go_53 : decode cX11_go 53 = .ok (.iload_n 1, 1) := by decide +kernel
theorem dX11_go_54 : decode cX11_go 54 = .ok (.iload_n 2, 1) := by decide +kernel
theorem dX11_go_55 : decode cX11_go 55 = .ok (.iconst (-1), 1) := by decide +kernel
theorem dX11_go_56 : decode cX11_go 56 = .ok (.invokevirtual 309, 3) := by decide +kernel
theorem dX11_go_59 : decode cX11_go 59 = .ok (.ireturn, 1) := by decide +kernel
theorem dX11_file_0 : decode cX11_file 0 = .ok (.aload_n 0, 1) := by decide +kernel
theorem dX11_file_1 : decode cX11_file 1 = .ok (.getfield 12, 3) := by decide +kernel
theorem dX11_file_4 : decode cX11_file 4 = .ok (.getfield 102, 3) := by decide +kernel
theorem dX11_file_7 : decode cX11_file 7 = .ok (.istore_n 2, 1) := by decide +kernel
theorem dX11_file_8 : decode cX11_file 8 = .ok (.aload_n 0, 1) := by decide +kernel
theorem dX11_file_9 : decode cX11_file 9 = .ok (.getfield 12, 3) := by decide +kernel
theorem dX11_file_12 : decode cX11_file 12 = .ok (.iconst 0, 1) := by decide +kernel
theorem dX11_file_13 : decode cX11_file 13 = .ok (.putfield 102, 3) := by decide +kernel
theorem dX11_file_16 : decode cX11_file 16 = .ok (.aload_n 0, 1) := by decide +kernel
theorem dX11_file_17 : decode cX11_file 17 = .ok (.getfield 65, 3) := by decide +kernel
theorem dX11_file_20 : decode cX11_file 20 = .ok (.aload_n 0, 1) := by decide +kernel
theorem dX11_file_21 : decode cX11_file 21 = .ok (.iload_n 2, 1) := by decide +kernel
theorem dX11_file_22 : decode cX11_file 22 = .ok (.invokevirtual 312, 3) := by decide +kernel
theorem dX11_file_25 : decode cX11_file 25 = .ok (.iload_n 1, 1) := by decide +kernel
theorem dX11_file_26 : decode cX11_file 26 = .ok (.invokevirtual 257, 3) := by decide +kernel
theorem dX11_file_29 : decode cX11_file 29 = .ok (.ifCond .ne 9, 3) := by decide +kernel
theorem dX11_file_32 : decode cX11_file 32 = .ok (.aload_n 0, 1) := by decide +kernel
theorem dX11_file_33 : decode cX11_file 33 = .ok (.iconst 2, 1) := by decide +kernel
theorem dX11_file_34 : decode cX11_file 34 = .ok (.invokevirtual 105, 3) := by decide +kernel
theorem dX11_file_37 : decode cX11_file 37 = .ok (.ireturn, 1) := by decide +kernel
theorem dX11_file_38 : decode cX11_file 38 = .ok (.aload_n 0, 1) := by decide +kernel
theorem dX11_file_39 : decode cX11_file 39 = .ok (.getfield 37, 3) := by decide +kernel
theorem dX11_file_42 : decode cX11_file 42 = .ok (.invokevirtual 306, 3) := by decide +kernel
theorem dX11_file_45 : decode cX11_file 45 = .ok (.aload_n 0, 1) := by decide +kernel
theorem dX11_file_46 : decode cX11_file 46 = .ok (.getfield 65, 3) := by decide +kernel
theorem dX11_file_49 : decode cX11_file 49 = .ok (.aload_n 0, 1) := by decide +kernel
theorem dX11_file_50 : decode cX11_file 50 = .ok (.getfield 12, 3) := by decide +kernel
theorem dX11_file_53 : decode cX11_file 53 = .ok (.getfield 281, 3) := by decide +kernel
theorem dX11_file_56 : decode cX11_file 56 = .ok (.iload_n 2, 1) := by decide +kernel
theorem dX11_file_57 : decode cX11_file 57 = .ok (.iload_n 1, 1) := by decide +kernel
theorem dX11_file_58 : decode cX11_file 58 = .ok (.invokevirtual 315, 3) := by decide +kernel
theorem dX11_file_61 : decode cX11_file 61 = .ok (.ireturn, 1) := by decide +kernel
theorem dX11_coax_0 : decode cX11_coax 0 = .ok (.aload_n 0, 1) := by decide +kernel
theorem dX11_coax_1 : decode cX11_coax 1 = .ok (.getfield 49, 3) := by decide +kernel
theorem dX11_coax_4 : decode cX11_coax 4 = .ok (.getfield 117, 3) := by decide +kernel
theorem dX11_coax_7 : decode cX11_coax 7 = .ok (.iload_n 1, 1) := by decide +kernel
theorem dX11_coax_8 : decode cX11_coax 8 = .ok (.invokevirtual 170, 3) := by decide +kernel
theorem dX11_coax_11 : decode cX11_coax 11 = .ok (.ifCond .eq 14, 3) := by decide +kernel
theorem dX11_coax_14 : decode cX11_coax 14 = .ok (.iload_n 2, 1) := by decide +kernel
theorem dX11_coax_15 : decode cX11_coax 15 = .ok (.iconst 1, 1) := by decide +kernel
theorem dX11_coax_16 : decode cX11_coax 16 = .ok (.if_icmp .lt 9, 3) := by decide +kernel
theorem dX11_coax_19 : decode cX11_coax 19 = .ok (.iload_n 2, 1) := by decide +kernel
theorem dX11_coax_20 : decode cX11_coax 20 = .ok (.bipush 99, 2) := by decide +kernel
theorem dX11_coax_22 : decode cX11_coax 22 = .ok (.if_icmp .le 9, 3) := by decide +kernel
theorem dX11_coax_25 : decode cX11_coax 25 = .ok (.aload_n 0, 1) := by decide +kernel
theorem dX11_coax_26 : decode cX11_coax 26 = .ok (.iconst 3, 1) := by decide +kernel
theorem dX11_coax_27 : decode cX11_coax 27 = .ok (.invokevirtual 105, 3) := by decide +kernel
theorem dX11_coax_30 : decode cX11_coax 30 = .ok (.ireturn, 1) := by decide +kernel
theorem dX11_coax_31 : decode cX11_coax 31 = .ok (.aload_n 0, 1) := by decide +kernel
theorem dX11_coax_32 : decode cX11_coax 32 = .ok (.getfield 37, 3) := by decide +kernel
theorem dX11_coax_35 : decode cX11_coax 35 = .ok (.invokevirtual 306, 3) := by decide +kernel
theorem dX11_coax_38 : decode cX11_coax 38 = .ok (.aload_n 0, 1) := by decide +kernel
theorem dX11_coax_39 : decode cX11_coax 39 = .ok (.getfield 37, 3) := by decide +kernel
theorem dX11_coax_42 : decode cX11_coax 42 = .ok (.iload_n 2, 1) := by decide +kernel
theorem dX11_coax_43 : decode cX11_coax 43 = .ok (.invokevirtual 319, 3) := by decide +kernel
theorem dX11_coax_46 : decode cX11_coax 46 = .ok (.aload_n 0, 1) := by decide +kernel
theorem dX11_coax_47 : decode cX11_coax 47 = .ok (.getfield 37, 3) := by decide +kernel
theorem dX11_coax_50 : decode cX11_coax 50 = .ok (.iload_n 1, 1) := by decide +kernel
theorem dX11_coax_51 : decode cX11_coax 51 = .ok (.bipush 99, 2) := by decide +kernel
theorem dX11_coax_53 : decode cX11_coax 53 = .ok (.aload_n 0, 1) := by decide +kernel
theorem dX11_coax_54 : decode cX11_coax 54 = .ok (.getfield 37, 3) := by decide +kernel
theorem dX11_coax_57 : decode cX11_coax 57 = .ok (.iload_n 1, 1) := by decide +kernel
theorem dX11_coax_58 : decode cX11_coax 58 = .ok (.invokevirtual 190, 3) := by decide +kernel
theorem dX11_coax_61 : decode cX11_coax 61 = .ok (.iload_n 2, 1) := by decide +kernel
theorem dX11_coax_62 : decode cX11_coax 62 = .ok (.aload_n 0, 1) := by decide +kernel
theorem dX11_coax_63 : decode cX11_coax 63 = .ok (.getfield 49, 3) := by decide +kernel
theorem dX11_coax_66 : decode cX11_coax 66 = .ok (.getfield 117, 3) := by decide +kernel
theorem dX11_coax_69 : decode cX11_coax 69 = .ok (.getfield 322, 3) := by decide +kernel
theorem dX11_coax_72 : decode cX11_coax 72 = .ok (.imul, 1) := by decide +kernel
theorem dX11_coax_73 : decode cX11_coax 73 = .ok (.iadd, 1) := by decide +kernel
theorem dX11_coax_74 : decode cX11_coax 74 = .ok (.invokestatic 325, 3) := by decide +kernel
theorem dX11_coax_77 : decode cX11_coax 77 = .ok (.invokevirtual 330, 3) := by decide +kernel
theorem dX11_coax_80 : decode cX11_coax 80 = .ok (.aload_n 0, 1) := by decide +kernel
theorem dX11_coax_81 : decode cX11_coax 81 = .ok (.getfield 37, 3) := by decide +kernel
theorem dX11_coax_84 : decode cX11_coax 84 = .ok (.iload_n 1, 1) := by decide +kernel
theorem dX11_coax_85 : decode cX11_coax 85 = .ok (.invokevirtual 190, 3) := by decide +kernel
theorem dX11_coax_88 : decode cX11_coax 88 = .ok (.ireturn, 1) := by decide +kernel
theorem dX11_man_0 : decode cX11_man 0 = .ok (.aload_n 0, 1) := by decide +kernel
theorem dX11_man_1 : decode cX11_man 1 = .ok (.getfield 49, 3) := by decide +kernel
theorem dX11_man_4 : decode cX11_man 4 = .ok (.getfield 117, 3) := by decide +kernel
theorem dX11_man_7 : decode cX11_man 7 = .ok (.astore_n 3, 1) := by decide +kernel
theorem dX11_man_8 : decode cX11_man 8 = .ok (.aload_n 3, 1) := by decide +kernel
theorem dX11_man_9 : decode cX11_man 9 = .ok (.iload_n 1, 1) := by decide +kernel
theorem dX11_man_10 : decode cX11_man 10 = .ok (.invokevirtual 170, 3) := by decide +kernel
theorem dX11_man_13 : decode cX11_man 13 = .ok (.ifCond .eq 20, 3) := by decide +kernel
theorem dX11_man_16 : decode cX11_man 16 = .ok (.iload_n 2, 1) := by decide +kernel
theorem dX11_man_17 : decode cX11_man 17 = .ok (.iconst (-1), 1) := by decide +kernel
theorem dX11_man_18 : decode cX11_man 18 = .ok (.if_icmp .eq 11, 3) := by decide +kernel
theorem dX11_man_21 : decode cX11_man 21 = .ok (.aload_n 3, 1) := by decide +kernel
theorem dX11_man_22 : decode cX11_man 22 = .ok (.iload_n 2, 1) := by decide +kernel
theorem dX11_man_23 : decode cX11_man 23 = .ok (.invokevirtual 181, 3) := by decide +kernel
theorem dX11_man_26 : decode cX11_man 26 = .ok (.ifCond .eq 7, 3) := by decide +kernel
theorem dX11_man_29 : decode cX11_man 29 = .ok (.iconst 1, 1) := by decide +kernel
theorem dX11_man_30 : decode cX11_man 30 = .ok (.goto 4, 3) := by decide +kernel
theorem dX11_man_33 : decode cX11_man 33 = .ok (.iconst 0, 1) := by decide +kernel
theorem dX11_man_34 : decode cX11_man 34 = .ok (.istore 4, 2) := by decide +kernel
theorem dX11_man_36 : decode cX11_man 36 = .ok (.iload 4, 2) := by decide +kernel
theorem dX11_man_38 : decode cX11_man 38 = .ok (.ifCond .eq 15, 3) := by decide +kernel
theorem dX11_man_41 : decode cX11_man 41 = .ok (.aload_n 0, 1) := by decide +kernel
theorem dX11_man_42 : decode cX11_man 42 = .ok (.getfield 37, 3) := by decide +kernel
theorem dX11_man_45 : decode cX11_man 45 = .ok (.iload_n 1, 1) := by decide +kernel
theorem dX11_man_46 : decode cX11_man 46 = .ok (.invokevirtual 196, 3) := by decide +kernel
theorem dX11_man_49 : decode cX11_man 49 = .ok (.iload_n 2, 1) := by decide +kernel
theorem dX11_man_50 : decode cX11_man 50 = .ok (.if_icmp .ne 11, 3) := by decide +kernel
theorem dX11_man_53 : decode cX11_man 53 = .ok (.aload_n 0, 1) := by decide +kernel
theorem dX11_man_54 : decode cX11_man 54 = .ok (.iconst 3, 1) := by decide +kernel
theorem dX11_man_55 : decode cX11_man 55 = .ok (.invokevirtual 105, 3) := by decide +kernel
theorem dX11_man_58 : decode cX11_man 58 = .ok (.pop, 1) := by decide +kernel
theorem dX11_man_59 : decode cX11_man 59 = .ok (.iconst 0, 1) := by decide +kernel
theorem dX11_man_60 : decode cX11_man 60 = .ok (.ireturn, 1) := by decide +kernel
theorem dX11_man_61 : decode cX11_man 61 = .ok (.aload_n 0, 1) := by decide +kernel
theorem dX11_man_62 : decode cX11_man 62 = .ok (.getfield 37, 3) := by decide +kernel
theorem dX11_man_65 : decode cX11_man 65 = .ok (.invokevirtual 306, 3) := by decide +kernel
theorem dX11_man_68 : decode cX11_man 68 = .ok (.aload_n 0, 1) := by decide +kernel
theorem dX11_man_69 : decode cX11_man 69 = .ok (.getfield 37, 3) := by decide +kernel
theorem dX11_man_72 : decode cX11_man 72 = .ok (.iload_n 1, 1) := by decide +kernel
theorem dX11_man_73 : decode cX11_man 73 = .ok (.iload_n 2, 1) := by decide +kernel
theorem dX11_man_74 : decode cX11_man 74 = .ok (.invokevirtual 334, 3) := by decide +kernel
theorem dX11_man_77 : decode cX11_man 77 = .ok (.iconst 1, 1) := by decide +kernel
theorem dX11_man_78 : decode cX11_man 78 = .ok (.ireturn, 1) := by decide +kernel
theorem dX11_hours_0 : decode cX11_hours 0 = .ok (.aload_n 0, 1) := by decide +kernel
theorem dX11_hours_1 : decode cX11_hours 1 = .ok (.iload_n 1, 1) := by decide +kernel
theorem dX11_hours_2 : decode cX11_hours 2 = .ok (.sipush 200, 3) := by decide +kernel
theorem dX11_hours_5 : decode cX11_hours 5 = .ok (.invokevirtual 337, 3) := by decide +kernel
theorem dX11_hours_8 : decode cX11_hours 8 = .ok (.ifCond .ne 9, 3) := by decide +kernel
theorem dX11_hours_11 : decode cX11_hours 11 = .ok (.aload_n 0, 1) := by decide +kernel
theorem dX11_hours_12 : decode cX11_hours 12 = .ok (.iconst 3, 1) := by decide +kernel
theorem dX11_hours_13 : decode cX11_hours 13 = .ok (.invokevirtual 105, 3) := by decide +kernel
theorem dX11_hours_16 : decode cX11_hours 16 = .ok (.ireturn, 1) := by decide +kernel
theorem dX11_hours_17 : decode cX11_hours 17 = .ok (.aload_n 0, 1) := by decide +kernel
theorem dX11_hours_18 : decode cX11_hours 18 = .ok (.getfield 37, 3) := by decide +kernel
theorem dX11_hours_21 : decode cX11_hours 21 = .ok (.invokevirtual 306, 3) := by decide +kernel
theorem dX11_hours_24 : decode cX11_hours 24 = .ok (.aload_n 0, 1) := by decide +kernel
theorem dX11_hours_25 : decode cX11_hours 25 = .ok (.getfield 37, 3) := by decide +kernel
theorem dX11_hours_28 : decode cX11_hours 28 = .ok (.iload_n 1, 1) := by decide +kernel
theorem dX11_hours_29 : decode cX11_hours 29 = .ok (.invokevirtual 340, 3) := by decide +kernel
theorem dX11_hours_32 : decode cX11_hours 32 = .ok (.aload_n 0, 1) := by decide +kernel
theorem dX11_hours_33 : decode cX11_hours 33 = .ok (.getfield 49, 3) := by decide +kernel
theorem dX11_hours_36 : decode cX11_hours 36 = .ok (.getfield 117, 3) := by decide +kernel
theorem dX11_hours_39 : decode cX11_hours 39 = .ok (.aload_n 0, 1) := by decide +kernel
theorem dX11_hours_40 : decode cX11_hours 40 = .ok (.getfield 37, 3) := by decide +kernel
theorem dX11_hours_43 : decode cX11_hours 43 = .ok (.invokevirtual 148, 3) := by decide +kernel
theorem dX11_hours_46 : decode cX11_hours 46 = .ok (.invokevirtual 152, 3) := by decide +kernel
theorem dX11_hours_49 : decode cX11_hours 49 = .ok (.ireturn, 1) := by decide +kernel
theorem dX11_drift_0 : decode cX11_drift 0 = .ok (.aload_n 0, 1) := by decide +kernel
theorem dX11_drift_1 : decode cX11_drift 1 = .ok (.iload_n 1, 1) := by decide +kernel
theorem dX11_drift_2 : decode cX11_drift 2 = .ok (.bipush 50, 2) := by decide +kernel
theorem dX11_drift_4 : decode cX11_drift 4 = .ok (.invokevirtual 337, 3) := by decide +kernel
theorem dX11_drift_7 : decode cX11_drift 7 = .ok (.ifCond .ne 9, 3) := by decide +kernel
theorem dX11_drift_10 : decode cX11_drift 10 = .ok (.aload_n 0, 1) := by decide +kernel
theorem dX11_drift_11 : decode cX11_drift 11 = .ok (.iconst 3, 1) := by decide +kernel
theorem dX11_drift_12 : decode cX11_drift 12 = .ok (.invokevirtual 105, 3) := by decide +kernel
theorem dX11_drift_15 : decode cX11_drift 15 = .ok (.ireturn, 1) := by decide +kernel
theorem dX11_drift_16 : decode cX11_drift 16 = .ok (.aload_n 0, 1) := by decide +kernel
theorem dX11_drift_17 : decode cX11_drift 17 = .ok (.getfield 37, 3) := by decide +kernel
theorem dX11_drift_20 : decode cX11_drift 20 = .ok (.invokevirtual 306, 3) := by decide +kernel
theorem dX11_drift_23 : decode cX11_drift 23 = .ok (.iconst 0, 1) := by decide +kernel
theorem dX11_drift_24 : decode cX11_drift 24 = .ok (.istore_n 2, 1) := by decide +kernel
theorem dX11_drift_25 : decode cX11_drift 25 = .ok (.iconst 0, 1) := by decide +kernel
theorem dX11_drift_26 : decode cX11_drift 26 = .ok (.istore_n 3, 1) := by decide +kernel
theorem dX11_drift_27 : decode cX11_drift 27 = .ok (.iload_n 3, 1) := by decide +kernel
theorem dX11_drift_28 : decode cX11_drift 28 = .ok (.iload_n 1, 1) := by decide +kernel
theorem dX11_drift_29 : decode cX11_drift 29 = .ok (.if_icmp .ge 50, 3) := by decide +kernel
theorem dX11_drift_32 : decode cX11_drift 32 = .ok (.iconst 0, 1) := by decide +kernel
theorem dX11_drift_33 : decode cX11_drift 33 = .ok (.istore 4, 2) := by decide +kernel
theorem dX11_drift_35 : decode cX11_drift 35 = .ok (.iload 4, 2) := by decide +kernel
theorem dX11_drift_37 : decode cX11_drift 37 = .ok (.aload_n 0, 1) := by decide +kernel
theorem dX11_drift_38 : decode cX11_drift 38 = .ok (.getfield 49, 3) := by decide +kernel
theorem dX11_drift_41 : decode cX11_drift 41 = .ok (.getfield 117, 3) := by decide +kernel
theorem dX11_drift_44 : decode cX11_drift 44 = .ok (.getfield 142, 3) := by decide +kernel
theorem dX11_drift_47 : decode cX11_drift 47 = .ok (.if_icmp .ge 18, 3) := by decide +kernel
theorem dX11_drift_50 : decode cX11_drift 50 = .ok (.iload_n 2, 1) := by decide +kernel
theorem dX11_drift_51 : decode cX11_drift 51 = .ok (.aload_n 0, 1) := by decide +kernel
theorem dX11_drift_52 : decode cX11_drift 52 = .ok (.iload 4, 2) := by decide +kernel
theorem dX11_drift_54 : decode cX11_drift 54 = .ok (.invokevirtual 343, 3) := by decide +kernel
theorem dX11_drift_57 : decode cX11_drift 57 = .ok (.iadd, 1) := by decide +kernel
theorem dX11_drift_58 : decode cX11_drift 58 = .ok (.istore_n 2, 1) := by decide +kernel
theorem dX11_drift_59 : decode cX11_drift 59 = .ok (.iinc 4 1, 3) := by decide +kernel
theorem dX11_drift_62 : decode cX11_drift 62 = .ok (.goto (-27), 3) := by decide +kernel
theorem dX11_drift_65 : decode cX11_drift 65 = .ok (.aload_n 0, 1) := by decide +kernel
theorem dX11_drift_66 : decode cX11_drift 66 = .ok (.getfield 37, 3) := by decide +kernel
theorem dX11_drift_69 : decode cX11_drift 69 = .ok (.iconst 1, 1) := by decide +kernel
theorem dX11_drift_70 : decode cX11_drift 70 = .ok (.invokevirtual 340, 3) := by decide +kernel
theorem dX11_drift_73 : decode cX11_drift 73 = .ok (.iinc 3 1, 3) := by decide +kernel
theorem dX11_drift_76 : decode cX11_drift 76 = .ok (.goto (-49), 3) := by decide +kernel
theorem dX11_drift_79 : decode cX11_drift 79 = .ok (.iload_n 2, 1) := by decide +kernel
theorem dX11_drift_80 : decode cX11_drift 80 = .ok (.ireturn, 1) := by decide +kernel
theorem dX11_undo_0 : decode cX11_undo 0 = .ok (.aload_n 0, 1) := by decide +kernel
theorem dX11_undo_1 : decode cX11_undo 1 = .ok (.getfield 37, 3) := by decide +kernel
theorem dX11_undo_4 : decode cX11_undo 4 = .ok (.invokevirtual 346, 3) := by decide +kernel
theorem dX11_undo_7 : decode cX11_undo 7 = .ok (.ifCond .ne 11, 3) := by decide +kernel
theorem dX11_undo_10 : decode cX11_undo 10 = .ok (.aload_n 0, 1) := by decide +kernel
theorem dX11_undo_11 : decode cX11_undo 11 = .ok (.iconst 4, 1) := by decide +kernel
theorem dX11_undo_12 : decode cX11_undo 12 = .ok (.invokevirtual 105, 3) := by decide +kernel
theorem dX11_undo_15 : decode cX11_undo 15 = .ok (.pop, 1) := by decide +kernel
theorem dX11_undo_16 : decode cX11_undo 16 = .ok (.iconst 0, 1) := by decide +kernel
theorem dX11_undo_17 : decode cX11_undo 17 = .ok (.ireturn, 1) := by decide +kernel
theorem dX11_undo_18 : decode cX11_undo 18 = .ok (.iconst 1, 1) := by decide +kernel
theorem dX11_undo_19 : decode cX11_undo 19 = .ok (.ireturn, 1) := by decide +kernel
theorem dX11_seed_0 : decode cX11_seed 0 = .ok (.iload_n 1, 1) := by decide +kernel
theorem dX11_seed_1 : decode cX11_seed 1 = .ok (.ifCond .ge 11, 3) := by decide +kernel
theorem dX11_seed_4 : decode cX11_seed 4 = .ok (.aload_n 0, 1) := by decide +kernel
theorem dX11_seed_5 : decode cX11_seed 5 = .ok (.iconst 5, 1) := by decide +kernel
theorem dX11_seed_6 : decode cX11_seed 6 = .ok (.invokevirtual 105, 3) := by decide +kernel
theorem dX11_seed_9 : decode cX11_seed 9 = .ok (.pop, 1) := by decide +kernel
theorem dX11_seed_10 : decode cX11_seed 10 = .ok (.iconst 0, 1) := by decide +kernel
theorem dX11_seed_11 : decode cX11_seed 11 = .ok (.ireturn, 1) := by decide +kernel
theorem dX11_seed_12 : decode cX11_seed 12 = .ok (.aload_n 0, 1) := by decide +kernel
theorem dX11_seed_13 : decode cX11_seed 13 = .ok (.iload_n 1, 1) := by decide +kernel
theorem dX11_seed_14 : decode cX11_seed 14 = .ok (.i2l, 1) := by decide +kernel
theorem dX11_seed_15 : decode cX11_seed 15 = .ok (.putfield 98, 3) := by decide +kernel
theorem dX11_seed_18 : decode cX11_seed 18 = .ok (.iconst 1, 1) := by decide +kernel
theorem dX11_seed_19 : decode cX11_seed 19 = .ok (.ireturn, 1) := by decide +kernel
theorem dX11_ask_0 : decode cX11_ask 0 = .ok (.aload_n 0, 1) := by decide +kernel
theorem dX11_ask_1 : decode cX11_ask 1 = .ok (.getfield 49, 3) := by decide +kernel
theorem dX11_ask_4 : decode cX11_ask 4 = .ok (.getfield 117, 3) := by decide +kernel
theorem dX11_ask_7 : decode cX11_ask 7 = .ok (.iload_n 1, 1) := by decide +kernel
theorem dX11_ask_8 : decode cX11_ask 8 = .ok (.invokevirtual 170, 3) := by decide +kernel
theorem dX11_ask_11 : decode cX11_ask 11 = .ok (.ifCond .ne 15, 3) := by decide +kernel
theorem dX11_ask_14 : decode cX11_ask 14 = .ok (.aload_n 0, 1) := by decide +kernel
theorem dX11_ask_15 : decode cX11_ask 15 = .ok (.getfield 12, 3) := by decide +kernel
theorem dX11_ask_18 : decode cX11_ask 18 = .ok (.iconst 0, 1) := by decide +kernel
theorem dX11_ask_19 : decode cX11_ask 19 = .ok (.putfield 102, 3) := by decide +kernel
theorem dX11_ask_22 : decode cX11_ask 22 = .ok (.ldc2_w 350, 3) := by decide +kernel
theorem dX11_ask_25 : decode cX11_ask 25 = .ok (.lreturn, 1) := by decide +kernel
theorem dX11_ask_26 : decode cX11_ask 26 = .ok (.aload_n 0, 1) := by decide +kernel
theorem dX11_ask_27 : decode cX11_ask 27 = .ok (.getfield 79, 3) := by decide +kernel
theorem dX11_ask_30 : decode cX11_ask 30 = .ok (.invokevirtual 352, 3) := by decide +kernel
theorem dX11_ask_33 : decode cX11_ask 33 = .ok (.aload_n 0, 1) := by decide +kernel
theorem dX11_ask_34 : decode cX11_ask 34 = .ok (.getfield 21, 3) := by decide +kernel
theorem dX11_ask_37 : decode cX11_ask 37 = .ok (.aload_n 0, 1) := by decide +kernel
theorem dX11_ask_38 : decode cX11_ask 38 = .ok (.getfield 79, 3) := by decide +kernel
theorem dX11_ask_41 : decode cX11_ask 41 = .ok (.invokevirtual 355, 3) := by decide +kernel
theorem dX11_ask_44 : decode cX11_ask 44 = .ok (.istore_n 2, 1) := by decide +kernel
theorem dX11_ask_45 : decode cX11_ask 45 = .ok (.aload_n 0, 1) := by decide +kernel
theorem dX11_ask_46 : decode cX11_ask 46 = .ok (.getfield 12, 3) := by decide +kernel
theorem dX11_ask_49 : decode cX11_ask 49 = .ok (.iconst 0, 1) := by decide +kernel
theorem dX11_ask_50 : decode cX11_ask 50 = .ok (.putfield 102, 3) := by decide +kernel
theorem dX11_ask_53 : decode cX11_ask 53 = .ok (.iload_n 2, 1) := by decide +kernel
theorem dX11_ask_54 : decode cX11_ask 54 = .ok (.iconst (-1), 1) := by decide +kernel
theorem dX11_ask_55 : decode cX11_ask 55 = .ok (.if_icmp .ne 9, 3) := by decide +kernel
theorem dX11_ask_58 : decode cX11_ask 58 = .ok (.ldc2_w 350, 3) := by decide +kernel
theorem dX11_ask_61 : decode cX11_ask 61 = .ok (.goto 9, 3) := by decide +kernel
theorem dX11_ask_64 : decode cX11_ask 64 = .ok (.aload_n 0, 1) := by decide +kernel
theorem dX11_ask_65 : decode cX11_ask 65 = .ok (.iload_n 2, 1) := by decide +kernel
theorem dX11_ask_66 : decode cX11_ask 66 = .ok (.iload_n 1, 1) := by decide +kernel
theorem dX11_ask_67 : decode cX11_ask 67 = .ok (.invokevirtual 359, 3) := by decide +kernel
theorem dX11_ask_70 : decode cX11_ask 70 = .ok (.lreturn, 1) := by decide +kernel
theorem dX11_image_0 : decode cX11_image 0 = .ok (.aload_n 0, 1) := by decide +kernel
theorem dX11_image_1 : decode cX11_image 1 = .ok (.getfield 37, 3) := by decide +kernel
theorem dX11_image_4 : decode cX11_image 4 = .ok (.invokevirtual 148, 3) := by decide +kernel
theorem dX11_image_7 : decode cX11_image 7 = .ok (.istore_n 1, 1) := by decide +kernel
theorem dX11_image_8 : decode cX11_image 8 = .ok (.aload_n 0, 1) := by decide +kernel
theorem dX11_image_9 : decode cX11_image 9 = .ok (.getfield 37, 3) := by decide +kernel
theorem dX11_image_12 : decode cX11_image 12 = .ok (.invokevirtual 155, 3) := by decide +kernel
theorem dX11_image_15 : decode cX11_image 15 = .ok (.istore_n 2, 1) := by decide +kernel
theorem dX11_image_16 : decode cX11_image 16 = .ok (.aload_n 0, 1) := by decide +kernel
theorem dX11_image_17 : decode cX11_image 17 = .ok (.iconst 0, 1) := by decide +kernel
theorem dX11_image_18 : decode cX11_image 18 = .ok (.putfield 94, 3) := by decide +kernel
theorem dX11_image_21 : decode cX11_image 21 = .ok (.aload_n 0, 1) := by decide +kernel
theorem dX11_image_22 : decode cX11_image 22 = .ok (.iload_n 1, 1) := by decide +kernel
theorem dX11_image_23 : decode cX11_image 23 = .ok (.sipush 256, 3) := by decide +kernel
theorem dX11_image_26 : decode cX11_image 26 = .ok (.idiv, 1) := by decide +kernel
theorem dX11_image_27 : decode cX11_image 27 = .ok (.invokevirtual 363, 3) := by decide +kernel
theorem dX11_image_30 : decode cX11_image 30 = .ok (.aload_n 0, 1) := by decide +kernel
theorem dX11_image_31 : decode cX11_image 31 = .ok (.iload_n 1, 1) := by decide +kernel
theorem dX11_image_32 : decode cX11_image 32 = .ok (.sipush 256, 3) := by decide +kernel
theorem dX11_image_35 : decode cX11_image 35 = .ok (.irem, 1) := by decide +kernel
theorem dX11_image_36 : decode cX11_image 36 = .ok (.invokevirtual 363, 3) := by decide +kernel
theorem dX11_image_39 : decode cX11_image 39 = .ok (.aload_n 0, 1) := by decide +kernel
theorem dX11_image_40 : decode cX11_image 40 = .ok (.iload_n 2, 1) := by decide +kernel
theorem dX11_image_41 : decode cX11_image 41 = .ok (.ldc_w 366, 3) := by decide +kernel
theorem dX11_image_44 : decode cX11_image 44 = .ok (.idiv, 1) := by decide +kernel
theorem dX11_image_45 : decode cX11_image 45 = .ok (.invokevirtual 363, 3) := by decide +kernel
theorem dX11_image_48 : decode cX11_image 48 = .ok (.aload_n 0, 1) := by decide +kernel
theorem dX11_image_49 : decode cX11_image 49 = .ok (.iload_n 2, 1) := by decide +kernel
theorem dX11_image_50 : decode cX11_image 50 = .ok (.sipush 256, 3) := by decide +kernel
theorem dX11_image_53 : decode cX11_image 53 = .ok (.idiv, 1) := by decide +kernel
theorem dX11_image_54 : decode cX11_image 54 = .ok (.sipush 256, 3) := by decide +kernel
theorem dX11_image_57 : decode cX11_image 57 = .ok (.irem, 1) := by decide +kernel
theorem dX11_image_58 : decode cX11_image 58 = .ok (.invokevirtual 363, 3) := by decide +kernel
theorem dX11_image_61 : decode cX11_image 61 = .ok (.aload_n 0, 1) := by decide +kernel
theorem dX11_image_62 : decode cX11_image 62 = .ok (.iload_n 2, 1) := by decide +kernel
theorem dX11_image_63 : decode cX11_image 63 = .ok (.sipush 256, 3) := by decide +kernel
theorem dX11_image_66 : decode cX11_image 66 = .ok (.irem, 1) := by decide +kernel
theorem dX11_image_67 : decode cX11_image 67 = .ok (.invokevirtual 363, 3) := by decide +kernel
theorem dX11_image_70 : decode cX11_image 70 = .ok (.iconst 0, 1) := by decide +kernel
theorem dX11_image_71 : decode cX11_image 71 = .ok (.istore_n 3, 1) := by decide +kernel
theorem dX11_image_72 : decode cX11_image 72 = .ok (.iload_n 3, 1) := by decide +kernel
theorem dX11_image_73 : decode cX11_image 73 = .ok (.aload_n 0, 1) := by decide +kernel
theorem dX11_image_74 : decode cX11_image 74 = .ok (.getfield 49, 3) := by decide +kernel
theorem dX11_image_77 : decode cX11_image 77 = .ok (.getfield 117, 3) := by decide +kernel
theorem dX11_image_80 : decode cX11_image 80 = .ok (.getfield 142, 3) := by decide +kernel
theorem dX11_image_83 : decode cX11_image 83 = .ok (.if_icmp .ge 59, 3) := by decide +kernel
theorem dX11_image_86 : decode cX11_image 86 = .ok (.aload_n 0, 1) := by decide +kernel
theorem dX11_image_87 : decode cX11_image 87 = .ok (.aload_n 0, 1) := by decide +kernel
theorem dX11_image_88 : decode cX11_image 88 = .ok (.getfield 37, 3) := by decide +kernel
theorem dX11_image_91 : decode cX11_image 91 = .ok (.iload_n 3, 1) := by decide +kernel
theorem dX11_image_92 : decode cX11_image 92 = .ok (.invokevirtual 187, 3) := by decide +kernel
theorem dX11_image_95 : decode cX11_image 95 = .ok (.invokevirtual 363, 3) := by decide +kernel
theorem dX11_image_98 : decode cX11_image 98 = .ok (.aload_n 0, 1) := by decide +kernel
theorem dX11_image_99 : decode cX11_image 99 = .ok (.aload_n 0, 1) := by decide +kernel
theorem dX11_image_100 : decode cX11_image 100 = .ok (.getfield 37, 3) := by decide +kernel
theorem dX11_image_103 : decode cX11_image 103 = .ok (.iload_n 3, 1) := by decide +kernel
theorem dX11_image_104 : decode cX11_image 104 = .ok (.invokevirtual 190, 3) := by decide +kernel
theorem dX11_image_107 : decode cX11_image 107 = .ok (.invokevirtual 363, 3) := by decide +kernel
theorem dX11_image_110 : decode cX11_image 110 = .ok (.aload_n 0, 1) := by decide +kernel
theorem dX11_image_111 : decode cX11_image 111 = .ok (.aload_n 0, 1) := by decide +kernel
theorem dX11_image_112 : decode cX11_image 112 = .ok (.getfield 37, 3) := by decide +kernel
theorem dX11_image_115 : decode cX11_image 115 = .ok (.iload_n 3, 1) := by decide +kernel
theorem dX11_image_116 : decode cX11_image 116 = .ok (.invokevirtual 193, 3) := by decide +kernel
theorem dX11_image_119 : decode cX11_image 119 = .ok (.invokevirtual 363, 3) := by decide +kernel
theorem dX11_image_122 : decode cX11_image 122 = .ok (.aload_n 0, 1) := by decide +kernel
theorem dX11_image_123 : decode cX11_image 123 = .ok (.aload_n 0, 1) := by decide +kernel
theorem dX11_image_124 : decode cX11_image 124 = .ok (.getfield 37, 3) := by decide +kernel
theorem dX11_image_127 : decode cX11_image 127 = .ok (.iload_n 3, 1) := by decide +kernel
theorem dX11_image_128 : decode cX11_image 128 = .ok (.invokevirtual 196, 3) := by decide +kernel
theorem dX11_image_131 : decode cX11_image 131 = .ok (.iconst 1, 1) := by decide +kernel
theorem dX11_image_132 : decode cX11_image 132 = .ok (.iadd, 1) := by decide +kernel
theorem dX11_image_133 : decode cX11_image 133 = .ok (.invokevirtual 363, 3) := by decide +kernel
theorem dX11_image_136 : decode cX11_image 136 = .ok (.iinc 3 1, 3) := by decide +kernel
theorem dX11_image_139 : decode cX11_image 139 = .ok (.goto (-67), 3) := by decide +kernel
theorem dX11_image_142 : decode cX11_image 142 = .ok (.aload_n 0, 1) := by decide +kernel
theorem dX11_image_143 : decode cX11_image 143 = .ok (.aload_n 0, 1) := by decide +kernel
theorem dX11_image_144 : decode cX11_image 144 = .ok (.getfield 83, 3) := by decide +kernel
theorem dX11_image_147 : decode cX11_image 147 = .ok (.aload_n 0, 1) := by decide +kernel
theorem dX11_image_148 : decode cX11_image 148 = .ok (.getfield 94, 3) := by decide +kernel
theorem dX11_image_151 : decode cX11_image 151 = .ok (.invokestatic 367, 3) := by decide +kernel
theorem dX11_image_154 : decode cX11_image 154 = .ok (.invokevirtual 363, 3) := by decide +kernel
theorem dX11_image_157 : decode cX11_image 157 = .ok (.aload_n 0, 1) := by decide +kernel
theorem dX11_image_158 : decode cX11_image 158 = .ok (.getfield 94, 3) := by decide +kernel
theorem dX11_image_161 : decode cX11_image 161 = .ok (.ireturn, 1) := by decide +kernel
theorem dX11_octet_0 : decode cX11_octet 0 = .ok (.iload_n 1, 1) := by decide +kernel
theorem dX11_octet_1 : decode cX11_octet 1 = .ok (.ifCond .lt 29, 3) := by decide +kernel
theorem dX11_octet_4 : decode cX11_octet 4 = .ok (.iload_n 1, 1) := by decide +kernel
theorem dX11_octet_5 : decode cX11_octet 5 = .ok (.aload_n 0, 1) := by decide +kernel
theorem dX11_octet_6 : decode cX11_octet 6 = .ok (.getfield 94, 3) := by decide +kernel
theorem dX11_octet_9 : decode cX11_octet 9 = .ok (.if_icmp .ge 21, 3) := by decide +kernel
theorem dX11_octet_12 : decode cX11_octet 12 = .ok (.iload_n 1, 1) := by decide +kernel
theorem dX11_octet_13 : decode cX11_octet 13 = .ok (.aload_n 0, 1) := by decide +kernel
theorem dX11_octet_14 : decode cX11_octet 14 = .ok (.getfield 83, 3) := by decide +kernel
theorem dX11_octet_17 : decode cX11_octet 17 = .ok (.arraylength, 1) := by decide +kernel
theorem dX11_octet_18 : decode cX11_octet 18 = .ok (.if_icmp .ge 12, 3) := by decide +kernel
theorem dX11_octet_21 : decode cX11_octet 21 = .ok (.aload_n 0, 1) := by decide +kernel
theorem dX11_octet_22 : decode cX11_octet 22 = .ok (.getfield 83, 3) := by decide +kernel
theorem dX11_octet_25 : decode cX11_octet 25 = .ok (.iload_n 1, 1) := by decide +kernel
theorem dX11_octet_26 : decode cX11_octet 26 = .ok (.iaload, 1) := by decide +kernel
theorem dX11_octet_27 : decode cX11_octet 27 = .ok (.goto 4, 3) := by decide +kernel
theorem dX11_octet_30 : decode cX11_octet 30 = .ok (.iconst (-1), 1) := by decide +kernel
theorem dX11_octet_31 : decode cX11_octet 31 = .ok (.ireturn, 1) := by decide +kernel
theorem dX11_on_0 : decode cX11_on 0 = .ok (.aload_n 0, 1) := by decide +kernel
theorem dX11_on_1 : decode cX11_on 1 = .ok (.getfield 12, 3) := by decide +kernel
theorem dX11_on_4 : decode cX11_on 4 = .ok (.getfield 102, 3) := by decide +kernel
theorem dX11_on_7 : decode cX11_on 7 = .ok (.istore_n 1, 1) := by decide +kernel
theorem dX11_on_8 : decode cX11_on 8 = .ok (.aload_n 0, 1) := by decide +kernel
theorem dX11_on_9 : decode cX11_on 9 = .ok (.getfield 12, 3) := by decide +kernel
theorem dX11_on_12 : decode cX11_on 12 = .ok (.iconst 0, 1) := by decide +kernel
theorem dX11_on_13 : decode cX11_on 13 = .ok (.putfield 102, 3) := by decide +kernel
theorem dX11_on_16 : decode cX11_on 16 = .ok (.aload_n 0, 1) := by decide +kernel
theorem dX11_on_17 : decode cX11_on 17 = .ok (.getfield 49, 3) := by decide +kernel
theorem dX11_on_20 : decode cX11_on 20 = .ok (.getfield 117, 3) := by decide +kernel
theorem dX11_on_23 : decode cX11_on 23 = .ok (.invokevirtual 371, 3) := by decide +kernel
theorem dX11_on_26 : decode cX11_on 26 = .ok (.ifCond .ne 18, 3) := by decide +kernel
theorem dX11_on_29 : decode cX11_on 29 = .ok (.aload_n 0, 1) := by decide +kernel
theorem dX11_on_30 : decode cX11_on 30 = .ok (.aload_n 0, 1) := by decide +kernel
theorem dX11_on_31 : decode cX11_on 31 = .ok (.getfield 12, 3) := by decide +kernel
theorem dX11_on_34 : decode cX11_on 34 = .ok (.getfield 281, 3) := by decide +kernel
theorem dX11_on_37 : decode cX11_on 37 = .ok (.iload_n 1, 1) := by decide +kernel
theorem dX11_on_38 : decode cX11_on 38 = .ok (.invokevirtual 374, 3) := by decide +kernel
theorem dX11_on_41 : decode cX11_on 41 = .ok (.ifCond .ne 11, 3) := by decide +kernel
theorem dX11_on_44 : decode cX11_on 44 = .ok (.aload_n 0, 1) := by decide +kernel
theorem dX11_on_45 : decode cX11_on 45 = .ok (.iconst 5, 1) := by decide +kernel
theorem dX11_on_46 : decode cX11_on 46 = .ok (.invokevirtual 105, 3) := by decide +kernel
theorem dX11_on_49 : decode cX11_on 49 = .ok (.pop, 1) := by decide +kernel
theorem dX11_on_50 : decode cX11_on 50 = .ok (.iconst 0, 1) := by decide +kernel
theorem dX11_on_51 : decode cX11_on 51 = .ok (.ireturn, 1) := by decide +kernel
theorem dX11_on_52 : decode cX11_on 52 = .ok (.aload_n 0, 1) := by decide +kernel
theorem dX11_on_53 : decode cX11_on 53 = .ok (.getfield 37, 3) := by decide +kernel
theorem dX11_on_56 : decode cX11_on 56 = .ok (.invokevirtual 378, 3) := by decide +kernel
theorem dX11_on_59 : decode cX11_on 59 = .ok (.aload_n 0, 1) := by decide +kernel
theorem dX11_on_60 : decode cX11_on 60 = .ok (.getfield 37, 3) := by decide +kernel
theorem dX11_on_63 : decode cX11_on 63 = .ok (.aload_n 0, 1) := by decide +kernel
theorem dX11_on_64 : decode cX11_on 64 = .ok (.getfield 12, 3) := by decide +kernel
theorem dX11_on_67 : decode cX11_on 67 = .ok (.getfield 281, 3) := by decide +kernel
theorem dX11_on_70 : decode cX11_on 70 = .ok (.invokevirtual 381, 3) := by decide +kernel
theorem dX11_on_73 : decode cX11_on 73 = .ok (.iconst 1, 1) := by decide +kernel
theorem dX11_on_74 : decode cX11_on 74 = .ok (.ireturn, 1) := by decide +kernel
theorem dX11_status_0 : decode cX11_status 0 = .ok (.iload_n 1, 1) := by decide +kernel
theorem dX11_status_1 : decode cX11_status 1 = .ok (.ifCond .lt 18, 3) := by decide +kernel
theorem dX11_status_4 : decode cX11_status 4 = .ok (.iload_n 1, 1) := by decide +kernel
theorem dX11_status_5 : decode cX11_status 5 = .ok (.bipush 6, 2) := by decide +kernel
theorem dX11_status_7 : decode cX11_status 7 = .ok (.if_icmp .ge 12, 3) := by decide +kernel
theorem dX11_status_10 : decode cX11_status 10 = .ok (.aload_n 0, 1) := by decide +kernel
theorem dX11_status_11 : decode cX11_status 11 = .ok (.getfield 87, 3) := by decide +kernel
theorem dX11_status_14 : decode cX11_status 14 = .ok (.iload_n 1, 1) := by decide +kernel
theorem dX11_status_15 : decode cX11_status 15 = .ok (.iaload, 1) := by decide +kernel
theorem dX11_status_16 : decode cX11_status 16 = .ok (.goto 4, 3) := by decide +kernel
theorem dX11_status_19 : decode cX11_status 19 = .ok (.iconst (-1), 1) := by decide +kernel
theorem dX11_status_20 : decode cX11_status 20 = .ok (.ireturn, 1) := by decide +kernel
theorem dX11_refuse_0 : decode cX11_refuse 0 = .ok (.iload_n 1, 1) := by decide +kernel
theorem dX11_refuse_1 : decode cX11_refuse 1 = .ok (.ifCond .lt 19, 3) := by decide +kernel
theorem dX11_refuse_4 : decode cX11_refuse 4 = .ok (.iload_n 1, 1) := by decide +kernel
theorem dX11_refuse_5 : decode cX11_refuse 5 = .ok (.bipush 6, 2) := by decide +kernel
theorem dX11_refuse_7 : decode cX11_refuse 7 = .ok (.if_icmp .ge 13, 3) := by decide +kernel
theorem dX11_refuse_10 : decode cX11_refuse 10 = .ok (.aload_n 0, 1) := by decide +kernel
theorem dX11_refuse_11 : decode cX11_refuse 11 = .ok (.getfield 87, 3) := by decide +kernel
theorem dX11_refuse_14 : decode cX11_refuse 14 = .ok (.iload_n 1, 1) := by decide +kernel
theorem dX11_refuse_15 : decode cX11_refuse 15 = .ok (.dup2, 1) := by decide +kernel
theorem dX11_refuse_16 : decode cX11_refuse 16 = .ok (.iaload, 1) := by decide +kernel
theorem dX11_refuse_17 : decode cX11_refuse 17 = .ok (.iconst 1, 1) := by decide +kernel
theorem dX11_refuse_18 : decode cX11_refuse 18 = .ok (.iadd, 1) := by decide +kernel
theorem dX11_refuse_19 : decode cX11_refuse 19 = .ok (.iastore, 1) := by decide +kernel
theorem dX11_refuse_20 : decode cX11_refuse 20 = .ok (.iconst (-1), 1) := by decide +kernel
theorem dX11_refuse_21 : decode cX11_refuse 21 = .ok (.ireturn, 1) := by decide +kernel
theorem dX11_letterOf_0 : decode cX11_letterOf 0 = .ok (.iload_n 0, 1) := by decide +kernel
theorem dX11_letterOf_1 : decode cX11_letterOf 1 = .ok (.iconst 5, 1) := by decide +kernel
theorem dX11_letterOf_2 : decode cX11_letterOf 2 = .ok (.iconst 5, 1) := by decide +kernel
theorem dX11_letterOf_3 : decode cX11_letterOf 3 = .ok (.iload_n 1, 1) := by decide +kernel
theorem dX11_letterOf_4 : decode cX11_letterOf 4 = .ok (.isub, 1) := by decide +kernel
theorem dX11_letterOf_5 : decode cX11_letterOf 5 = .ok (.imul, 1) := by decide +kernel
theorem dX11_letterOf_6 : decode cX11_letterOf 6 = .ok (.ishr, 1) := by decide +kernel
theorem dX11_letterOf_7 : decode cX11_letterOf 7 = .ok (.bipush 31, 2) := by decide +kernel
theorem dX11_letterOf_9 : decode cX11_letterOf 9 = .ok (.iand, 1) := by decide +kernel
theorem dX11_letterOf_10 : decode cX11_letterOf 10 = .ok (.ireturn, 1) := by decide +kernel
theorem dX11_bitsOfTape_0 : decode cX11_bitsOfTape 0 = .ok (.iconst 0, 1) := by decide +kernel
theorem dX11_bitsOfTape_1 : decode cX11_bitsOfTape 1 = .ok (.istore_n 2, 1) := by decide +kernel
theorem dX11_bitsOfTape_2 : decode cX11_bitsOfTape 2 = .ok (.iconst 0, 1) := by decide +kernel
theorem dX11_bitsOfTape_3 : decode cX11_bitsOfTape 3 = .ok (.istore_n 3, 1) := by decide +kernel
theorem dX11_bitsOfTape_4 : decode cX11_bitsOfTape 4 = .ok (.iload_n 3, 1) := by decide +kernel
theorem dX11_bitsOfTape_5 : decode cX11_bitsOfTape 5 = .ok (.iload_n 1, 1) := by decide +kernel
theorem dX11_bitsOfTape_6 : decode cX11_bitsOfTape 6 = .ok (.if_icmp .ge 61, 3) := by decide +kernel
theorem dX11_bitsOfTape_9 : decode cX11_bitsOfTape 9 = .ok (.iload_n 3, 1) := by decide +kernel
theorem dX11_bitsOfTape_10 : decode cX11_bitsOfTape 10 = .ok (.sipush 1600, 3) := by decide +kernel
theorem dX11_bitsOfTape_13 : decode cX11_bitsOfTape 13 = .ok (.if_icmp .ge 54, 3) := by decide +kernel
theorem dX11_bitsOfTape_16 : decode cX11_bitsOfTape 16 = .ok (.aload_n 0, 1) := by decide +kernel
theorem dX11_bitsOfTape_17 : decode cX11_bitsOfTape 17 = .ok (.getfield 12, 3) := by decide +kernel
theorem dX11_bitsOfTape_20 : decode cX11_bitsOfTape 20 = .ok (.getfield 281, 3) := by decide +kernel
theorem dX11_bitsOfTape_23 : decode cX11_bitsOfTape 23 = .ok (.iload_n 3, 1) := by decide +kernel
theorem dX11_bitsOfTape_24 : decode cX11_bitsOfTape 24 = .ok (.iaload, 1) := by decide +kernel
theorem dX11_bitsOfTape_25 : decode cX11_bitsOfTape 25 = .ok (.istore 4, 2) := by decide +kernel
theorem dX11_bitsOfTape_27 : decode cX11_bitsOfTape 27 = .ok (.aload_n 0, 1) := by decide +kernel
theorem dX11_bitsOfTape_28 : decode cX11_bitsOfTape 28 = .ok (.getfield 49, 3) := by decide +kernel
theorem dX11_bitsOfTape_31 : decode cX11_bitsOfTape 31 = .ok (.getfield 117, 3) := by decide +kernel
theorem dX11_bitsOfTape_34 : decode cX11_bitsOfTape 34 = .ok (.iload 4, 2) := by decide +kernel
theorem dX11_bitsOfTape_36 : decode cX11_bitsOfTape 36 = .ok (.invokevirtual 170, 3) := by decide +kernel
theorem dX11_bitsOfTape_39 : decode cX11_bitsOfTape 39 = .ok (.ifCond .eq 13, 3) := by decide +kernel
theorem dX11_bitsOfTape_42 : decode cX11_bitsOfTape 42 = .ok (.iload_n 2, 1) := by decide +kernel
theorem dX11_bitsOfTape_43 : decode cX11_bitsOfTape 43 = .ok (.iload 4, 2) := by decide +kernel
theorem dX11_bitsOfTape_45 : decode cX11_bitsOfTape 45 = .ok (.ishr, 1) := by decide +kernel
theorem dX11_bitsOfTape_46 : decode cX11_bitsOfTape 46 = .ok (.iconst 1, 1) := by decide +kernel
theorem dX11_bitsOfTape_47 : decode cX11_bitsOfTape 47 = .ok (.iand, 1) := by decide +kernel
theorem dX11_bitsOfTape_48 : decode cX11_bitsOfTape 48 = .ok (.iconst 1, 1) := by decide +kernel
theorem dX11_bitsOfTape_49 : decode cX11_bitsOfTape 49 = .ok (.if_icmp .ne 5, 3) := by decide +kernel
theorem dX11_bitsOfTape_52 : decode cX11_bitsOfTape 52 = .ok (.iconst 0, 1) := by decide +kernel
theorem dX11_bitsOfTape_53 : decode cX11_bitsOfTape 53 = .ok (.ireturn, 1) := by decide +kernel
theorem dX11_bitsOfTape_54 : decode cX11_bitsOfTape 54 = .ok (.iload_n 2, 1) := by decide +kernel
theorem dX11_bitsOfTape_55 : decode cX11_bitsOfTape 55 = .ok (.iconst 1, 1) := by decide +kernel
theorem dX11_bitsOfTape_56 : decode cX11_bitsOfTape 56 = .ok (.iload 4, 2) := by decide +kernel
theorem dX11_bitsOfTape_58 : decode cX11_bitsOfTape 58 = .ok (.ishl, 1) := by decide +kernel
theorem dX11_bitsOfTape_59 : decode cX11_bitsOfTape 59 = .ok (.ior, 1) := by decide +kernel
theorem dX11_bitsOfTape_60 : decode cX11_bitsOfTape 60 = .ok (.istore_n 2, 1) := by decide +kernel
theorem dX11_bitsOfTape_61 : decode cX11_bitsOfTape 61 = .ok (.iinc 3 1, 3) := by decide +kernel
theorem dX11_bitsOfTape_64 : decode cX11_bitsOfTape 64 = .ok (.goto (-60), 3) := by decide +kernel
theorem dX11_bitsOfTape_67 : decode cX11_bitsOfTape 67 = .ok (.iload_n 2, 1) := by decide +kernel
theorem dX11_bitsOfTape_68 : decode cX11_bitsOfTape 68 = .ok (.ireturn, 1) := by decide +kernel
theorem dX11_canPass_0 : decode cX11_canPass 0 = .ok (.aload_n 0, 1) := by decide +kernel
theorem dX11_canPass_1 : decode cX11_canPass 1 = .ok (.getfield 49, 3) := by decide +kernel
theorem dX11_canPass_4 : decode cX11_canPass 4 = .ok (.getfield 117, 3) := by decide +kernel
theorem dX11_canPass_7 : decode cX11_canPass 7 = .ok (.invokevirtual 371, 3) := by decide +kernel
theorem dX11_canPass_10 : decode cX11_canPass 10 = .ok (.ifCond .ne 32, 3) := by decide +kernel
theorem dX11_canPass_13 : decode cX11_canPass 13 = .ok (.iload_n 1, 1) := by decide +kernel
theorem dX11_canPass_14 : decode cX11_canPass 14 = .ok (.iconst 1, 1) := by decide +kernel
theorem dX11_canPass_15 : decode cX11_canPass 15 = .ok (.if_icmp .lt 27, 3) := by decide +kernel
theorem dX11_canPass_18 : decode cX11_canPass 18 = .ok (.iload_n 1, 1) := by decide +kernel
theorem dX11_canPass_19 : decode cX11_canPass 19 = .ok (.iload_n 2, 1) := by decide +kernel
theorem dX11_canPass_20 : decode cX11_canPass 20 = .ok (.if_icmp .gt 22, 3) := by decide +kernel
theorem dX11_canPass_23 : decode cX11_canPass 23 = .ok (.aload_n 0, 1) := by decide +kernel
theorem dX11_canPass_24 : decode cX11_canPass 24 = .ok (.getfield 37, 3) := by decide +kernel
theorem dX11_canPass_27 : decode cX11_canPass 27 = .ok (.invokevirtual 148, 3) := by decide +kernel
theorem dX11_canPass_30 : decode cX11_canPass 30 = .ok (.iload_n 1, 1) := by decide +kernel
theorem dX11_canPass_31 : decode cX11_canPass 31 = .ok (.iadd, 1) := by decide +kernel
theorem dX11_canPass_32 : decode cX11_canPass 32 = .ok (.sipush 999, 3) := by decide +kernel
theorem dX11_canPass_35 : decode cX11_canPass 35 = .ok (.if_icmp .gt 7, 3) := by decide +kernel
theorem dX11_canPass_38 : decode cX11_canPass 38 = .ok (.iconst 1, 1) := by decide +kernel
theorem dX11_canPass_39 : decode cX11_canPass 39 = .ok (.goto 4, 3) := by decide +kernel
theorem dX11_canPass_42 : decode cX11_canPass 42 = .ok (.iconst 0, 1) := by decide +kernel
theorem dX11_canPass_43 : decode cX11_canPass 43 = .ok (.ireturn, 1) := by decide +kernel
theorem dX11_driftOnce_0 : decode cX11_driftOnce 0 = .ok (.aload_n 0, 1) := by decide +kernel
theorem dX11_driftOnce_1 : decode cX11_driftOnce 1 = .ok (.ldc2_w 385, 3) := by decide +kernel
theorem dX11_driftOnce_4 : decode cX11_driftOnce 4 = .ok (.aload_n 0, 1) := by decide +kernel
theorem dX11_driftOnce_5 : decode cX11_driftOnce 5 = .ok (.getfield 98, 3) := by decide +kernel
theorem dX11_driftOnce_8 : decode cX11_driftOnce 8 = .ok (.lmul, 1) := by decide +kernel
theorem dX11_driftOnce_9 : decode cX11_driftOnce 9 = .ok (.ldc2_w 387, 3) := by decide +kernel
theorem dX11_driftOnce_12 : decode cX11_driftOnce 12 = .ok (.ladd, 1) := by decide +kernel
theorem dX11_driftOnce_13 : decode cX11_driftOnce 13 = .ok (.ldc2_w 389, 3) := by decide +kernel
theorem dX11_driftOnce_16 : decode cX11_driftOnce 16 = .ok (.lrem, 1) := by decide +kernel
theorem dX11_driftOnce_17 : decode cX11_driftOnce 17 = .ok (.putfield 98, 3) := by decide +kernel
theorem dX11_driftOnce_20 : decode cX11_driftOnce 20 = .ok (.aload_n 0, 1) := by decide +kernel
theorem dX11_driftOnce_21 : decode cX11_driftOnce 21 = .ok (.getfield 98, 3) := by decide +kernel
theorem dX11_driftOnce_24 : decode cX11_driftOnce 24 = .ok (.ldc2_w 391, 3) := by decide +kernel
theorem dX11_driftOnce_27 : decode cX11_driftOnce 27 = .ok (.ldiv, 1) := by decide +kernel
theorem dX11_driftOnce_28 : decode cX11_driftOnce 28 = .ok (.ldc2_w 393, 3) := by decide +kernel
theorem dX11_driftOnce_31 : decode cX11_driftOnce 31 = .ok (.lrem, 1) := by decide +kernel
theorem dX11_driftOnce_32 : decode cX11_driftOnce 32 = .ok (.l2i, 1) := by decide +kernel
theorem dX11_driftOnce_33 : decode cX11_driftOnce 33 = .ok (.istore_n 2, 1) := by decide +kernel
theorem dX11_driftOnce_34 : decode cX11_driftOnce 34 = .ok (.aload_n 0, 1) := by decide +kernel
theorem dX11_driftOnce_35 : decode cX11_driftOnce 35 = .ok (.getfield 49, 3) := by decide +kernel
theorem dX11_driftOnce_38 : decode cX11_driftOnce 38 = .ok (.getfield 117, 3) := by decide +kernel
theorem dX11_driftOnce_41 : decode cX11_driftOnce 41 = .ok (.aload_n 0, 1) := by decide +kernel
theorem dX11_driftOnce_42 : decode cX11_driftOnce 42 = .ok (.getfield 37, 3) := by decide +kernel
theorem dX11_driftOnce_45 : decode cX11_driftOnce 45 = .ok (.iload_n 1, 1) := by decide +kernel
theorem dX11_driftOnce_46 : decode cX11_driftOnce 46 = .ok (.invokevirtual 187, 3) := by decide +kernel
theorem dX11_driftOnce_49 : decode cX11_driftOnce 49 = .ok (.iload_n 2, 1) := by decide +kernel
theorem dX11_driftOnce_50 : decode cX11_driftOnce 50 = .ok (.invokevirtual 395, 3) := by decide +kernel
theorem dX11_driftOnce_53 : decode cX11_driftOnce 53 = .ok (.istore_n 3, 1) := by decide +kernel
theorem dX11_driftOnce_54 : decode cX11_driftOnce 54 = .ok (.iload_n 3, 1) := by decide +kernel
theorem dX11_driftOnce_55 : decode cX11_driftOnce 55 = .ok (.iconst (-1), 1) := by decide +kernel
theorem dX11_driftOnce_56 : decode cX11_driftOnce 56 = .ok (.if_icmp .ne 7, 3) := by decide +kernel
theorem dX11_driftOnce_59 : decode cX11_driftOnce 59 = .ok (.iconst 0, 1) := by decide +kernel
theorem dX11_driftOnce_60 : decode cX11_driftOnce 60 = .ok (.goto 13, 3) := by decide +kernel
theorem dX11_driftOnce_63 : decode cX11_driftOnce 63 = .ok (.aload_n 0, 1) := by decide +kernel
theorem dX11_driftOnce_64 : decode cX11_driftOnce 64 = .ok (.getfield 49, 3) := by decide +kernel
theorem dX11_driftOnce_67 : decode cX11_driftOnce 67 = .ok (.iload_n 1, 1) := by decide +kernel
theorem dX11_driftOnce_68 : decode cX11_driftOnce 68 = .ok (.iload_n 3, 1) := by decide +kernel
theorem dX11_driftOnce_69 : decode cX11_driftOnce 69 = .ok (.iconst (-1), 1) := by decide +kernel
theorem dX11_driftOnce_70 : decode cX11_driftOnce 70 = .ok (.invokevirtual 309, 3) := by decide +kernel
theorem dX11_driftOnce_73 : decode cX11_driftOnce 73 = .ok (.ireturn, 1) := by decide +kernel
theorem dX11_answer_0 : decode cX11_answer 0 = .ok (.iconst 0, 1) := by decide +kernel
theorem dX11_answer_1 : decode cX11_answer 1 = .ok (.istore_n 3, 1) := by decide +kernel
theorem dX11_answer_2 : decode cX11_answer 2 = .ok (.iconst (-1), 1) := by decide +kernel
theorem dX11_answer_3 : decode cX11_answer 3 = .ok (.istore 4, 2) := by decide +kernel
theorem dX11_answer_5 : decode cX11_answer 5 = .ok (.iconst (-1), 1) := by decide +kernel
theorem dX11_answer_6 : decode cX11_answer 6 = .ok (.istore 5, 2) := by decide +kernel
theorem dX11_answer_8 : decode cX11_answer 8 = .ok (.lconst 0, 1) := by decide +kernel
theorem dX11_answer_9 : decode cX11_answer 9 = .ok (.lstore 6, 2) := by decide +kernel
theorem dX11_answer_11 : decode cX11_answer 11 = .ok (.lconst 0, 1) := by decide +kernel
theorem dX11_answer_12 : decode cX11_answer 12 = .ok (.lstore 8, 2) := by decide +kernel
theorem dX11_answer_14 : decode cX11_answer 14 = .ok (.lconst 0, 1) := by decide +kernel
theorem dX11_answer_15 : decode cX11_answer 15 = .ok (.lstore 10, 2) := by decide +kernel
theorem dX11_answer_17 : decode cX11_answer 17 = .ok (.aload_n 0, 1) := by decide +kernel
theorem dX11_answer_18 : decode cX11_answer 18 = .ok (.getfield 49, 3) := by decide +kernel
theorem dX11_answer_21 : decode cX11_answer 21 = .ok (.invokevirtual 398, 3) := by decide +kernel
theorem dX11_answer_24 : decode cX11_answer 24 = .ok (.iconst 0, 1) := by decide +kernel
theorem dX11_answer_25 : decode cX11_answer 25 = .ok (.istore 12, 2) := by decide +kernel
theorem dX11_answer_27 : decode cX11_answer 27 = .ok (.iload 12, 2) := by decide +kernel
theorem dX11_answer_29 : decode cX11_answer 29 = .ok (.aload_n 0, 1) := by decide +kernel
theorem dX11_answer_30 : decode cX11_answer 30 = .ok (.getfield 49, 3) := by decide +kernel
theorem dX11_answer_33 : decode cX11_answer 33 = .ok (.getfield 117, 3) := by decide +kernel
theorem dX11_answer_36 : decode cX11_answer 36 = .ok (.invokevirtual 401, 3) := by decide +kernel
theorem dX11_answer_39 : decode cX11_answer 39 = .ok (.if_icmp .ge 100, 3) := by decide +kernel
theorem dX11_answer_42 : decode cX11_answer 42 = .ok (.aload_n 0, 1) := by decide +kernel
theorem dX11_answer_43 : decode cX11_answer 43 = .ok (.getfield 49, 3) := by decide +kernel
theorem dX11_answer_46 : decode cX11_answer 46 = .ok (.aload_n 0, 1) := by decide +kernel
theorem dX11_answer_47 : decode cX11_answer 47 = .ok (.getfield 79, 3) := by decide +kernel
theorem dX11_answer_50 : decode cX11_answer 50 = .ok (.iload_n 2, 1) := by decide +kernel
theorem dX11_answer_51 : decode cX11_answer 51 = .ok (.iload 12, 2) := by decide +kernel
theorem dX11_answer_53 : decode cX11_answer 53 = .ok (.invokevirtual 404, 3) := by decide +kernel
theorem dX11_answer_56 : decode cX11_answer 56 = .ok (.i2l, 1) := by decide +kernel
theorem dX11_answer_57 : decode cX11_answer 57 = .ok (.lstore 13, 2) := by decide +kernel
theorem dX11_answer_59 : decode cX11_answer 59 = .ok (.iload 12, 2) := by decide +kernel
theorem dX11_answer_61 : decode cX11_answer 61 = .ok (.ifCond .ne 8, 3) := by decide +kernel
theorem dX11_answer_64 : decode cX11_answer 64 = .ok (.lload 13, 2) := by decide +kernel
theorem dX11_answer_66 : decode cX11_answer 66 = .ok (.goto 10, 3) := by decide +kernel
theorem dX11_answer_69 : decode cX11_answer 69 = .ok (.lload 8, 2) := by decide +kernel
theorem dX11_answer_71 : decode cX11_answer 71 = .ok (.lload 13, 2) := by decide +kernel
theorem dX11_answer_73 : decode cX11_answer 73 = .ok (.invokestatic 408, 3) := by decide +kernel
theorem dX11_answer_76 : decode cX11_answer 76 = .ok (.lstore 8, 2) := by decide +kernel
theorem dX11_answer_78 : decode cX11_answer 78 = .ok (.iload 12, 2) := by decide +kernel
theorem dX11_answer_80 : decode cX11_answer 80 = .ok (.ifCond .ne 8, 3) := by decide +kernel
theorem dX11_answer_83 : decode cX11_answer 83 = .ok (.lload 13, 2) := by decide +kernel
theorem dX11_answer_85 : decode cX11_answer 85 = .ok (.goto 10, 3) := by decide +kernel
theorem dX11_answer_88 : decode cX11_answer 88 = .ok (.lload 10, 2) := by decide +kernel
theorem dX11_answer_90 : decode cX11_answer 90 = .ok (.lload 13, 2) := by decide +kernel
theorem dX11_answer_92 : decode cX11_answer 92 = .ok (.invokestatic 412, 3) := by decide +kernel
theorem dX11_answer_95 : decode cX11_answer 95 = .ok (.lstore 10, 2) := by decide +kernel
theorem dX11_answer_97 : decode cX11_answer 97 = .ok (.lload 6, 2) := by decide +kernel
theorem dX11_answer_99 : decode cX11_answer 99 = .ok (.lload 13, 2) := by decide +kernel
theorem dX11_answer_101 : decode cX11_answer 101 = .ok (.ladd, 1) := by decide +kernel
theorem dX11_answer_102 : decode cX11_answer 102 = .ok (.lstore 6, 2) := by decide +kernel
theorem dX11_answer_104 : decode cX11_answer 104 = .ok (.lload 13, 2) := by decide +kernel
theorem dX11_answer_106 : decode cX11_answer 106 = .ok (.lconst 0, 1) := by decide +kernel
theorem dX11_answer_107 : decode cX11_answer 107 = .ok (.lcmp, 1) := by decide +kernel
theorem dX11_answer_108 : decode cX11_answer 108 = .ok (.ifCond .eq 25, 3) := by decide +kernel
theorem dX11_answer_111 : decode cX11_answer 111 = .ok (.iinc 3 1, 3) := by decide +kernel
theorem dX11_answer_114 : decode cX11_answer 114 = .ok (.iload 4, 2) := by decide +kernel
theorem dX11_answer_116 : decode cX11_answer 116 = .ok (.iconst (-1), 1) := by decide +kernel
theorem dX11_answer_117 : decode cX11_answer 117 = .ok (.if_icmp .ne 8, 3) := by decide +kernel
theorem dX11_answer_120 : decode cX11_answer 120 = .ok (.iload 12, 2) := by decide +kernel
theorem dX11_answer_122 : decode cX11_answer 122 = .ok (.goto 5, 3) := by decide +kernel
theorem dX11_answer_125 : decode cX11_answer 125 = .ok (.iload 4, 2) := by decide +kernel
theorem dX11_answer_127 : decode cX11_answer 127 = .ok (.istore 4, 2) := by decide +kernel
theorem dX11_answer_129 : decode cX11_answer 129 = .ok (.iload 12, 2) := by decide +kernel
theorem dX11_answer_131 : decode cX11_answer 131 = .ok (.istore 5, 2) := by decide +kernel
theorem dX11_answer_133 : decode cX11_answer 133 = .ok (.iinc 12 1, 3) := by decide +kernel
theorem dX11_answer_136 : decode cX11_answer 136 = .ok (.goto (-109), 3) := by decide +kernel
theorem dX11_answer_139 : decode cX11_answer 139 = .ok (.iload_n 1, 1) := by decide +kernel
theorem dX11_answer_140 : decode cX11_answer 140 = .ok (.tableswitch 60 34 39 #[40, 44, 48, 51, 54, 57], 40) := by decide +kernel
theorem dX11_answer_180 : decode cX11_answer 180 = .ok (.iload 4, 2) := by decide +kernel
theorem dX11_answer_182 : decode cX11_answer 182 = .ok (.i2l, 1) := by decide +kernel
theorem dX11_answer_183 : decode cX11_answer 183 = .ok (.lreturn, 1) := by decide +kernel
theorem dX11_answer_184 : decode cX11_answer 184 = .ok (.iload 5, 2) := by decide +kernel
theorem dX11_answer_186 : decode cX11_answer 186 = .ok (.i2l, 1) := by decide +kernel
theorem dX11_answer_187 : decode cX11_answer 187 = .ok (.lreturn, 1) := by decide +kernel
theorem dX11_answer_188 : decode cX11_answer 188 = .ok (.iload_n 3, 1) := by decide +kernel
theorem dX11_answer_189 : decode cX11_answer 189 = .ok (.i2l, 1) := by decide +kernel
theorem dX11_answer_190 : decode cX11_answer 190 = .ok (.lreturn, 1) := by decide +kernel
theorem dX11_answer_191 : decode cX11_answer 191 = .ok (.lload 6, 2) := by decide +kernel
theorem dX11_answer_193 : decode cX11_answer 193 = .ok (.lreturn, 1) := by decide +kernel
theorem dX11_answer_194 : decode cX11_answer 194 = .ok (.lload 8, 2) := by decide +kernel
theorem dX11_answer_196 : decode cX11_answer 196 = .ok (.lreturn, 1) := by decide +kernel
theorem dX11_answer_197 : decode cX11_answer 197 = .ok (.lload 10, 2) := by decide +kernel
theorem dX11_answer_199 : decode cX11_answer 199 = .ok (.lreturn, 1) := by decide +kernel
theorem dX11_answer_200 : decode cX11_answer 200 = .ok (.ldc2_w 350, 3) := by decide +kernel
theorem dX11_answer_203 : decode cX11_answer 203 = .ok (.lreturn, 1) := by decide +kernel
theorem dX11_draw_0 : decode cX11_draw 0 = .ok (.aload_n 0, 1) := by decide +kernel
theorem dX11_draw_1 : decode cX11_draw 1 = .ok (.getfield 94, 3) := by decide +kernel
theorem dX11_draw_4 : decode cX11_draw 4 = .ok (.ifCond .lt 35, 3) := by decide +kernel
theorem dX11_draw_7 : decode cX11_draw 7 = .ok (.aload_n 0, 1) := by decide +kernel
theorem dX11_draw_8 : decode cX11_draw 8 = .ok (.getfield 94, 3) := by decide +kernel
theorem dX11_draw_11 : decode cX11_draw 11 = .ok (.aload_n 0, 1) := by decide +kernel
theorem dX11_draw_12 : decode cX11_draw 12 = .ok (.getfield 83, 3) := by decide +kernel
theorem dX11_draw_15 : decode cX11_draw 15 = .ok (.arraylength, 1) := by decide +kernel
theorem dX11_draw_16 : decode cX11_draw 16 = .ok (.if_icmp .ge 23, 3) := by decide +kernel
theorem dX11_draw_19 : decode cX11_draw 19 = .ok (.aload_n 0, 1) := by decide +kernel
theorem dX11_draw_20 : decode cX11_draw 20 = .ok (.getfield 83, 3) := by decide +kernel
theorem dX11_draw_23 : decode cX11_draw 23 = .ok (.aload_n 0, 1) := by decide +kernel
theorem dX11_draw_24 : decode cX11_draw 24 = .ok (.getfield 94, 3) := by decide +kernel
theorem dX11_draw_27 : decode cX11_draw 27 = .ok (.iload_n 1, 1) := by decide +kernel
theorem dX11_draw_28 : decode cX11_draw 28 = .ok (.iastore, 1) := by decide +kernel
theorem dX11_draw_29 : decode cX11_draw 29 = .ok (.aload_n 0, 1) := by decide +kernel
theorem dX11_draw_30 : decode cX11_draw 30 = .ok (.dup, 1) := by decide +kernel
theorem dX11_draw_31 : decode cX11_draw 31 = .ok (.getfield 94, 3) := by decide +kernel
theorem dX11_draw_34 : decode cX11_draw 34 = .ok (.iconst 1, 1) := by decide +kernel
theorem dX11_draw_35 : decode cX11_draw 35 = .ok (.iadd, 1) := by decide +kernel
theorem dX11_draw_36 : decode cX11_draw 36 = .ok (.putfield 94, 3) := by decide +kernel
theorem dX11_draw_39 : decode cX11_draw 39 = .ok (.return_, 1) := by decide +kernel
theorem dX11_sealOf_0 : decode cX11_sealOf 0 = .ok (.sipush 241, 3) := by decide +kernel
theorem dX11_sealOf_3 : decode cX11_sealOf 3 = .ok (.istore_n 2, 1) := by decide +kernel
theorem dX11_sealOf_4 : decode cX11_sealOf 4 = .ok (.iconst 0, 1) := by decide +kernel
theorem dX11_sealOf_5 : decode cX11_sealOf 5 = .ok (.istore_n 3, 1) := by decide +kernel
theorem dX11_sealOf_6 : decode cX11_sealOf 6 = .ok (.iload_n 3, 1) := by decide +kernel
theorem dX11_sealOf_7 : decode cX11_sealOf 7 = .ok (.iload_n 1, 1) := by decide +kernel
theorem dX11_sealOf_8 : decode cX11_sealOf 8 = .ok (.if_icmp .ge 27, 3) := by decide +kernel
theorem dX11_sealOf_11 : decode cX11_sealOf 11 = .ok (.iload_n 3, 1) := by decide +kernel
theorem dX11_sealOf_12 : decode cX11_sealOf 12 = .ok (.aload_n 0, 1) := by decide +kernel
theorem dX11_sealOf_13 : decode cX11_sealOf 13 = .ok (.arraylength, 1) := by decide +kernel
theorem dX11_sealOf_14 : decode cX11_sealOf 14 = .ok (.if_icmp .ge 21, 3) := by decide +kernel
theorem dX11_sealOf_17 : decode cX11_sealOf 17 = .ok (.iconst 3, 1) := by decide +kernel
theorem dX11_sealOf_18 : decode cX11_sealOf 18 = .ok (.iload_n 2, 1) := by decide +kernel
theorem dX11_sealOf_19 : decode cX11_sealOf 19 = .ok (.imul, 1) := by decide +kernel
theorem dX11_sealOf_20 : decode cX11_sealOf 20 = .ok (.aload_n 0, 1) := by decide +kernel
theorem dX11_sealOf_21 : decode cX11_sealOf 21 = .ok (.iload_n 3, 1) := by decide +kernel
theorem dX11_sealOf_22 : decode cX11_sealOf 22 = .ok (.iaload, 1) := by decide +kernel
theorem dX11_sealOf_23 : decode cX11_sealOf 23 = .ok (.iadd, 1) := by decide +kernel
theorem dX11_sealOf_24 : decode cX11_sealOf 24 = .ok (.sipush 251, 3) := by decide +kernel
theorem dX11_sealOf_27 : decode cX11_sealOf 27 = .ok (.irem, 1) := by decide +kernel
theorem dX11_sealOf_28 : decode cX11_sealOf 28 = .ok (.istore_n 2, 1) := by decide +kernel
theorem dX11_sealOf_29 : decode cX11_sealOf 29 = .ok (.iinc 3 1, 3) := by decide +kernel
theorem dX11_sealOf_32 : decode cX11_sealOf 32 = .ok (.goto (-26), 3) := by decide +kernel
theorem dX11_sealOf_35 : decode cX11_sealOf 35 = .ok (.iload_n 2, 1) := by decide +kernel
theorem dX11_sealOf_36 : decode cX11_sealOf 36 = .ok (.ireturn, 1) := by decide +kernel
theorem dX11_isImage_0 : decode cX11_isImage 0 = .ok (.iconst 5, 1) := by decide +kernel
theorem dX11_isImage_1 : decode cX11_isImage 1 = .ok (.iconst 4, 1) := by decide +kernel
theorem dX11_isImage_2 : decode cX11_isImage 2 = .ok (.aload_n 0, 1) := by decide +kernel
theorem dX11_isImage_3 : decode cX11_isImage 3 = .ok (.getfield 49, 3) := by decide +kernel
theorem dX11_isImage_6 : decode cX11_isImage 6 = .ok (.getfield 117, 3) := by decide +kernel
theorem dX11_isImage_9 : decode cX11_isImage 9 = .ok (.getfield 142, 3) := by decide +kernel
theorem dX11_isImage_12 : decode cX11_isImage 12 = .ok (.imul, 1) := by decide +kernel
theorem dX11_isImage_13 : decode cX11_isImage 13 = .ok (.iadd, 1) := by decide +kernel
theorem dX11_isImage_14 : decode cX11_isImage 14 = .ok (.istore_n 3, 1) := by decide +kernel
theorem dX11_isImage_15 : decode cX11_isImage 15 = .ok (.iload_n 2, 1) := by decide +kernel
theorem dX11_isImage_16 : decode cX11_isImage 16 = .ok (.iload_n 3, 1) := by decide +kernel
theorem dX11_isImage_17 : decode cX11_isImage 17 = .ok (.iconst 1, 1) := by decide +kernel
theorem dX11_isImage_18 : decode cX11_isImage 18 = .ok (.iadd, 1) := by decide +kernel
theorem dX11_isImage_19 : decode cX11_isImage 19 = .ok (.if_icmp .ne 20, 3) := by decide +kernel
theorem dX11_isImage_22 : decode cX11_isImage 22 = .ok (.iload_n 2, 1) := by decide +kernel
theorem dX11_isImage_23 : decode cX11_isImage 23 = .ok (.aload_n 1, 1) := by decide +kernel
theorem dX11_isImage_24 : decode cX11_isImage 24 = .ok (.arraylength, 1) := by decide +kernel
theorem dX11_isImage_25 : decode cX11_isImage 25 = .ok (.if_icmp .gt 14, 3) := by decide +kernel
theorem dX11_isImage_28 : decode cX11_isImage 28 = .ok (.aload_n 1, 1) := by decide +kernel
theorem dX11_isImage_29 : decode cX11_isImage 29 = .ok (.iload_n 3, 1) := by decide +kernel
theorem dX11_isImage_30 : decode cX11_isImage 30 = .ok (.iaload, 1) := by decide +kernel
theorem dX11_isImage_31 : decode cX11_isImage 31 = .ok (.aload_n 1, 1) := by decide +kernel
theorem dX11_isImage_32 : decode cX11_isImage 32 = .ok (.iload_n 3, 1) := by decide +kernel
theorem dX11_isImage_33 : decode cX11_isImage 33 = .ok (.invokestatic 367, 3) := by decide +kernel
theorem dX11_isImage_36 : decode cX11_isImage 36 = .ok (.if_icmp .eq 5, 3) := by decide +kernel
theorem dX11_isImage_39 : decode cX11_isImage 39 = .ok (.iconst 0, 1) := by decide +kernel
theorem dX11_isImage_40 : decode cX11_isImage 40 = .ok (.ireturn, 1) := by decide +kernel
theorem dX11_isImage_41 : decode cX11_isImage 41 = .ok (.aload_n 1, 1) := by decide +kernel
theorem dX11_isImage_42 : decode cX11_isImage 42 = .ok (.invokestatic 414, 3) := by decide +kernel
theorem dX11_isImage_45 : decode cX11_isImage 45 = .ok (.sipush 999, 3) := by decide +kernel
theorem dX11_isImage_48 : decode cX11_isImage 48 = .ok (.if_icmp .gt 13, 3) := by decide +kernel
theorem dX11_isImage_51 : decode cX11_isImage 51 = .ok (.aload_n 1, 1) := by decide +kernel
theorem dX11_isImage_52 : decode cX11_isImage 52 = .ok (.invokestatic 418, 3) := by decide +kernel
theorem dX11_isImage_55 : decode cX11_isImage 55 = .ok (.ldc_w 421, 3) := by decide +kernel
theorem dX11_isImage_58 : decode cX11_isImage 58 = .ok (.if_icmp .le 5, 3) := by decide +kernel
theorem dX11_isImage_61 : decode cX11_isImage 61 = .ok (.iconst 0, 1) := by decide +kernel
theorem dX11_isImage_62 : decode cX11_isImage 62 = .ok (.ireturn, 1) := by decide +kernel
theorem dX11_isImage_63 : decode cX11_isImage 63 = .ok (.iconst 0, 1) := by decide +kernel
theorem dX11_isImage_64 : decode cX11_isImage 64 = .ok (.istore 4, 2) := by decide +kernel
theorem dX11_isImage_66 : decode cX11_isImage 66 = .ok (.iconst 0, 1) := by decide +kernel
theorem dX11_isImage_67 : decode cX11_isImage 67 = .ok (.istore 5, 2) := by decide +kernel
theorem dX11_isImage_69 : decode cX11_isImage 69 = .ok (.iload 5, 2) := by decide +kernel
theorem dX11_isImage_71 : decode cX11_isImage 71 = .ok (.aload_n 0, 1) := by decide +kernel
theorem dX11_isImage_72 : decode cX11_isImage 72 = .ok (.getfield 49, 3) := by decide +kernel
theorem dX11_isImage_75 : decode cX11_isImage 75 = .ok (.getfield 117, 3) := by decide +kernel
theorem dX11_isImage_78 : decode cX11_isImage 78 = .ok (.getfield 142, 3) := by decide +kernel
theorem dX11_isImage_81 : decode cX11_isImage 81 = .ok (.if_icmp .ge 118, 3) := by decide +kernel
theorem dX11_isImage_84 : decode cX11_isImage 84 = .ok (.iconst 5, 1) := by decide +kernel
theorem dX11_isImage_85 : decode cX11_isImage 85 = .ok (.iconst 4, 1) := by decide +kernel
theorem dX11_isImage_86 : decode cX11_isImage 86 = .ok (.iload 5, 2) := by decide +kernel
theorem dX11_isImage_88 : decode cX11_isImage 88 = .ok (.imul, 1) := by decide +kernel
theorem dX11_isImage_89 : decode cX11_isImage 89 = .ok (.iadd, 1) := by decide +kernel
theorem dX11_isImage_90 : decode cX11_isImage 90 = .ok (.istore 6, 2) := by decide +kernel
theorem dX11_isImage_92 : decode cX11_isImage 92 = .ok (.aload_n 1, 1) := by decide +kernel
theorem dX11_isImage_93 : decode cX11_isImage 93 = .ok (.iload 6, 2) := by decide +kernel
theorem dX11_isImage_95 : decode cX11_isImage 95 = .ok (.iconst 3, 1) := by decide +kernel
theorem dX11_isImage_96 : decode cX11_isImage 96 = .ok (.iadd, 1) := by decide +kernel
theorem dX11_isImage_97 : decode cX11_isImage 97 = .ok (.iaload, 1) := by decide +kernel
theorem dX11_isImage_98 : decode cX11_isImage 98 = .ok (.istore 7, 2) := by decide +kernel
theorem dX11_isImage_100 : decode cX11_isImage 100 = .ok (.aload_n 0, 1) := by decide +kernel
theorem dX11_isImage_101 : decode cX11_isImage 101 = .ok (.getfield 49, 3) := by decide +kernel
theorem dX11_isImage_104 : decode cX11_isImage 104 = .ok (.getfield 117, 3) := by decide +kernel
theorem dX11_isImage_107 : decode cX11_isImage 107 = .ok (.aload_n 1, 1) := by decide +kernel
theorem dX11_isImage_108 : decode cX11_isImage 108 = .ok (.iload 6, 2) := by decide +kernel
theorem dX11_isImage_110 : decode cX11_isImage 110 = .ok (.iaload, 1) := by decide +kernel
theorem dX11_isImage_111 : decode cX11_isImage 111 = .ok (.invokevirtual 232, 3) := by decide +kernel
theorem dX11_isImage_114 : decode cX11_isImage 114 = .ok (.ifCond .eq 44, 3) := by decide +kernel
theorem dX11_isImage_117 : decode cX11_isImage 117 = .ok (.aload_n 1, 1) := by decide +kernel
theorem dX11_isImage_118 : decode cX11_isImage 118 = .ok (.iload 6, 2) := by decide +kernel
theorem dX11_isImage_120 : decode cX11_isImage 120 = .ok (.iconst 1, 1) := by decide +kernel
theorem dX11_isImage_121 : decode cX11_isImage 121 = .ok (.iadd, 1) := by decide +kernel
theorem dX11_isImage_122 : decode cX11_isImage 122 = .ok (.iaload, 1) := by decide +kernel
theorem dX11_isImage_123 : decode cX11_isImage 123 = .ok (.bipush 99, 2) := by decide +kernel
theorem dX11_isImage_125 : decode cX11_isImage 125 = .ok (.if_icmp .gt 33, 3) := by decide +kernel
theorem dX11_isImage_128 : decode cX11_isImage 128 = .ok (.aload_n 1, 1) := by decide +kernel
theorem dX11_isImage_129 : decode cX11_isImage 129 = .ok (.iload 6, 2) := by decide +kernel
theorem dX11_isImage_131 : decode cX11_isImage 131 = .ok (.iconst 2, 1) := by decide +kernel
theorem dX11_isImage_132 : decode cX11_isImage 132 = .ok (.iadd, 1) := by decide +kernel
theorem dX11_isImage_133 : decode cX11_isImage 133 = .ok (.iaload, 1) := by decide +kernel
theorem dX11_isImage_134 : decode cX11_isImage 134 = .ok (.bipush 99, 2) := by decide +kernel
theorem dX11_isImage_136 : decode cX11_isImage 136 = .ok (.if_icmp .gt 22, 3) := by decide +kernel
theorem dX11_isImage_139 : decode cX11_isImage 139 = .ok (.iload 7, 2) := by decide +kernel
theorem dX11_isImage_141 : decode cX11_isImage 141 = .ok (.aload_n 0, 1) := by decide +kernel
theorem dX11_isImage_142 : decode cX11_isImage 142 = .ok (.getfield 49, 3) := by decide +kernel
theorem dX11_isImage_145 : decode cX11_isImage 145 = .ok (.getfield 117, 3) := by decide +kernel
theorem dX11_isImage_148 : decode cX11_isImage 148 = .ok (.getfield 145, 3) := by decide +kernel
theorem dX11_isImage_151 : decode cX11_isImage 151 = .ok (.if_icmp .gt 7, 3) := by decide +kernel
theorem dX11_isImage_154 : decode cX11_isImage 154 = .ok (.iconst 1, 1) := by decide +kernel
theorem dX11_isImage_155 : decode cX11_isImage 155 = .ok (.goto 4, 3) := by decide +kernel
theorem dX11_isImage_158 : decode cX11_isImage 158 = .ok (.iconst 0, 1) := by decide +kernel
theorem dX11_isImage_159 : decode cX11_isImage 159 = .ok (.istore 8, 2) := by decide +kernel
theorem dX11_isImage_161 : decode cX11_isImage 161 = .ok (.iload 8, 2) := by decide +kernel
theorem dX11_isImage_163 : decode cX11_isImage 163 = .ok (.ifCond .eq 19, 3) := by decide +kernel
theorem dX11_isImage_166 : decode cX11_isImage 166 = .ok (.iload 7, 2) := by decide +kernel
theorem dX11_isImage_168 : decode cX11_isImage 168 = .ok (.ifCond .le 16, 3) := by decide +kernel
theorem dX11_isImage_171 : decode cX11_isImage 171 = .ok (.iload 4, 2) := by decide +kernel
theorem dX11_isImage_173 : decode cX11_isImage 173 = .ok (.iload 7, 2) := by decide +kernel
theorem dX11_isImage_175 : decode cX11_isImage 175 = .ok (.ishr, 1) := by decide +kernel
theorem dX11_isImage_176 : decode cX11_isImage 176 = .ok (.iconst 1, 1) := by decide +kernel
theorem dX11_isImage_177 : decode cX11_isImage 177 = .ok (.iand, 1) := by decide +kernel
theorem dX11_isImage_178 : decode cX11_isImage 178 = .ok (.iconst 1, 1) := by decide +kernel
theorem dX11_isImage_179 : decode cX11_isImage 179 = .ok (.if_icmp .ne 5, 3) := by decide +kernel
theorem dX11_isImage_182 : decode cX11_isImage 182 = .ok (.iconst 0, 1) := by decide +kernel
theorem dX11_isImage_183 : decode cX11_isImage 183 = .ok (.ireturn, 1) := by decide +kernel
theorem dX11_isImage_184 : decode cX11_isImage 184 = .ok (.iload 4, 2) := by decide +kernel
theorem dX11_isImage_186 : decode cX11_isImage 186 = .ok (.iconst 1, 1) := by decide +kernel
theorem dX11_isImage_187 : decode cX11_isImage 187 = .ok (.iload 7, 2) := by decide +kernel
theorem dX11_isImage_189 : decode cX11_isImage 189 = .ok (.ishl, 1) := by decide +kernel
theorem dX11_isImage_190 : decode cX11_isImage 190 = .ok (.ior, 1) := by decide +kernel
theorem dX11_isImage_191 : decode cX11_isImage 191 = .ok (.istore 4, 2) := by decide +kernel
theorem dX11_isImage_193 : decode cX11_isImage 193 = .ok (.iinc 5 1, 3) := by decide +kernel
theorem dX11_isImage_196 : decode cX11_isImage 196 = .ok (.goto (-127), 3) := by decide +kernel
theorem dX11_isImage_199 : decode cX11_isImage 199 = .ok (.iconst 1, 1) := by decide +kernel
theorem dX11_isImage_200 : decode cX11_isImage 200 = .ok (.ireturn, 1) := by decide +kernel
theorem dX11_inTrust_0 : decode cX11_inTrust 0 = .ok (.iconst 0, 1) := by decide +kernel
theorem dX11_inTrust_1 : decode cX11_inTrust 1 = .ok (.bipush 99, 2) := by decide +kernel
theorem dX11_inTrust_3 : decode cX11_inTrust 3 = .ok (.iload_n 0, 1) := by decide +kernel
theorem dX11_inTrust_4 : decode cX11_inTrust 4 = .ok (.invokestatic 325, 3) := by decide +kernel
theorem dX11_inTrust_7 : decode cX11_inTrust 7 = .ok (.invokestatic 422, 3) := by decide +kernel
theorem dX11_inTrust_10 : decode cX11_inTrust 10 = .ok (.ireturn, 1) := by decide +kernel
theorem dX12_init_0 : decode cX12_init 0 = .ok (.aload_n 0, 1) := by decide +kernel
theorem dX12_init_1 : decode cX12_init 1 = .ok (.invokespecial 1, 3) := by decide +kernel
theorem dX12_init_4 : decode cX12_init 4 = .ok (.aload_n 0, 1) := by decide +kernel
theorem dX12_init_5 : decode cX12_init 5 = .ok (.sipush 1600, 3) := by decide +kernel
theorem dX12_init_8 : decode cX12_init 8 = .ok (.newarray .int, 2) := by decide +kernel
theorem dX12_init_10 : decode cX12_init 10 = .ok (.putfield 7, 3) := by decide +kernel
theorem dX12_init_13 : decode cX12_init 13 = .ok (.aload_n 0, 1) := by decide +kernel
theorem dX12_init_14 : decode cX12_init 14 = .ok (.iconst (-1), 1) := by decide +kernel
theorem dX12_init_15 : decode cX12_init 15 = .ok (.putfield 13, 3) := by decide +kernel
theorem dX12_init_18 : decode cX12_init 18 = .ok (.aload_n 0, 1) := by decide +kernel
theorem dX12_init_19 : decode cX12_init 19 = .ok (.bipush 6, 2) := by decide +kernel
theorem dX12_init_21 : decode cX12_init 21 = .ok (.newarray .int, 2) := by decide +kernel
theorem dX12_init_23 : decode cX12_init 23 = .ok (.putfield 17, 3) := by decide +kernel
theorem dX12_init_26 : decode cX12_init 26 = .ok (.aload_n 0, 1) := by decide +kernel
theorem dX12_init_27 : decode cX12_init 27 = .ok (.iconst 4, 1) := by decide +kernel
theorem dX12_init_28 : decode cX12_init 28 = .ok (.newarray .char, 2) := by decide +kernel
theorem dX12_init_30 : decode cX12_init 30 = .ok (.dup, 1) := by decide +kernel
theorem dX12_init_31 : decode cX12_init 31 = .ok (.iconst 0, 1) := by decide +kernel
theorem dX12_init_32 : decode cX12_init 32 = .ok (.bipush 108, 2) := by decide +kernel
theorem dX12_init_34 : decode cX12_init 34 = .ok (.castore, 1) := by decide +kernel
theorem dX12_init_35 : decode cX12_init 35 = .ok (.dup, 1) := by decide +kernel
theorem dX12_init_36 : decode cX12_init 36 = .ok (.iconst 1, 1) := by decide +kernel
theorem dX12_init_37 : decode cX12_init 37 = .ok (.bipush 97, 2) := by decide +kernel
theorem dX12_init_39 : decode cX12_init 39 = .ok (.castore, 1) := by decide +kernel
theorem dX12_init_40 : decode cX12_init 40 = .ok (.dup, 1) := by decide +kernel
theorem dX12_init_41 : decode cX12_init 41 = .ok (.iconst 2, 1) := by decide +kernel
theorem dX12_init_42 : decode cX12_init 42 = .ok (.bipush 107, 2) := by decide +kernel
theorem dX12_init_44 : decode cX12_init 44 = .ok (.castore, 1) := by decide +kernel
theorem dX12_init_45 : decode cX12_init 45 = .ok (.dup, 1) := by decide +kernel
theorem dX12_init_46 : decode cX12_init 46 = .ok (.iconst 3, 1) := by decide +kernel
theorem dX12_init_47 : decode cX12_init 47 = .ok (.bipush 101, 2) := by decide +kernel
theorem dX12_init_49 : decode cX12_init 49 = .ok (.castore, 1) := by decide +kernel
theorem dX12_init_50 : decode cX12_init 50 = .ok (.putfield 20, 3) := by decide +kernel
theorem dX12_init_53 : decode cX12_init 53 = .ok (.aload_n 0, 1) := by decide +kernel
theorem dX12_init_54 : decode cX12_init 54 = .ok (.iconst 3, 1) := by decide +kernel
theorem dX12_init_55 : decode cX12_init 55 = .ok (.newarray .char, 2) := by decide +kernel
theorem dX12_init_57 : decode cX12_init 57 = .ok (.dup, 1) := by decide +kernel
theorem dX12_init_58 : decode cX12_init 58 = .ok (.iconst 0, 1) := by decide +kernel
theorem dX12_init_59 : decode cX12_init 59 = .ok (.bipush 114, 2) := by decide +kernel
theorem dX12_init_61 : decode cX12_init 61 = .ok (.castore, 1) := by decide +kernel
theorem dX12_init_62 : decode cX12_init 62 = .ok (.dup, 1) := by decide +kernel
theorem dX12_init_63 : decode cX12_init 63 = .ok (.iconst 1, 1) := by decide +kernel
theorem dX12_init_64 : decode cX12_init 64 = .ok (.bipush 111, 2) := by decide +kernel
theorem dX12_init_66 : decode cX12_init 66 = .ok (.castore, 1) := by decide +kernel
theorem dX12_init_67 : decode cX12_init 67 = .ok (.dup, 1) := by decide +kernel
theorem dX12_init_68 : decode cX12_init 68 = .ok (.iconst 2, 1) := by decide +kernel
theorem dX12_init_69 : decode cX12_init 69 = .ok (.bipush 119, 2) := by decide +kernel
theorem dX12_init_71 : decode cX12_init 71 = .ok (.castore, 1) := by decide +kernel
theorem dX12_init_72 : decode cX12_init 72 = .ok (.putfield 24, 3) := by decide +kernel
theorem dX12_init_75 : decode cX12_init 75 = .ok (.aload_n 0, 1) := by decide +kernel
theorem dX12_init_76 : decode cX12_init 76 = .ok (.iconst 4, 1) := by decide +kernel
theorem dX12_init_77 : decode cX12_init 77 = .ok (.newarray .char, 2) := by decide +kernel
theorem dX12_init_79 : decode cX12_init 79 = .ok (.dup, 1) := by decide +kernel
theorem dX12_init_80 : decode cX12_init 80 = .ok (.iconst 0, 1) := by decide +kernel
theorem dX12_init_81 : decode cX12_init 81 = .ok (.bipush 98, 2) := by decide +kernel
theorem dX12_init_83 : decode cX12_init 83 = .ok (.castore, 1) := by decide +kernel
theorem dX12_init_84 : decode cX12_init 84 = .ok (.dup, 1) := by decide +kernel
theorem dX12_init_85 : decode cX12_init 85 = .ok (.iconst 1, 1) := by decide +kernel
theorem dX12_init_86 : decode cX12_init 86 = .ok (.bipush 111, 2) := by decide +kernel
theorem dX12_init_88 : decode cX12_init 88 = .ok (.castore, 1) := by decide +kernel
theorem dX12_init_89 : decode cX12_init 89 = .ok (.dup, 1) := by decide +kernel
theorem dX12_init_90 : decode cX12_init 90 = .ok (.iconst 2, 1) := by decide +kernel
