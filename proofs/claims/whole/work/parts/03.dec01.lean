theorem dX3_readProduct_23 : decode cX3_readProduct 23 = .ok (.getfield 44, 3) := by decide +kernel
theorem dX3_readProduct_26 : decode cX3_readProduct 26 = .ok (.bipush 42, 2) := by decide +kernel
theorem dX3_readProduct_28 : decode cX3_readProduct 28 = .ok (.if_icmp .eq 15, 3) := by decide +kernel
theorem dX3_readProduct_31 : decode cX3_readProduct 31 = .ok (.aload_n 0, 1) := by decide +kernel
theorem dX3_readProduct_32 : decode cX3_readProduct 32 = .ok (.getfield 11, 3) := by decide +kernel
theorem dX3_readProduct_35 : decode cX3_readProduct 35 = .ok (.getfield 44, 3) := by decide +kernel
theorem dX3_readProduct_38 : decode cX3_readProduct 38 = .ok (.bipush 47, 2) := by decide +kernel
theorem dX3_readProduct_40 : decode cX3_readProduct 40 = .ok (.if_icmp .ne 37, 3) := by decide +kernel
theorem dX3_readProduct_43 : decode cX3_readProduct 43 = .ok (.aload_n 0, 1) := by decide +kernel
theorem dX3_readProduct_44 : decode cX3_readProduct 44 = .ok (.getfield 11, 3) := by decide +kernel
theorem dX3_readProduct_47 : decode cX3_readProduct 47 = .ok (.getfield 44, 3) := by decide +kernel
theorem dX3_readProduct_50 : decode cX3_readProduct 50 = .ok (.istore 4, 2) := by decide +kernel
theorem dX3_readProduct_52 : decode cX3_readProduct 52 = .ok (.aload_n 0, 1) := by decide +kernel
theorem dX3_readProduct_53 : decode cX3_readProduct 53 = .ok (.getfield 11, 3) := by decide +kernel
theorem dX3_readProduct_56 : decode cX3_readProduct 56 = .ok (.invokevirtual 23, 3) := by decide +kernel
theorem dX3_readProduct_59 : decode cX3_readProduct 59 = .ok (.aload_n 0, 1) := by decide +kernel
theorem dX3_readProduct_60 : decode cX3_readProduct 60 = .ok (.iload_n 1, 1) := by decide +kernel
theorem dX3_readProduct_61 : decode cX3_readProduct 61 = .ok (.invokevirtual 86, 3) := by decide +kernel
theorem dX3_readProduct_64 : decode cX3_readProduct 64 = .ok (.istore_n 2, 1) := by decide +kernel
theorem dX3_readProduct_65 : decode cX3_readProduct 65 = .ok (.aload_n 0, 1) := by decide +kernel
theorem dX3_readProduct_66 : decode cX3_readProduct 66 = .ok (.iload 4, 2) := by decide +kernel
theorem dX3_readProduct_68 : decode cX3_readProduct 68 = .ok (.invokevirtual 68, 3) := by decide +kernel
theorem dX3_readProduct_71 : decode cX3_readProduct 71 = .ok (.iinc 3 1, 3) := by decide +kernel
theorem dX3_readProduct_74 : decode cX3_readProduct 74 = .ok (.goto (-66), 3) := by decide +kernel
theorem dX3_readProduct_77 : decode cX3_readProduct 77 = .ok (.iload_n 2, 1) := by decide +kernel
theorem dX3_readProduct_78 : decode cX3_readProduct 78 = .ok (.ireturn, 1) := by decide +kernel
theorem dX3_readPart_0 : decode cX3_readPart 0 = .ok (.aload_n 0, 1) := by decide +kernel
theorem dX3_readPart_1 : decode cX3_readPart 1 = .ok (.getfield 11, 3) := by decide +kernel
theorem dX3_readPart_4 : decode cX3_readPart 4 = .ok (.getfield 44, 3) := by decide +kernel
theorem dX3_readPart_7 : decode cX3_readPart 7 = .ok (.bipush (-3), 2) := by decide +kernel
theorem dX3_readPart_9 : decode cX3_readPart 9 = .ok (.if_icmp .ne 31, 3) := by decide +kernel
theorem dX3_readPart_12 : decode cX3_readPart 12 = .ok (.aload_n 0, 1) := by decide +kernel
theorem dX3_readPart_13 : decode cX3_readPart 13 = .ok (.getfield 11, 3) := by decide +kernel
theorem dX3_readPart_16 : decode cX3_readPart 16 = .ok (.iconst 0, 1) := by decide +kernel
theorem dX3_readPart_17 : decode cX3_readPart 17 = .ok (.sipush 9999, 3) := by decide +kernel
theorem dX3_readPart_20 : decode cX3_readPart 20 = .ok (.invokevirtual 89, 3) := by decide +kernel
theorem dX3_readPart_23 : decode cX3_readPart 23 = .ok (.istore_n 2, 1) := by decide +kernel
theorem dX3_readPart_24 : decode cX3_readPart 24 = .ok (.aload_n 0, 1) := by decide +kernel
theorem dX3_readPart_25 : decode cX3_readPart 25 = .ok (.iload_n 2, 1) := by decide +kernel
theorem dX3_readPart_26 : decode cX3_readPart 26 = .ok (.invokevirtual 77, 3) := by decide +kernel
theorem dX3_readPart_29 : decode cX3_readPart 29 = .ok (.iload_n 2, 1) := by decide +kernel
theorem dX3_readPart_30 : decode cX3_readPart 30 = .ok (.iconst (-1), 1) := by decide +kernel
theorem dX3_readPart_31 : decode cX3_readPart 31 = .ok (.if_icmp .eq 7, 3) := by decide +kernel
theorem dX3_readPart_34 : decode cX3_readPart 34 = .ok (.iconst 1, 1) := by decide +kernel
theorem dX3_readPart_35 : decode cX3_readPart 35 = .ok (.goto 4, 3) := by decide +kernel
theorem dX3_readPart_38 : decode cX3_readPart 38 = .ok (.iconst 0, 1) := by decide +kernel
theorem dX3_readPart_39 : decode cX3_readPart 39 = .ok (.ireturn, 1) := by decide +kernel
theorem dX3_readPart_40 : decode cX3_readPart 40 = .ok (.aload_n 0, 1) := by decide +kernel
theorem dX3_readPart_41 : decode cX3_readPart 41 = .ok (.getfield 11, 3) := by decide +kernel
theorem dX3_readPart_44 : decode cX3_readPart 44 = .ok (.getfield 44, 3) := by decide +kernel
theorem dX3_readPart_47 : decode cX3_readPart 47 = .ok (.bipush 40, 2) := by decide +kernel
theorem dX3_readPart_49 : decode cX3_readPart 49 = .ok (.if_icmp .ne 39, 3) := by decide +kernel
theorem dX3_readPart_52 : decode cX3_readPart 52 = .ok (.aload_n 0, 1) := by decide +kernel
theorem dX3_readPart_53 : decode cX3_readPart 53 = .ok (.iload_n 1, 1) := by decide +kernel
theorem dX3_readPart_54 : decode cX3_readPart 54 = .ok (.invokevirtual 74, 3) := by decide +kernel
theorem dX3_readPart_57 : decode cX3_readPart 57 = .ok (.ifCond .eq 29, 3) := by decide +kernel
theorem dX3_readPart_60 : decode cX3_readPart 60 = .ok (.aload_n 0, 1) := by decide +kernel
theorem dX3_readPart_61 : decode cX3_readPart 61 = .ok (.iload_n 1, 1) := by decide +kernel
theorem dX3_readPart_62 : decode cX3_readPart 62 = .ok (.iconst 1, 1) := by decide +kernel
theorem dX3_readPart_63 : decode cX3_readPart 63 = .ok (.iadd, 1) := by decide +kernel
theorem dX3_readPart_64 : decode cX3_readPart 64 = .ok (.invokevirtual 34, 3) := by decide +kernel
theorem dX3_readPart_67 : decode cX3_readPart 67 = .ok (.ifCond .eq 19, 3) := by decide +kernel
theorem dX3_readPart_70 : decode cX3_readPart 70 = .ok (.aload_n 0, 1) := by decide +kernel
theorem dX3_readPart_71 : decode cX3_readPart 71 = .ok (.getfield 11, 3) := by decide +kernel
theorem dX3_readPart_74 : decode cX3_readPart 74 = .ok (.bipush 41, 2) := by decide +kernel
theorem dX3_readPart_76 : decode cX3_readPart 76 = .ok (.invokevirtual 59, 3) := by decide +kernel
theorem dX3_readPart_79 : decode cX3_readPart 79 = .ok (.ifCond .eq 7, 3) := by decide +kernel
theorem dX3_readPart_82 : decode cX3_readPart 82 = .ok (.iconst 1, 1) := by decide +kernel
theorem dX3_readPart_83 : decode cX3_readPart 83 = .ok (.goto 4, 3) := by decide +kernel
theorem dX3_readPart_86 : decode cX3_readPart 86 = .ok (.iconst 0, 1) := by decide +kernel
theorem dX3_readPart_87 : decode cX3_readPart 87 = .ok (.ireturn, 1) := by decide +kernel
theorem dX3_readPart_88 : decode cX3_readPart 88 = .ok (.aload_n 0, 1) := by decide +kernel
theorem dX3_readPart_89 : decode cX3_readPart 89 = .ok (.getfield 11, 3) := by decide +kernel
theorem dX3_readPart_92 : decode cX3_readPart 92 = .ok (.getfield 44, 3) := by decide +kernel
theorem dX3_readPart_95 : decode cX3_readPart 95 = .ok (.bipush (-2), 2) := by decide +kernel
theorem dX3_readPart_97 : decode cX3_readPart 97 = .ok (.if_icmp .eq 12, 3) := by decide +kernel
theorem dX3_readPart_100 : decode cX3_readPart 100 = .ok (.aload_n 0, 1) := by decide +kernel
theorem dX3_readPart_101 : decode cX3_readPart 101 = .ok (.getfield 11, 3) := by decide +kernel
theorem dX3_readPart_104 : decode cX3_readPart 104 = .ok (.iconst 1, 1) := by decide +kernel
theorem dX3_readPart_105 : decode cX3_readPart 105 = .ok (.invokevirtual 51, 3) := by decide +kernel
theorem dX3_readPart_108 : decode cX3_readPart 108 = .ok (.ireturn, 1) := by decide +kernel
theorem dX3_readPart_109 : decode cX3_readPart 109 = .ok (.aload_n 0, 1) := by decide +kernel
theorem dX3_readPart_110 : decode cX3_readPart 110 = .ok (.getfield 11, 3) := by decide +kernel
theorem dX3_readPart_113 : decode cX3_readPart 113 = .ok (.getfield 48, 3) := by decide +kernel
theorem dX3_readPart_116 : decode cX3_readPart 116 = .ok (.bipush 32, 2) := by decide +kernel
theorem dX3_readPart_118 : decode cX3_readPart 118 = .ok (.if_icmp .eq 15, 3) := by decide +kernel
theorem dX3_readPart_121 : decode cX3_readPart 121 = .ok (.aload_n 0, 1) := by decide +kernel
theorem dX3_readPart_122 : decode cX3_readPart 122 = .ok (.getfield 11, 3) := by decide +kernel
theorem dX3_readPart_125 : decode cX3_readPart 125 = .ok (.getfield 48, 3) := by decide +kernel
theorem dX3_readPart_128 : decode cX3_readPart 128 = .ok (.bipush 33, 2) := by decide +kernel
theorem dX3_readPart_130 : decode cX3_readPart 130 = .ok (.if_icmp .ne 9, 3) := by decide +kernel
theorem dX3_readPart_133 : decode cX3_readPart 133 = .ok (.aload_n 0, 1) := by decide +kernel
theorem dX3_readPart_134 : decode cX3_readPart 134 = .ok (.iload_n 1, 1) := by decide +kernel
theorem dX3_readPart_135 : decode cX3_readPart 135 = .ok (.invokevirtual 93, 3) := by decide +kernel
theorem dX3_readPart_138 : decode cX3_readPart 138 = .ok (.ireturn, 1) := by decide +kernel
theorem dX3_readPart_139 : decode cX3_readPart 139 = .ok (.aload_n 0, 1) := by decide +kernel
theorem dX3_readPart_140 : decode cX3_readPart 140 = .ok (.iload_n 1, 1) := by decide +kernel
theorem dX3_readPart_141 : decode cX3_readPart 141 = .ok (.invokevirtual 96, 3) := by decide +kernel
theorem dX3_readPart_144 : decode cX3_readPart 144 = .ok (.ireturn, 1) := by decide +kernel
theorem dX3_readPair_0 : decode cX3_readPair 0 = .ok (.aload_n 0, 1) := by decide +kernel
theorem dX3_readPair_1 : decode cX3_readPair 1 = .ok (.getfield 11, 3) := by decide +kernel
theorem dX3_readPair_4 : decode cX3_readPair 4 = .ok (.getfield 48, 3) := by decide +kernel
theorem dX3_readPair_7 : decode cX3_readPair 7 = .ok (.istore_n 2, 1) := by decide +kernel
theorem dX3_readPair_8 : decode cX3_readPair 8 = .ok (.aload_n 0, 1) := by decide +kernel
theorem dX3_readPair_9 : decode cX3_readPair 9 = .ok (.getfield 11, 3) := by decide +kernel
theorem dX3_readPair_12 : decode cX3_readPair 12 = .ok (.invokevirtual 23, 3) := by decide +kernel
theorem dX3_readPair_15 : decode cX3_readPair 15 = .ok (.aload_n 0, 1) := by decide +kernel
theorem dX3_readPair_16 : decode cX3_readPair 16 = .ok (.getfield 11, 3) := by decide +kernel
theorem dX3_readPair_19 : decode cX3_readPair 19 = .ok (.getfield 44, 3) := by decide +kernel
theorem dX3_readPair_22 : decode cX3_readPair 22 = .ok (.bipush 40, 2) := by decide +kernel
theorem dX3_readPair_24 : decode cX3_readPair 24 = .ok (.if_icmp .eq 12, 3) := by decide +kernel
theorem dX3_readPair_27 : decode cX3_readPair 27 = .ok (.aload_n 0, 1) := by decide +kernel
theorem dX3_readPair_28 : decode cX3_readPair 28 = .ok (.getfield 11, 3) := by decide +kernel
theorem dX3_readPair_31 : decode cX3_readPair 31 = .ok (.iconst 1, 1) := by decide +kernel
theorem dX3_readPair_32 : decode cX3_readPair 32 = .ok (.invokevirtual 51, 3) := by decide +kernel
theorem dX3_readPair_35 : decode cX3_readPair 35 = .ok (.ireturn, 1) := by decide +kernel
theorem dX3_readPair_36 : decode cX3_readPair 36 = .ok (.aload_n 0, 1) := by decide +kernel
theorem dX3_readPair_37 : decode cX3_readPair 37 = .ok (.iload_n 1, 1) := by decide +kernel
theorem dX3_readPair_38 : decode cX3_readPair 38 = .ok (.invokevirtual 74, 3) := by decide +kernel
theorem dX3_readPair_41 : decode cX3_readPair 41 = .ok (.ifCond .eq 51, 3) := by decide +kernel
theorem dX3_readPair_44 : decode cX3_readPair 44 = .ok (.aload_n 0, 1) := by decide +kernel
theorem dX3_readPair_45 : decode cX3_readPair 45 = .ok (.iload_n 1, 1) := by decide +kernel
theorem dX3_readPair_46 : decode cX3_readPair 46 = .ok (.iconst 1, 1) := by decide +kernel
theorem dX3_readPair_47 : decode cX3_readPair 47 = .ok (.iadd, 1) := by decide +kernel
theorem dX3_readPair_48 : decode cX3_readPair 48 = .ok (.invokevirtual 34, 3) := by decide +kernel
theorem dX3_readPair_51 : decode cX3_readPair 51 = .ok (.ifCond .eq 41, 3) := by decide +kernel
theorem dX3_readPair_54 : decode cX3_readPair 54 = .ok (.aload_n 0, 1) := by decide +kernel
theorem dX3_readPair_55 : decode cX3_readPair 55 = .ok (.getfield 11, 3) := by decide +kernel
theorem dX3_readPair_58 : decode cX3_readPair 58 = .ok (.bipush 44, 2) := by decide +kernel
theorem dX3_readPair_60 : decode cX3_readPair 60 = .ok (.invokevirtual 59, 3) := by decide +kernel
theorem dX3_readPair_63 : decode cX3_readPair 63 = .ok (.ifCond .eq 29, 3) := by decide +kernel
theorem dX3_readPair_66 : decode cX3_readPair 66 = .ok (.aload_n 0, 1) := by decide +kernel
theorem dX3_readPair_67 : decode cX3_readPair 67 = .ok (.iload_n 1, 1) := by decide +kernel
theorem dX3_readPair_68 : decode cX3_readPair 68 = .ok (.iconst 1, 1) := by decide +kernel
theorem dX3_readPair_69 : decode cX3_readPair 69 = .ok (.iadd, 1) := by decide +kernel
theorem dX3_readPair_70 : decode cX3_readPair 70 = .ok (.invokevirtual 34, 3) := by decide +kernel
theorem dX3_readPair_73 : decode cX3_readPair 73 = .ok (.ifCond .eq 19, 3) := by decide +kernel
theorem dX3_readPair_76 : decode cX3_readPair 76 = .ok (.aload_n 0, 1) := by decide +kernel
theorem dX3_readPair_77 : decode cX3_readPair 77 = .ok (.getfield 11, 3) := by decide +kernel
theorem dX3_readPair_80 : decode cX3_readPair 80 = .ok (.bipush 41, 2) := by decide +kernel
theorem dX3_readPair_82 : decode cX3_readPair 82 = .ok (.invokevirtual 59, 3) := by decide +kernel
theorem dX3_readPair_85 : decode cX3_readPair 85 = .ok (.ifCond .eq 7, 3) := by decide +kernel
theorem dX3_readPair_88 : decode cX3_readPair 88 = .ok (.iconst 1, 1) := by decide +kernel
theorem dX3_readPair_89 : decode cX3_readPair 89 = .ok (.goto 4, 3) := by decide +kernel
theorem dX3_readPair_92 : decode cX3_readPair 92 = .ok (.iconst 0, 1) := by decide +kernel
theorem dX3_readPair_93 : decode cX3_readPair 93 = .ok (.istore_n 3, 1) := by decide +kernel
theorem dX3_readPair_94 : decode cX3_readPair 94 = .ok (.aload_n 0, 1) := by decide +kernel
theorem dX3_readPair_95 : decode cX3_readPair 95 = .ok (.iload_n 2, 1) := by decide +kernel
theorem dX3_readPair_96 : decode cX3_readPair 96 = .ok (.invokevirtual 68, 3) := by decide +kernel
theorem dX3_readPair_99 : decode cX3_readPair 99 = .ok (.iload_n 3, 1) := by decide +kernel
theorem dX3_readPair_100 : decode cX3_readPair 100 = .ok (.ireturn, 1) := by decide +kernel
theorem dX3_readWord_0 : decode cX3_readWord 0 = .ok (.aload_n 0, 1) := by decide +kernel
theorem dX3_readWord_1 : decode cX3_readWord 1 = .ok (.getfield 11, 3) := by decide +kernel
theorem dX3_readWord_4 : decode cX3_readWord 4 = .ok (.getfield 48, 3) := by decide +kernel
theorem dX3_readWord_7 : decode cX3_readWord 7 = .ok (.istore_n 2, 1) := by decide +kernel
theorem dX3_readWord_8 : decode cX3_readWord 8 = .ok (.iload_n 2, 1) := by decide +kernel
theorem dX3_readWord_9 : decode cX3_readWord 9 = .ok (.ifCond .lt 22, 3) := by decide +kernel
theorem dX3_readWord_12 : decode cX3_readWord 12 = .ok (.iload_n 2, 1) := by decide +kernel
theorem dX3_readWord_13 : decode cX3_readWord 13 = .ok (.bipush 40, 2) := by decide +kernel
theorem dX3_readWord_15 : decode cX3_readWord 15 = .ok (.if_icmp .ge 16, 3) := by decide +kernel
theorem dX3_readWord_18 : decode cX3_readWord 18 = .ok (.aload_n 0, 1) := by decide +kernel
theorem dX3_readWord_19 : decode cX3_readWord 19 = .ok (.getfield 19, 3) := by decide +kernel
theorem dX3_readWord_22 : decode cX3_readWord 22 = .ok (.iload_n 2, 1) := by decide +kernel
theorem dX3_readWord_23 : decode cX3_readWord 23 = .ok (.lshr, 1) := by decide +kernel
theorem dX3_readWord_24 : decode cX3_readWord 24 = .ok (.lconst 1, 1) := by decide +kernel
theorem dX3_readWord_25 : decode cX3_readWord 25 = .ok (.land, 1) := by decide +kernel
theorem dX3_readWord_26 : decode cX3_readWord 26 = .ok (.lconst 0, 1) := by decide +kernel
theorem dX3_readWord_27 : decode cX3_readWord 27 = .ok (.lcmp, 1) := by decide +kernel
theorem dX3_readWord_28 : decode cX3_readWord 28 = .ok (.ifCond .ne 12, 3) := by decide +kernel
theorem dX3_readWord_31 : decode cX3_readWord 31 = .ok (.aload_n 0, 1) := by decide +kernel
theorem dX3_readWord_32 : decode cX3_readWord 32 = .ok (.getfield 11, 3) := by decide +kernel
theorem dX3_readWord_35 : decode cX3_readWord 35 = .ok (.iconst 1, 1) := by decide +kernel
theorem dX3_readWord_36 : decode cX3_readWord 36 = .ok (.invokevirtual 51, 3) := by decide +kernel
theorem dX3_readWord_39 : decode cX3_readWord 39 = .ok (.ireturn, 1) := by decide +kernel
theorem dX3_readWord_40 : decode cX3_readWord 40 = .ok (.iload_n 2, 1) := by decide +kernel
theorem dX3_readWord_41 : decode cX3_readWord 41 = .ok (.bipush 27, 2) := by decide +kernel
theorem dX3_readWord_43 : decode cX3_readWord 43 = .ok (.if_icmp .ne 35, 3) := by decide +kernel
theorem dX3_readWord_46 : decode cX3_readWord 46 = .ok (.aload_n 0, 1) := by decide +kernel
theorem dX3_readWord_47 : decode cX3_readWord 47 = .ok (.iload_n 1, 1) := by decide +kernel
theorem dX3_readWord_48 : decode cX3_readWord 48 = .ok (.invokevirtual 74, 3) := by decide +kernel
theorem dX3_readWord_51 : decode cX3_readWord 51 = .ok (.ifCond .eq 17, 3) := by decide +kernel
theorem dX3_readWord_54 : decode cX3_readWord 54 = .ok (.aload_n 0, 1) := by decide +kernel
theorem dX3_readWord_55 : decode cX3_readWord 55 = .ok (.iload_n 1, 1) := by decide +kernel
theorem dX3_readWord_56 : decode cX3_readWord 56 = .ok (.iconst 1, 1) := by decide +kernel
theorem dX3_readWord_57 : decode cX3_readWord 57 = .ok (.iadd, 1) := by decide +kernel
theorem dX3_readWord_58 : decode cX3_readWord 58 = .ok (.invokevirtual 86, 3) := by decide +kernel
theorem dX3_readWord_61 : decode cX3_readWord 61 = .ok (.ifCond .eq 7, 3) := by decide +kernel
theorem dX3_readWord_64 : decode cX3_readWord 64 = .ok (.iconst 1, 1) := by decide +kernel
theorem dX3_readWord_65 : decode cX3_readWord 65 = .ok (.goto 4, 3) := by decide +kernel
theorem dX3_readWord_68 : decode cX3_readWord 68 = .ok (.iconst 0, 1) := by decide +kernel
theorem dX3_readWord_69 : decode cX3_readWord 69 = .ok (.istore_n 3, 1) := by decide +kernel
theorem dX3_readWord_70 : decode cX3_readWord 70 = .ok (.aload_n 0, 1) := by decide +kernel
theorem dX3_readWord_71 : decode cX3_readWord 71 = .ok (.bipush 27, 2) := by decide +kernel
theorem dX3_readWord_73 : decode cX3_readWord 73 = .ok (.invokevirtual 68, 3) := by decide +kernel
theorem dX3_readWord_76 : decode cX3_readWord 76 = .ok (.iload_n 3, 1) := by decide +kernel
theorem dX3_readWord_77 : decode cX3_readWord 77 = .ok (.ireturn, 1) := by decide +kernel
theorem dX3_readWord_78 : decode cX3_readWord 78 = .ok (.aload_n 0, 1) := by decide +kernel
theorem dX3_readWord_79 : decode cX3_readWord 79 = .ok (.iload_n 2, 1) := by decide +kernel
theorem dX3_readWord_80 : decode cX3_readWord 80 = .ok (.invokevirtual 68, 3) := by decide +kernel
theorem dX3_readWord_83 : decode cX3_readWord 83 = .ok (.aload_n 0, 1) := by decide +kernel
theorem dX3_readWord_84 : decode cX3_readWord 84 = .ok (.getfield 11, 3) := by decide +kernel
theorem dX3_readWord_87 : decode cX3_readWord 87 = .ok (.invokevirtual 23, 3) := by decide +kernel
theorem dX3_readWord_90 : decode cX3_readWord 90 = .ok (.iconst 1, 1) := by decide +kernel
theorem dX3_readWord_91 : decode cX3_readWord 91 = .ok (.ireturn, 1) := by decide +kernel
theorem dX3_openOne_0 : decode cX3_openOne 0 = .ok (.iload_n 1, 1) := by decide +kernel
theorem dX3_openOne_1 : decode cX3_openOne 1 = .ok (.bipush 6, 2) := by decide +kernel
theorem dX3_openOne_3 : decode cX3_openOne 3 = .ok (.if_icmp .lt 12, 3) := by decide +kernel
theorem dX3_openOne_6 : decode cX3_openOne 6 = .ok (.aload_n 0, 1) := by decide +kernel
theorem dX3_openOne_7 : decode cX3_openOne 7 = .ok (.getfield 11, 3) := by decide +kernel
theorem dX3_openOne_10 : decode cX3_openOne 10 = .ok (.iconst 4, 1) := by decide +kernel
theorem dX3_openOne_11 : decode cX3_openOne 11 = .ok (.invokevirtual 51, 3) := by decide +kernel
theorem dX3_openOne_14 : decode cX3_openOne 14 = .ok (.ireturn, 1) := by decide +kernel
theorem dX3_openOne_15 : decode cX3_openOne 15 = .ok (.aload_n 0, 1) := by decide +kernel
theorem dX3_openOne_16 : decode cX3_openOne 16 = .ok (.getfield 11, 3) := by decide +kernel
theorem dX3_openOne_19 : decode cX3_openOne 19 = .ok (.invokevirtual 23, 3) := by decide +kernel
theorem dX3_openOne_22 : decode cX3_openOne 22 = .ok (.iconst 1, 1) := by decide +kernel
theorem dX3_openOne_23 : decode cX3_openOne 23 = .ok (.ireturn, 1) := by decide +kernel
theorem dX3_put_0 : decode cX3_put 0 = .ok (.aload_n 0, 1) := by decide +kernel
theorem dX3_put_1 : decode cX3_put 1 = .ok (.iload_n 1, 1) := by decide +kernel
theorem dX3_put_2 : decode cX3_put 2 = .ok (.iconst (-1), 1) := by decide +kernel
theorem dX3_put_3 : decode cX3_put 3 = .ok (.ixor, 1) := by decide +kernel
theorem dX3_put_4 : decode cX3_put 4 = .ok (.invokevirtual 77, 3) := by decide +kernel
theorem dX3_put_7 : decode cX3_put 7 = .ok (.return_, 1) := by decide +kernel
theorem dX3_putNumber_0 : decode cX3_putNumber 0 = .ok (.aload_n 0, 1) := by decide +kernel
theorem dX3_putNumber_1 : decode cX3_putNumber 1 = .ok (.getfield 15, 3) := by decide +kernel
theorem dX3_putNumber_4 : decode cX3_putNumber 4 = .ok (.ifnull 11, 3) := by decide +kernel
theorem dX3_putNumber_7 : decode cX3_putNumber 7 = .ok (.aload_n 0, 1) := by decide +kernel
theorem dX3_putNumber_8 : decode cX3_putNumber 8 = .ok (.getfield 15, 3) := by decide +kernel
theorem dX3_putNumber_11 : decode cX3_putNumber 11 = .ok (.iload_n 1, 1) := by decide +kernel
theorem dX3_putNumber_12 : decode cX3_putNumber 12 = .ok (.invokevirtual 99, 3) := by decide +kernel
theorem dX3_putNumber_15 : decode cX3_putNumber 15 = .ok (.return_, 1) := by decide +kernel
theorem dX4_init_0 : decode cX4_init 0 = .ok (.aload_n 0, 1) := by decide +kernel
theorem dX4_init_1 : decode cX4_init 1 = .ok (.invokespecial 3, 3) := by decide +kernel
theorem dX4_init_4 : decode cX4_init 4 = .ok (.aload_n 0, 1) := by decide +kernel
theorem dX4_init_5 : decode cX4_init 5 = .ok (.bipush 48, 2) := by decide +kernel
theorem dX4_init_7 : decode cX4_init 7 = .ok (.newarray .int, 2) := by decide +kernel
theorem dX4_init_9 : decode cX4_init 9 = .ok (.putfield 9, 3) := by decide +kernel
theorem dX4_init_12 : decode cX4_init 12 = .ok (.aload_n 0, 1) := by decide +kernel
theorem dX4_init_13 : decode cX4_init 13 = .ok (.bipush 48, 2) := by decide +kernel
theorem dX4_init_15 : decode cX4_init 15 = .ok (.newarray .int, 2) := by decide +kernel
theorem dX4_init_17 : decode cX4_init 17 = .ok (.putfield 15, 3) := by decide +kernel
theorem dX4_init_20 : decode cX4_init 20 = .ok (.aload_n 0, 1) := by decide +kernel
theorem dX4_init_21 : decode cX4_init 21 = .ok (.bipush 6, 2) := by decide +kernel
theorem dX4_init_23 : decode cX4_init 23 = .ok (.newarray .int, 2) := by decide +kernel
theorem dX4_init_25 : decode cX4_init 25 = .ok (.putfield 18, 3) := by decide +kernel
theorem dX4_init_28 : decode cX4_init 28 = .ok (.aload_n 0, 1) := by decide +kernel
theorem dX4_init_29 : decode cX4_init 29 = .ok (.bipush 6, 2) := by decide +kernel
theorem dX4_init_31 : decode cX4_init 31 = .ok (.newarray .int, 2) := by decide +kernel
theorem dX4_init_33 : decode cX4_init 33 = .ok (.putfield 21, 3) := by decide +kernel
theorem dX4_init_36 : decode cX4_init 36 = .ok (.aload_n 0, 1) := by decide +kernel
theorem dX4_init_37 : decode cX4_init 37 = .ok (.bipush 6, 2) := by decide +kernel
theorem dX4_init_39 : decode cX4_init 39 = .ok (.newarray .int, 2) := by decide +kernel
theorem dX4_init_41 : decode cX4_init 41 = .ok (.putfield 24, 3) := by decide +kernel
theorem dX4_init_44 : decode cX4_init 44 = .ok (.aload_n 0, 1) := by decide +kernel
theorem dX4_init_45 : decode cX4_init 45 = .ok (.bipush 6, 2) := by decide +kernel
theorem dX4_init_47 : decode cX4_init 47 = .ok (.newarray .int, 2) := by decide +kernel
theorem dX4_init_49 : decode cX4_init 49 = .ok (.putfield 27, 3) := by decide +kernel
theorem dX4_init_52 : decode cX4_init 52 = .ok (.aload_n 0, 1) := by decide +kernel
theorem dX4_init_53 : decode cX4_init 53 = .ok (.bipush 6, 2) := by decide +kernel
theorem dX4_init_55 : decode cX4_init 55 = .ok (.newarray .int, 2) := by decide +kernel
theorem dX4_init_57 : decode cX4_init 57 = .ok (.putfield 30, 3) := by decide +kernel
theorem dX4_init_60 : decode cX4_init 60 = .ok (.aload_n 0, 1) := by decide +kernel
theorem dX4_init_61 : decode cX4_init 61 = .ok (.bipush 36, 2) := by decide +kernel
theorem dX4_init_63 : decode cX4_init 63 = .ok (.newarray .int, 2) := by decide +kernel
theorem dX4_init_65 : decode cX4_init 65 = .ok (.putfield 33, 3) := by decide +kernel
theorem dX4_init_68 : decode cX4_init 68 = .ok (.aload_n 0, 1) := by decide +kernel
theorem dX4_init_69 : decode cX4_init 69 = .ok (.bipush 10, 2) := by decide +kernel
theorem dX4_init_71 : decode cX4_init 71 = .ok (.newarray .int, 2) := by decide +kernel
theorem dX4_init_73 : decode cX4_init 73 = .ok (.putfield 36, 3) := by decide +kernel
theorem dX4_init_76 : decode cX4_init 76 = .ok (.aload_n 0, 1) := by decide +kernel
theorem dX4_init_77 : decode cX4_init 77 = .ok (.bipush 10, 2) := by decide +kernel
theorem dX4_init_79 : decode cX4_init 79 = .ok (.newarray .int, 2) := by decide +kernel
theorem dX4_init_81 : decode cX4_init 81 = .ok (.putfield 39, 3) := by decide +kernel
theorem dX4_init_84 : decode cX4_init 84 = .ok (.aload_n 0, 1) := by decide +kernel
theorem dX4_init_85 : decode cX4_init 85 = .ok (.new 42, 3) := by decide +kernel
theorem dX4_init_88 : decode cX4_init 88 = .ok (.dup, 1) := by decide +kernel
theorem dX4_init_89 : decode cX4_init 89 = .ok (.invokespecial 44, 3) := by decide +kernel
theorem dX4_init_92 : decode cX4_init 92 = .ok (.putfield 45, 3) := by decide +kernel
theorem dX4_init_95 : decode cX4_init 95 = .ok (.aload_n 0, 1) := by decide +kernel
theorem dX4_init_96 : decode cX4_init 96 = .ok (.iconst 5, 1) := by decide +kernel
theorem dX4_init_97 : decode cX4_init 97 = .ok (.putfield 49, 3) := by decide +kernel
theorem dX4_init_100 : decode cX4_init 100 = .ok (.return_, 1) := by decide +kernel
theorem dX4_clear_0 : decode cX4_clear 0 = .ok (.aload_n 0, 1) := by decide +kernel
theorem dX4_clear_1 : decode cX4_clear 1 = .ok (.iconst 0, 1) := by decide +kernel
theorem dX4_clear_2 : decode cX4_clear 2 = .ok (.putfield 53, 3) := by decide +kernel
theorem dX4_clear_5 : decode cX4_clear 5 = .ok (.aload_n 0, 1) := by decide +kernel
theorem dX4_clear_6 : decode cX4_clear 6 = .ok (.iconst 0, 1) := by decide +kernel
theorem dX4_clear_7 : decode cX4_clear 7 = .ok (.putfield 56, 3) := by decide +kernel
theorem dX4_clear_10 : decode cX4_clear 10 = .ok (.aload_n 0, 1) := by decide +kernel
theorem dX4_clear_11 : decode cX4_clear 11 = .ok (.iconst 0, 1) := by decide +kernel
theorem dX4_clear_12 : decode cX4_clear 12 = .ok (.putfield 59, 3) := by decide +kernel
theorem dX4_clear_15 : decode cX4_clear 15 = .ok (.aload_n 0, 1) := by decide +kernel
theorem dX4_clear_16 : decode cX4_clear 16 = .ok (.iconst 0, 1) := by decide +kernel
theorem dX4_clear_17 : decode cX4_clear 17 = .ok (.putfield 62, 3) := by decide +kernel
theorem dX4_clear_20 : decode cX4_clear 20 = .ok (.aload_n 0, 1) := by decide +kernel
theorem dX4_clear_21 : decode cX4_clear 21 = .ok (.iconst 0, 1) := by decide +kernel
theorem dX4_clear_22 : decode cX4_clear 22 = .ok (.putfield 65, 3) := by decide +kernel
theorem dX4_clear_25 : decode cX4_clear 25 = .ok (.aload_n 0, 1) := by decide +kernel
theorem dX4_clear_26 : decode cX4_clear 26 = .ok (.iconst 5, 1) := by decide +kernel
theorem dX4_clear_27 : decode cX4_clear 27 = .ok (.putfield 49, 3) := by decide +kernel
theorem dX4_clear_30 : decode cX4_clear 30 = .ok (.aload_n 0, 1) := by decide +kernel
theorem dX4_clear_31 : decode cX4_clear 31 = .ok (.iconst 0, 1) := by decide +kernel
theorem dX4_clear_32 : decode cX4_clear 32 = .ok (.putfield 68, 3) := by decide +kernel
theorem dX4_clear_35 : decode cX4_clear 35 = .ok (.aload_n 0, 1) := by decide +kernel
theorem dX4_clear_36 : decode cX4_clear 36 = .ok (.getfield 45, 3) := by decide +kernel
theorem dX4_clear_39 : decode cX4_clear 39 = .ok (.invokevirtual 71, 3) := by decide +kernel
theorem dX4_clear_42 : decode cX4_clear 42 = .ok (.aload_n 0, 1) := by decide +kernel
theorem dX4_clear_43 : decode cX4_clear 43 = .ok (.getfield 33, 3) := by decide +kernel
theorem dX4_clear_46 : decode cX4_clear 46 = .ok (.iconst 0, 1) := by decide +kernel
theorem dX4_clear_47 : decode cX4_clear 47 = .ok (.invokestatic 74, 3) := by decide +kernel
theorem dX4_clear_50 : decode cX4_clear 50 = .ok (.return_, 1) := by decide +kernel
theorem dX4_isNone_0 : decode cX4_isNone 0 = .ok (.aload_n 0, 1) := by decide +kernel
theorem dX4_isNone_1 : decode cX4_isNone 1 = .ok (.getfield 53, 3) := by decide +kernel
theorem dX4_isNone_4 : decode cX4_isNone 4 = .ok (.ifCond .ne 7, 3) := by decide +kernel
theorem dX4_isNone_7 : decode cX4_isNone 7 = .ok (.iconst 1, 1) := by decide +kernel
theorem dX4_isNone_8 : decode cX4_isNone 8 = .ok (.goto 4, 3) := by decide +kernel
theorem dX4_isNone_11 : decode cX4_isNone 11 = .ok (.iconst 0, 1) := by decide +kernel
theorem dX4_isNone_12 : decode cX4_isNone 12 = .ok (.ireturn, 1) := by decide +kernel
theorem dX4_cells_0 : decode cX4_cells 0 = .ok (.bipush 48, 2) := by decide +kernel
theorem dX4_cells_2 : decode cX4_cells 2 = .ok (.aload_n 0, 1) := by decide +kernel
theorem dX4_cells_3 : decode cX4_cells 3 = .ok (.getfield 53, 3) := by decide +kernel
theorem dX4_cells_6 : decode cX4_cells 6 = .ok (.aload_n 0, 1) := by decide +kernel
theorem dX4_cells_7 : decode cX4_cells 7 = .ok (.getfield 56, 3) := by decide +kernel
theorem dX4_cells_10 : decode cX4_cells 10 = .ok (.imul, 1) := by decide +kernel
theorem dX4_cells_11 : decode cX4_cells 11 = .ok (.invokestatic 80, 3) := by decide +kernel
theorem dX4_cells_14 : decode cX4_cells 14 = .ok (.ireturn, 1) := by decide +kernel
theorem dX4_isCell_0 : decode cX4_isCell 0 = .ok (.iload_n 1, 1) := by decide +kernel
theorem dX4_isCell_1 : decode cX4_isCell 1 = .ok (.ifCond .lt 26, 3) := by decide +kernel
theorem dX4_isCell_4 : decode cX4_isCell 4 = .ok (.iload_n 1, 1) := by decide +kernel
theorem dX4_isCell_5 : decode cX4_isCell 5 = .ok (.bipush 48, 2) := by decide +kernel
theorem dX4_isCell_7 : decode cX4_isCell 7 = .ok (.if_icmp .ge 20, 3) := by decide +kernel
theorem dX4_isCell_10 : decode cX4_isCell 10 = .ok (.iload_n 1, 1) := by decide +kernel
theorem dX4_isCell_11 : decode cX4_isCell 11 = .ok (.aload_n 0, 1) := by decide +kernel
theorem dX4_isCell_12 : decode cX4_isCell 12 = .ok (.getfield 53, 3) := by decide +kernel
theorem dX4_isCell_15 : decode cX4_isCell 15 = .ok (.aload_n 0, 1) := by decide +kernel
theorem dX4_isCell_16 : decode cX4_isCell 16 = .ok (.getfield 56, 3) := by decide +kernel
theorem dX4_isCell_19 : decode cX4_isCell 19 = .ok (.imul, 1) := by decide +kernel
theorem dX4_isCell_20 : decode cX4_isCell 20 = .ok (.if_icmp .ge 7, 3) := by decide +kernel
theorem dX4_isCell_23 : decode cX4_isCell 23 = .ok (.iconst 1, 1) := by decide +kernel
theorem dX4_isCell_24 : decode cX4_isCell 24 = .ok (.goto 4, 3) := by decide +kernel
theorem dX4_isCell_27 : decode cX4_isCell 27 = .ok (.iconst 0, 1) := by decide +kernel
theorem dX4_isCell_28 : decode cX4_isCell 28 = .ok (.ireturn, 1) := by decide +kernel
theorem dX4_isLand_0 : decode cX4_isLand 0 = .ok (.aload_n 0, 1) := by decide +kernel
theorem dX4_isLand_1 : decode cX4_isLand 1 = .ok (.iload_n 1, 1) := by decide +kernel
theorem dX4_isLand_2 : decode cX4_isLand 2 = .ok (.invokevirtual 86, 3) := by decide +kernel
theorem dX4_isLand_5 : decode cX4_isLand 5 = .ok (.ifCond .eq 17, 3) := by decide +kernel
theorem dX4_isLand_8 : decode cX4_isLand 8 = .ok (.aload_n 0, 1) := by decide +kernel
theorem dX4_isLand_9 : decode cX4_isLand 9 = .ok (.getfield 9, 3) := by decide +kernel
theorem dX4_isLand_12 : decode cX4_isLand 12 = .ok (.iload_n 1, 1) := by decide +kernel
theorem dX4_isLand_13 : decode cX4_isLand 13 = .ok (.iaload, 1) := by decide +kernel
theorem dX4_isLand_14 : decode cX4_isLand 14 = .ok (.iconst 4, 1) := by decide +kernel
theorem dX4_isLand_15 : decode cX4_isLand 15 = .ok (.if_icmp .ne 7, 3) := by decide +kernel
theorem dX4_isLand_18 : decode cX4_isLand 18 = .ok (.iconst 1, 1) := by decide +kernel
theorem dX4_isLand_19 : decode cX4_isLand 19 = .ok (.goto 4, 3) := by decide +kernel
theorem dX4_isLand_22 : decode cX4_isLand 22 = .ok (.iconst 0, 1) := by decide +kernel
theorem dX4_isLand_23 : decode cX4_isLand 23 = .ok (.ireturn, 1) := by decide +kernel
theorem dX4_isWater_0 : decode cX4_isWater 0 = .ok (.aload_n 0, 1) := by decide +kernel
theorem dX4_isWater_1 : decode cX4_isWater 1 = .ok (.iload_n 1, 1) := by decide +kernel
theorem dX4_isWater_2 : decode cX4_isWater 2 = .ok (.invokevirtual 86, 3) := by decide +kernel
theorem dX4_isWater_5 : decode cX4_isWater 5 = .ok (.ifCond .eq 17, 3) := by decide +kernel
theorem dX4_isWater_8 : decode cX4_isWater 8 = .ok (.aload_n 0, 1) := by decide +kernel
theorem dX4_isWater_9 : decode cX4_isWater 9 = .ok (.getfield 9, 3) := by decide +kernel
theorem dX4_isWater_12 : decode cX4_isWater 12 = .ok (.iload_n 1, 1) := by decide +kernel
theorem dX4_isWater_13 : decode cX4_isWater 13 = .ok (.iaload, 1) := by decide +kernel
theorem dX4_isWater_14 : decode cX4_isWater 14 = .ok (.iconst 4, 1) := by decide +kernel
theorem dX4_isWater_15 : decode cX4_isWater 15 = .ok (.if_icmp .eq 7, 3) := by decide +kernel
theorem dX4_isWater_18 : decode cX4_isWater 18 = .ok (.iconst 1, 1) := by decide +kernel
theorem dX4_isWater_19 : decode cX4_isWater 19 = .ok (.goto 4, 3) := by decide +kernel
theorem dX4_isWater_22 : decode cX4_isWater 22 = .ok (.iconst 0, 1) := by decide +kernel
theorem dX4_isWater_23 : decode cX4_isWater 23 = .ok (.ireturn, 1) := by decide +kernel
theorem dX4_isHarbour_0 : decode cX4_isHarbour 0 = .ok (.aload_n 0, 1) := by decide +kernel
theorem dX4_isHarbour_1 : decode cX4_isHarbour 1 = .ok (.iload_n 1, 1) := by decide +kernel
theorem dX4_isHarbour_2 : decode cX4_isHarbour 2 = .ok (.invokevirtual 86, 3) := by decide +kernel
theorem dX4_isHarbour_5 : decode cX4_isHarbour 5 = .ok (.ifCond .eq 16, 3) := by decide +kernel
theorem dX4_isHarbour_8 : decode cX4_isHarbour 8 = .ok (.aload_n 0, 1) := by decide +kernel
theorem dX4_isHarbour_9 : decode cX4_isHarbour 9 = .ok (.getfield 9, 3) := by decide +kernel
theorem dX4_isHarbour_12 : decode cX4_isHarbour 12 = .ok (.iload_n 1, 1) := by decide +kernel
theorem dX4_isHarbour_13 : decode cX4_isHarbour 13 = .ok (.iaload, 1) := by decide +kernel
theorem dX4_isHarbour_14 : decode cX4_isHarbour 14 = .ok (.ifCond .ne 7, 3) := by decide +kernel
theorem dX4_isHarbour_17 : decode cX4_isHarbour 17 = .ok (.iconst 1, 1) := by decide +kernel
theorem dX4_isHarbour_18 : decode cX4_isHarbour 18 = .ok (.goto 4, 3) := by decide +kernel
theorem dX4_isHarbour_21 : decode cX4_isHarbour 21 = .ok (.iconst 0, 1) := by decide +kernel
theorem dX4_isHarbour_22 : decode cX4_isHarbour 22 = .ok (.ireturn, 1) := by decide +kernel
theorem dX4_isBoat_0 : decode cX4_isBoat 0 = .ok (.iload_n 1, 1) := by decide +kernel
theorem dX4_isBoat_1 : decode cX4_isBoat 1 = .ok (.ifCond .lt 21, 3) := by decide +kernel
theorem dX4_isBoat_4 : decode cX4_isBoat 4 = .ok (.iload_n 1, 1) := by decide +kernel
theorem dX4_isBoat_5 : decode cX4_isBoat 5 = .ok (.aload_n 0, 1) := by decide +kernel
theorem dX4_isBoat_6 : decode cX4_isBoat 6 = .ok (.getfield 59, 3) := by decide +kernel
theorem dX4_isBoat_9 : decode cX4_isBoat 9 = .ok (.if_icmp .ge 13, 3) := by decide +kernel
theorem dX4_isBoat_12 : decode cX4_isBoat 12 = .ok (.iload_n 1, 1) := by decide +kernel
theorem dX4_isBoat_13 : decode cX4_isBoat 13 = .ok (.bipush 6, 2) := by decide +kernel
theorem dX4_isBoat_15 : decode cX4_isBoat 15 = .ok (.if_icmp .ge 7, 3) := by decide +kernel
theorem dX4_isBoat_18 : decode cX4_isBoat 18 = .ok (.iconst 1, 1) := by decide +kernel
theorem dX4_isBoat_19 : decode cX4_isBoat 19 = .ok (.goto 4, 3) := by decide +kernel
theorem dX4_isBoat_22 : decode cX4_isBoat 22 = .ok (.iconst 0, 1) := by decide +kernel
theorem dX4_isBoat_23 : decode cX4_isBoat 23 = .ok (.ireturn, 1) := by decide +kernel
theorem dX4_isHand_0 : decode cX4_isHand 0 = .ok (.iload_n 1, 1) := by decide +kernel
theorem dX4_isHand_1 : decode cX4_isHand 1 = .ok (.ifCond .lt 21, 3) := by decide +kernel
theorem dX4_isHand_4 : decode cX4_isHand 4 = .ok (.iload_n 1, 1) := by decide +kernel
theorem dX4_isHand_5 : decode cX4_isHand 5 = .ok (.aload_n 0, 1) := by decide +kernel
theorem dX4_isHand_6 : decode cX4_isHand 6 = .ok (.getfield 62, 3) := by decide +kernel
theorem dX4_isHand_9 : decode cX4_isHand 9 = .ok (.if_icmp .ge 13, 3) := by decide +kernel
theorem dX4_isHand_12 : decode cX4_isHand 12 = .ok (.iload_n 1, 1) := by decide +kernel
theorem dX4_isHand_13 : decode cX4_isHand 13 = .ok (.bipush 6, 2) := by decide +kernel
theorem dX4_isHand_15 : decode cX4_isHand 15 = .ok (.if_icmp .ge 7, 3) := by decide +kernel
theorem dX4_isHand_18 : decode cX4_isHand 18 = .ok (.iconst 1, 1) := by decide +kernel
theorem dX4_isHand_19 : decode cX4_isHand 19 = .ok (.goto 4, 3) := by decide +kernel
theorem dX4_isHand_22 : decode cX4_isHand 22 = .ok (.iconst 0, 1) := by decide +kernel
theorem dX4_isHand_23 : decode cX4_isHand 23 = .ok (.ireturn, 1) := by decide +kernel
theorem dX4_depthOf_0 : decode cX4_depthOf 0 = .ok (.aload_n 0, 1) := by decide +kernel
theorem dX4_depthOf_1 : decode cX4_depthOf 1 = .ok (.iload_n 1, 1) := by decide +kernel
theorem dX4_depthOf_2 : decode cX4_depthOf 2 = .ok (.invokevirtual 90, 3) := by decide +kernel
theorem dX4_depthOf_5 : decode cX4_depthOf 5 = .ok (.ifCond .eq 16, 3) := by decide +kernel
theorem dX4_depthOf_8 : decode cX4_depthOf 8 = .ok (.iconst 2, 1) := by decide +kernel
theorem dX4_depthOf_9 : decode cX4_depthOf 9 = .ok (.aload_n 0, 1) := by decide +kernel
theorem dX4_depthOf_10 : decode cX4_depthOf 10 = .ok (.getfield 9, 3) := by decide +kernel
theorem dX4_depthOf_13 : decode cX4_depthOf 13 = .ok (.iload_n 1, 1) := by decide +kernel
theorem dX4_depthOf_14 : decode cX4_depthOf 14 = .ok (.iaload, 1) := by decide +kernel
theorem dX4_depthOf_15 : decode cX4_depthOf 15 = .ok (.invokestatic 80, 3) := by decide +kernel
theorem dX4_depthOf_18 : decode cX4_depthOf 18 = .ok (.goto 4, 3) := by decide +kernel
theorem dX4_depthOf_21 : decode cX4_depthOf 21 = .ok (.iconst 0, 1) := by decide +kernel
theorem dX4_depthOf_22 : decode cX4_depthOf 22 = .ok (.ireturn, 1) := by decide +kernel
theorem dX4_wreckIn_0 : decode cX4_wreckIn 0 = .ok (.aload_n 0, 1) := by decide +kernel
theorem dX4_wreckIn_1 : decode cX4_wreckIn 1 = .ok (.iload_n 1, 1) := by decide +kernel
theorem dX4_wreckIn_2 : decode cX4_wreckIn 2 = .ok (.invokevirtual 86, 3) := by decide +kernel
theorem dX4_wreckIn_5 : decode cX4_wreckIn 5 = .ok (.ifCond .eq 17, 3) := by decide +kernel
theorem dX4_wreckIn_8 : decode cX4_wreckIn 8 = .ok (.aload_n 0, 1) := by decide +kernel
theorem dX4_wreckIn_9 : decode cX4_wreckIn 9 = .ok (.getfield 9, 3) := by decide +kernel
theorem dX4_wreckIn_12 : decode cX4_wreckIn 12 = .ok (.iload_n 1, 1) := by decide +kernel
theorem dX4_wreckIn_13 : decode cX4_wreckIn 13 = .ok (.iaload, 1) := by decide +kernel
theorem dX4_wreckIn_14 : decode cX4_wreckIn 14 = .ok (.iconst 3, 1) := by decide +kernel
theorem dX4_wreckIn_15 : decode cX4_wreckIn 15 = .ok (.if_icmp .ne 7, 3) := by decide +kernel
theorem dX4_wreckIn_18 : decode cX4_wreckIn 18 = .ok (.iconst 1, 1) := by decide +kernel
theorem dX4_wreckIn_19 : decode cX4_wreckIn 19 = .ok (.goto 4, 3) := by decide +kernel
theorem dX4_wreckIn_22 : decode cX4_wreckIn 22 = .ok (.iconst 0, 1) := by decide +kernel
theorem dX4_wreckIn_23 : decode cX4_wreckIn 23 = .ok (.ireturn, 1) := by decide +kernel
theorem dX4_homeOf_0 : decode cX4_homeOf 0 = .ok (.aload_n 0, 1) := by decide +kernel
theorem dX4_homeOf_1 : decode cX4_homeOf 1 = .ok (.iload_n 1, 1) := by decide +kernel
theorem dX4_homeOf_2 : decode cX4_homeOf 2 = .ok (.invokevirtual 86, 3) := by decide +kernel
theorem dX4_homeOf_5 : decode cX4_homeOf 5 = .ok (.ifCond .eq 12, 3) := by decide +kernel
theorem dX4_homeOf_8 : decode cX4_homeOf 8 = .ok (.aload_n 0, 1) := by decide +kernel
theorem dX4_homeOf_9 : decode cX4_homeOf 9 = .ok (.getfield 15, 3) := by decide +kernel
theorem dX4_homeOf_12 : decode cX4_homeOf 12 = .ok (.iload_n 1, 1) := by decide +kernel
theorem dX4_homeOf_13 : decode cX4_homeOf 13 = .ok (.iaload, 1) := by decide +kernel
theorem dX4_homeOf_14 : decode cX4_homeOf 14 = .ok (.goto 5, 3) := by decide +kernel
theorem dX4_homeOf_17 : decode cX4_homeOf 17 = .ok (.bipush 99, 2) := by decide +kernel
theorem dX4_homeOf_19 : decode cX4_homeOf 19 = .ok (.ireturn, 1) := by decide +kernel
theorem dX4_skillOf_0 : decode cX4_skillOf 0 = .ok (.aload_n 0, 1) := by decide +kernel
theorem dX4_skillOf_1 : decode cX4_skillOf 1 = .ok (.iload_n 1, 1) := by decide +kernel
theorem dX4_skillOf_2 : decode cX4_skillOf 2 = .ok (.invokevirtual 93, 3) := by decide +kernel
theorem dX4_skillOf_5 : decode cX4_skillOf 5 = .ok (.ifCond .eq 12, 3) := by decide +kernel
theorem dX4_skillOf_8 : decode cX4_skillOf 8 = .ok (.aload_n 0, 1) := by decide +kernel
theorem dX4_skillOf_9 : decode cX4_skillOf 9 = .ok (.getfield 30, 3) := by decide +kernel
theorem dX4_skillOf_12 : decode cX4_skillOf 12 = .ok (.iload_n 1, 1) := by decide +kernel
theorem dX4_skillOf_13 : decode cX4_skillOf 13 = .ok (.iaload, 1) := by decide +kernel
theorem dX4_skillOf_14 : decode cX4_skillOf 14 = .ok (.goto 4, 3) := by decide +kernel
theorem dX4_skillOf_17 : decode cX4_skillOf 17 = .ok (.iconst 0, 1) := by decide +kernel
theorem dX4_skillOf_18 : decode cX4_skillOf 18 = .ok (.ireturn, 1) := by decide +kernel
theorem dX4_likingOf_0 : decode cX4_likingOf 0 = .ok (.aload_n 0, 1) := by decide +kernel
theorem dX4_likingOf_1 : decode cX4_likingOf 1 = .ok (.iload_n 1, 1) := by decide +kernel
theorem dX4_likingOf_2 : decode cX4_likingOf 2 = .ok (.invokevirtual 96, 3) := by decide +kernel
theorem dX4_likingOf_5 : decode cX4_likingOf 5 = .ok (.ifCond .eq 25, 3) := by decide +kernel
theorem dX4_likingOf_8 : decode cX4_likingOf 8 = .ok (.aload_n 0, 1) := by decide +kernel
theorem dX4_likingOf_9 : decode cX4_likingOf 9 = .ok (.iload_n 2, 1) := by decide +kernel
theorem dX4_likingOf_10 : decode cX4_likingOf 10 = .ok (.invokevirtual 93, 3) := by decide +kernel
theorem dX4_likingOf_13 : decode cX4_likingOf 13 = .ok (.ifCond .eq 17, 3) := by decide +kernel
theorem dX4_likingOf_16 : decode cX4_likingOf 16 = .ok (.aload_n 0, 1) := by decide +kernel
theorem dX4_likingOf_17 : decode cX4_likingOf 17 = .ok (.getfield 33, 3) := by decide +kernel
theorem dX4_likingOf_20 : decode cX4_likingOf 20 = .ok (.iload_n 1, 1) := by decide +kernel
theorem dX4_likingOf_21 : decode cX4_likingOf 21 = .ok (.bipush 6, 2) := by decide +kernel
theorem dX4_likingOf_23 : decode cX4_likingOf 23 = .ok (.imul, 1) := by decide +kernel
theorem dX4_likingOf_24 : decode cX4_likingOf 24 = .ok (.iload_n 2, 1) := by decide +kernel
theorem dX4_likingOf_25 : decode cX4_likingOf 25 = .ok (.iadd, 1) := by decide +kernel
theorem dX4_likingOf_26 : decode cX4_likingOf 26 = .ok (.iaload, 1) := by decide +kernel
theorem dX4_likingOf_27 : decode cX4_likingOf 27 = .ok (.goto 4, 3) := by decide +kernel
theorem dX4_likingOf_30 : decode cX4_likingOf 30 = .ok (.iconst 0, 1) := by decide +kernel
theorem dX4_likingOf_31 : decode cX4_likingOf 31 = .ok (.ireturn, 1) := by decide +kernel
theorem dX4_skyAt_0 : decode cX4_skyAt 0 = .ok (.iconst (-1), 1) := by decide +kernel
theorem dX4_skyAt_1 : decode cX4_skyAt 1 = .ok (.istore_n 2, 1) := by decide +kernel
theorem dX4_skyAt_2 : decode cX4_skyAt 2 = .ok (.iconst 0, 1) := by decide +kernel
theorem dX4_skyAt_3 : decode cX4_skyAt 3 = .ok (.istore_n 3, 1) := by decide +kernel
theorem dX4_skyAt_4 : decode cX4_skyAt 4 = .ok (.iconst 0, 1) := by decide +kernel
theorem dX4_skyAt_5 : decode cX4_skyAt 5 = .ok (.istore 4, 2) := by decide +kernel
theorem dX4_skyAt_7 : decode cX4_skyAt 7 = .ok (.iload 4, 2) := by decide +kernel
theorem dX4_skyAt_9 : decode cX4_skyAt 9 = .ok (.aload_n 0, 1) := by decide +kernel
theorem dX4_skyAt_10 : decode cX4_skyAt 10 = .ok (.getfield 65, 3) := by decide +kernel
theorem dX4_skyAt_13 : decode cX4_skyAt 13 = .ok (.if_icmp .ge 54, 3) := by decide +kernel
theorem dX4_skyAt_16 : decode cX4_skyAt 16 = .ok (.iload 4, 2) := by decide +kernel
theorem dX4_skyAt_18 : decode cX4_skyAt 18 = .ok (.bipush 10, 2) := by decide +kernel
theorem dX4_skyAt_20 : decode cX4_skyAt 20 = .ok (.if_icmp .ge 47, 3) := by decide +kernel
theorem dX4_skyAt_23 : decode cX4_skyAt 23 = .ok (.aload_n 0, 1) := by decide +kernel
theorem dX4_skyAt_24 : decode cX4_skyAt 24 = .ok (.getfield 36, 3) := by decide +kernel
theorem dX4_skyAt_27 : decode cX4_skyAt 27 = .ok (.iload 4, 2) := by decide +kernel
theorem dX4_skyAt_29 : decode cX4_skyAt 29 = .ok (.iaload, 1) := by decide +kernel
theorem dX4_skyAt_30 : decode cX4_skyAt 30 = .ok (.iload_n 1, 1) := by decide +kernel
theorem dX4_skyAt_31 : decode cX4_skyAt 31 = .ok (.if_icmp .gt 30, 3) := by decide +kernel
theorem dX4_skyAt_34 : decode cX4_skyAt 34 = .ok (.aload_n 0, 1) := by decide +kernel
theorem dX4_skyAt_35 : decode cX4_skyAt 35 = .ok (.getfield 36, 3) := by decide +kernel
theorem dX4_skyAt_38 : decode cX4_skyAt 38 = .ok (.iload 4, 2) := by decide +kernel
theorem dX4_skyAt_40 : decode cX4_skyAt 40 = .ok (.iaload, 1) := by decide +kernel
theorem dX4_skyAt_41 : decode cX4_skyAt 41 = .ok (.iload_n 2, 1) := by decide +kernel
theorem dX4_skyAt_42 : decode cX4_skyAt 42 = .ok (.if_icmp .le 19, 3) := by decide +kernel
theorem dX4_skyAt_45 : decode cX4_skyAt 45 = .ok (.aload_n 0, 1) := by decide +kernel
theorem dX4_skyAt_46 : decode cX4_skyAt 46 = .ok (.getfield 36, 3) := by decide +kernel
theorem dX4_skyAt_49 : decode cX4_skyAt 49 = .ok (.iload 4, 2) := by decide +kernel
theorem dX4_skyAt_51 : decode cX4_skyAt 51 = .ok (.iaload, 1) := by decide +kernel
theorem dX4_skyAt_52 : decode cX4_skyAt 52 = .ok (.istore_n 2, 1) := by decide +kernel
theorem dX4_skyAt_53 : decode cX4_skyAt 53 = .ok (.aload_n 0, 1) := by decide +kernel
theorem dX4_skyAt_54 : decode cX4_skyAt 54 = .ok (.getfield 39, 3) := by decide +kernel
theorem dX4_skyAt_57 : decode cX4_skyAt 57 = .ok (.iload 4, 2) := by decide +kernel
theorem dX4_skyAt_59 : decode cX4_skyAt 59 = .ok (.iaload, 1) := by decide +kernel
theorem dX4_skyAt_60 : decode cX4_skyAt 60 = .ok (.istore_n 3, 1) := by decide +kernel
theorem dX4_skyAt_61 : decode cX4_skyAt 61 = .ok (.iinc 4 1, 3) := by decide +kernel
theorem dX4_skyAt_64 : decode cX4_skyAt 64 = .ok (.goto (-57), 3) := by decide +kernel
theorem dX4_skyAt_67 : decode cX4_skyAt 67 = .ok (.iload_n 3, 1) := by decide +kernel
theorem dX4_skyAt_68 : decode cX4_skyAt 68 = .ok (.ireturn, 1) := by decide +kernel
theorem dX4_stepFrom_0 : decode cX4_stepFrom 0 = .ok (.aload_n 0, 1) := by decide +kernel
theorem dX4_stepFrom_1 : decode cX4_stepFrom 1 = .ok (.iload_n 1, 1) := by decide +kernel
theorem dX4_stepFrom_2 : decode cX4_stepFrom 2 = .ok (.invokevirtual 86, 3) := by decide +kernel
theorem dX4_stepFrom_5 : decode cX4_stepFrom 5 = .ok (.ifCond .eq 11, 3) := by decide +kernel
theorem dX4_stepFrom_8 : decode cX4_stepFrom 8 = .ok (.aload_n 0, 1) := by decide +kernel
theorem dX4_stepFrom_9 : decode cX4_stepFrom 9 = .ok (.getfield 53, 3) := by decide +kernel
theorem dX4_stepFrom_12 : decode cX4_stepFrom 12 = .ok (.iconst 1, 1) := by decide +kernel
theorem dX4_stepFrom_13 : decode cX4_stepFrom 13 = .ok (.if_icmp .ge 5, 3) := by decide +kernel
theorem dX4_stepFrom_16 : decode cX4_stepFrom 16 = .ok (.iconst (-1), 1) := by decide +kernel
theorem dX4_stepFrom_17 : decode cX4_stepFrom 17 = .ok (.ireturn, 1) := by decide +kernel
theorem dX4_stepFrom_18 : decode cX4_stepFrom 18 = .ok (.iload_n 1, 1) := by decide +kernel
theorem dX4_stepFrom_19 : decode cX4_stepFrom 19 = .ok (.aload_n 0, 1) := by decide +kernel
theorem dX4_stepFrom_20 : decode cX4_stepFrom 20 = .ok (.getfield 53, 3) := by decide +kernel
theorem dX4_stepFrom_23 : decode cX4_stepFrom 23 = .ok (.irem, 1) := by decide +kernel
theorem dX4_stepFrom_24 : decode cX4_stepFrom 24 = .ok (.istore_n 3, 1) := by decide +kernel
theorem dX4_stepFrom_25 : decode cX4_stepFrom 25 = .ok (.iconst (-1), 1) := by decide +kernel
theorem dX4_stepFrom_26 : decode cX4_stepFrom 26 = .ok (.istore 4, 2) := by decide +kernel
theorem dX4_stepFrom_28 : decode cX4_stepFrom 28 = .ok (.iload_n 2, 1) := by decide +kernel
theorem dX4_stepFrom_29 : decode cX4_stepFrom 29 = .ok (.tableswitch 91 0 3 #[31, 42, 64, 75], 31) := by decide +kernel
theorem dX4_stepFrom_60 : decode cX4_stepFrom 60 = .ok (.iload_n 1, 1) := by decide +kernel
theorem dX4_stepFrom_61 : decode cX4_stepFrom 61 = .ok (.aload_n 0, 1) := by decide +kernel
theorem dX4_stepFrom_62 : decode cX4_stepFrom 62 = .ok (.getfield 53, 3) := by decide +kernel
theorem dX4_stepFrom_65 : decode cX4_stepFrom 65 = .ok (.isub, 1) := by decide +kernel
theorem dX4_stepFrom_66 : decode cX4_stepFrom 66 = .ok (.istore 4, 2) := by decide +kernel
theorem dX4_stepFrom_68 : decode cX4_stepFrom 68 = .ok (.goto 52, 3) := by decide +kernel
theorem dX4_stepFrom_71 : decode cX4_stepFrom 71 = .ok (.iload_n 3, 1) := by decide +kernel
theorem dX4_stepFrom_72 : decode cX4_stepFrom 72 = .ok (.iconst 1, 1) := by decide +kernel
theorem dX4_stepFrom_73 : decode cX4_stepFrom 73 = .ok (.iadd, 1) := by decide +kernel
theorem dX4_stepFrom_74 : decode cX4_stepFrom 74 = .ok (.aload_n 0, 1) := by decide +kernel
theorem dX4_stepFrom_75 : decode cX4_stepFrom 75 = .ok (.getfield 53, 3) := by decide +kernel
theorem dX4_stepFrom_78 : decode cX4_stepFrom 78 = .ok (.if_icmp .ge 9, 3) := by decide +kernel
theorem dX4_stepFrom_81 : decode cX4_stepFrom 81 = .ok (.iload_n 1, 1) := by decide +kernel
theorem dX4_stepFrom_82 : decode cX4_stepFrom 82 = .ok (.iconst 1, 1) := by decide +kernel
theorem dX4_stepFrom_83 : decode cX4_stepFrom 83 = .ok (.iadd, 1) := by decide +kernel
theorem dX4_stepFrom_84 : decode cX4_stepFrom 84 = .ok (.goto 4, 3) := by decide +kernel
theorem dX4_stepFrom_87 : decode cX4_stepFrom 87 = .ok (.iconst (-1), 1) := by decide +kernel
theorem dX4_stepFrom_88 : decode cX4_stepFrom 88 = .ok (.istore 4, 2) := by decide +kernel
theorem dX4_stepFrom_90 : decode cX4_stepFrom 90 = .ok (.goto 30, 3) := by decide +kernel
theorem dX4_stepFrom_93 : decode cX4_stepFrom 93 = .ok (.iload_n 1, 1) := by decide +kernel
theorem dX4_stepFrom_94 : decode cX4_stepFrom 94 = .ok (.aload_n 0, 1) := by decide +kernel
theorem dX4_stepFrom_95 : decode cX4_stepFrom 95 = .ok (.getfield 53, 3) := by decide +kernel
theorem dX4_stepFrom_98 : decode cX4_stepFrom 98 = .ok (.iadd, 1) := by decide +kernel
theorem dX4_stepFrom_99 : decode cX4_stepFrom 99 = .ok (.istore 4, 2) := by decide +kernel
theorem dX4_stepFrom_101 : decode cX4_stepFrom 101 = .ok (.goto 19, 3) := by decide +kernel
theorem dX4_stepFrom_104 : decode cX4_stepFrom 104 = .ok (.iload_n 3, 1) := by decide +kernel
theorem dX4_stepFrom_105 : decode cX4_stepFrom 105 = .ok (.ifCond .le 9, 3) := by decide +kernel
theorem dX4_stepFrom_108 : decode cX4_stepFrom 108 = .ok (.iload_n 1, 1) := by decide +kernel
theorem dX4_stepFrom_109 : decode cX4_stepFrom 109 = .ok (.iconst 1, 1) := by decide +kernel
theorem dX4_stepFrom_110 : decode cX4_stepFrom 110 = .ok (.isub, 1) := by decide +kernel
theorem dX4_stepFrom_111 : decode cX4_stepFrom 111 = .ok (.goto 4, 3) := by decide +kernel
theorem dX4_stepFrom_114 : decode cX4_stepFrom 114 = .ok (.iconst (-1), 1) := by decide +kernel
theorem dX4_stepFrom_115 : decode cX4_stepFrom 115 = .ok (.istore 4, 2) := by decide +kernel
theorem dX4_stepFrom_117 : decode cX4_stepFrom 117 = .ok (.goto 3, 3) := by decide +kernel
theorem dX4_stepFrom_120 : decode cX4_stepFrom 120 = .ok (.aload_n 0, 1) := by decide +kernel
theorem dX4_stepFrom_121 : decode cX4_stepFrom 121 = .ok (.iload 4, 2) := by decide +kernel
theorem dX4_stepFrom_123 : decode cX4_stepFrom 123 = .ok (.invokevirtual 90, 3) := by decide +kernel
theorem dX4_stepFrom_126 : decode cX4_stepFrom 126 = .ok (.ifCond .eq 8, 3) := by decide +kernel
theorem dX4_stepFrom_129 : decode cX4_stepFrom 129 = .ok (.iload 4, 2) := by decide +kernel
theorem dX4_stepFrom_131 : decode cX4_stepFrom 131 = .ok (.goto 4, 3) := by decide +kernel
theorem dX4_stepFrom_134 : decode cX4_stepFrom 134 = .ok (.iconst (-1), 1) := by decide +kernel
theorem dX4_stepFrom_135 : decode cX4_stepFrom 135 = .ok (.ireturn, 1) := by decide +kernel
theorem dX4_isBeside_0 : decode cX4_isBeside 0 = .ok (.iconst 0, 1) := by decide +kernel
theorem dX4_isBeside_1 : decode cX4_isBeside 1 = .ok (.istore_n 3, 1) := by decide +kernel
theorem dX4_isBeside_2 : decode cX4_isBeside 2 = .ok (.iload_n 3, 1) := by decide +kernel
theorem dX4_isBeside_3 : decode cX4_isBeside 3 = .ok (.iconst 4, 1) := by decide +kernel
theorem dX4_isBeside_4 : decode cX4_isBeside 4 = .ok (.if_icmp .ge 26, 3) := by decide +kernel
theorem dX4_isBeside_7 : decode cX4_isBeside 7 = .ok (.iload_n 2, 1) := by decide +kernel
theorem dX4_isBeside_8 : decode cX4_isBeside 8 = .ok (.iconst (-1), 1) := by decide +kernel
theorem dX4_isBeside_9 : decode cX4_isBeside 9 = .ok (.if_icmp .eq 15, 3) := by decide +kernel
theorem dX4_isBeside_12 : decode cX4_isBeside 12 = .ok (.aload_n 0, 1) := by decide +kernel
theorem dX4_isBeside_13 : decode cX4_isBeside 13 = .ok (.iload_n 1, 1) := by decide +kernel
theorem dX4_isBeside_14 : decode cX4_isBeside 14 = .ok (.iload_n 3, 1) := by decide +kernel
theorem dX4_isBeside_15 : decode cX4_isBeside 15 = .ok (.invokevirtual 99, 3) := by decide +kernel
theorem dX4_isBeside_18 : decode cX4_isBeside 18 = .ok (.iload_n 2, 1) := by decide +kernel
theorem dX4_isBeside_19 : decode cX4_isBeside 19 = .ok (.if_icmp .ne 5, 3) := by decide +kernel
theorem dX4_isBeside_22 : decode cX4_isBeside 22 = .ok (.iconst 1, 1) := by decide +kernel
theorem dX4_isBeside_23 : decode cX4_isBeside 23 = .ok (.ireturn, 1) := by decide +kernel
theorem dX4_isBeside_24 : decode cX4_isBeside 24 = .ok (.iinc 3 1, 3) := by decide +kernel
theorem dX4_isBeside_27 : decode cX4_isBeside 27 = .ok (.goto (-25), 3) := by decide +kernel
theorem dX4_isBeside_30 : decode cX4_isBeside 30 = .ok (.iconst 0, 1) := by decide +kernel
theorem dX4_isBeside_31 : decode cX4_isBeside 31 = .ok (.ireturn, 1) := by decide +kernel
theorem dX4_measureHomes_0 : decode cX4_measureHomes 0 = .ok (.iconst 0, 1) := by decide +kernel
theorem dX4_measureHomes_1 : decode cX4_measureHomes 1 = .ok (.istore_n 1, 1) := by decide +kernel
theorem dX4_measureHomes_2 : decode cX4_measureHomes 2 = .ok (.iload_n 1, 1) := by decide +kernel
theorem dX4_measureHomes_3 : decode cX4_measureHomes 3 = .ok (.aload_n 0, 1) := by decide +kernel
theorem dX4_measureHomes_4 : decode cX4_measureHomes 4 = .ok (.invokevirtual 102, 3) := by decide +kernel
theorem dX4_measureHomes_7 : decode cX4_measureHomes 7 = .ok (.if_icmp .ge 62, 3) := by decide +kernel
theorem dX4_measureHomes_10 : decode cX4_measureHomes 10 = .ok (.aload_n 0, 1) := by decide +kernel
theorem dX4_measureHomes_11 : decode cX4_measureHomes 11 = .ok (.getfield 15, 3) := by decide +kernel
theorem dX4_measureHomes_14 : decode cX4_measureHomes 14 = .ok (.iload_n 1, 1) := by decide +kernel
theorem dX4_measureHomes_15 : decode cX4_measureHomes 15 = .ok (.bipush 99, 2) := by decide +kernel
theorem dX4_measureHomes_17 : decode cX4_measureHomes 17 = .ok (.iastore, 1) := by decide +kernel
theorem dX4_measureHomes_18 : decode cX4_measureHomes 18 = .ok (.iconst 0, 1) := by decide +kernel
theorem dX4_measureHomes_19 : decode cX4_measureHomes 19 = .ok (.istore_n 2, 1) := by decide +kernel
theorem dX4_measureHomes_20 : decode cX4_measureHomes 20 = .ok (.iload_n 2, 1) := by decide +kernel
theorem dX4_measureHomes_21 : decode cX4_measureHomes 21 = .ok (.aload_n 0, 1) := by decide +kernel
theorem dX4_measureHomes_22 : decode cX4_measureHomes 22 = .ok (.invokevirtual 102, 3) := by decide +kernel
theorem dX4_measureHomes_25 : decode cX4_measureHomes 25 = .ok (.if_icmp .ge 38, 3) := by decide +kernel
theorem dX4_measureHomes_28 : decode cX4_measureHomes 28 = .ok (.aload_n 0, 1) := by decide +kernel
theorem dX4_measureHomes_29 : decode cX4_measureHomes 29 = .ok (.iload_n 2, 1) := by decide +kernel
theorem dX4_measureHomes_30 : decode cX4_measureHomes 30 = .ok (.invokevirtual 106, 3) := by decide +kernel
theorem dX4_measureHomes_33 : decode cX4_measureHomes 33 = .ok (.ifCond .eq 24, 3) := by decide +kernel
theorem dX4_measureHomes_36 : decode cX4_measureHomes 36 = .ok (.aload_n 0, 1) := by decide +kernel
theorem dX4_measureHomes_37 : decode cX4_measureHomes 37 = .ok (.getfield 15, 3) := by decide +kernel
theorem dX4_measureHomes_40 : decode cX4_measureHomes 40 = .ok (.iload_n 1, 1) := by decide +kernel
theorem dX4_measureHomes_41 : decode cX4_measureHomes 41 = .ok (.aload_n 0, 1) := by decide +kernel
theorem dX4_measureHomes_42 : decode cX4_measureHomes 42 = .ok (.getfield 15, 3) := by decide +kernel
theorem dX4_measureHomes_45 : decode cX4_measureHomes 45 = .ok (.iload_n 1, 1) := by decide +kernel
theorem dX4_measureHomes_46 : decode cX4_measureHomes 46 = .ok (.iaload, 1) := by decide +kernel
theorem dX4_measureHomes_47 : decode cX4_measureHomes 47 = .ok (.aload_n 0, 1) := by decide +kernel
theorem dX4_measureHomes_48 : decode cX4_measureHomes 48 = .ok (.iload_n 1, 1) := by decide +kernel
theorem dX4_measureHomes_49 : decode cX4_measureHomes 49 = .ok (.iload_n 2, 1) := by decide +kernel
theorem dX4_measureHomes_50 : decode cX4_measureHomes 50 = .ok (.invokevirtual 109, 3) := by decide +kernel
theorem dX4_measureHomes_53 : decode cX4_measureHomes 53 = .ok (.invokestatic 80, 3) := by decide +kernel
theorem dX4_measureHomes_56 : decode cX4_measureHomes 56 = .ok (.iastore, 1) := by decide +kernel
theorem dX4_measureHomes_57 : decode cX4_measureHomes 57 = .ok (.iinc 2 1, 3) := by decide +kernel
theorem dX4_measureHomes_60 : decode cX4_measureHomes 60 = .ok (.goto (-40), 3) := by decide +kernel
theorem dX4_measureHomes_63 : decode cX4_measureHomes 63 = .ok (.iinc 1 1, 3) := by decide +kernel
theorem dX4_measureHomes_66 : decode cX4_measureHomes 66 = .ok (.goto (-64), 3) := by decide +kernel
theorem dX4_measureHomes_69 : decode cX4_measureHomes 69 = .ok (.return_, 1) := by decide +kernel
theorem dX4_apart_0 : decode cX4_apart 0 = .ok (.aload_n 0, 1) := by decide +kernel
theorem dX4_apart_1 : decode cX4_apart 1 = .ok (.getfield 53, 3) := by decide +kernel
theorem dX4_apart_4 : decode cX4_apart 4 = .ok (.iconst 1, 1) := by decide +kernel
theorem dX4_apart_5 : decode cX4_apart 5 = .ok (.if_icmp .ge 6, 3) := by decide +kernel
theorem dX4_apart_8 : decode cX4_apart 8 = .ok (.bipush 99, 2) := by decide +kernel
theorem dX4_apart_10 : decode cX4_apart 10 = .ok (.ireturn, 1) := by decide +kernel
theorem dX4_apart_11 : decode cX4_apart 11 = .ok (.iload_n 1, 1) := by decide +kernel
theorem dX4_apart_12 : decode cX4_apart 12 = .ok (.aload_n 0, 1) := by decide +kernel
theorem dX4_apart_13 : decode cX4_apart 13 = .ok (.getfield 53, 3) := by decide +kernel
theorem dX4_apart_16 : decode cX4_apart 16 = .ok (.irem, 1) := by decide +kernel
theorem dX4_apart_17 : decode cX4_apart 17 = .ok (.iload_n 2, 1) := by decide +kernel
theorem dX4_apart_18 : decode cX4_apart 18 = .ok (.aload_n 0, 1) := by decide +kernel
theorem dX4_apart_19 : decode cX4_apart 19 = .ok (.getfield 53, 3) := by decide +kernel
theorem dX4_apart_22 : decode cX4_apart 22 = .ok (.irem, 1) := by decide +kernel
theorem dX4_apart_23 : decode cX4_apart 23 = .ok (.isub, 1) := by decide +kernel
theorem dX4_apart_24 : decode cX4_apart 24 = .ok (.invokestatic 112, 3) := by decide +kernel
theorem dX4_apart_27 : decode cX4_apart 27 = .ok (.iload_n 1, 1) := by decide +kernel
theorem dX4_apart_28 : decode cX4_apart 28 = .ok (.aload_n 0, 1) := by decide +kernel
theorem dX4_apart_29 : decode cX4_apart 29 = .ok (.getfield 53, 3) := by decide +kernel
theorem dX4_apart_32 : decode cX4_apart 32 = .ok (.idiv, 1) := by decide +kernel
theorem dX4_apart_33 : decode cX4_apart 33 = .ok (.iload_n 2, 1) := by decide +kernel
theorem dX4_apart_34 : decode cX4_apart 34 = .ok (.aload_n 0, 1) := by decide +kernel
theorem dX4_apart_35 : decode cX4_apart 35 = .ok (.getfield 53, 3) := by decide +kernel
theorem dX4_apart_38 : decode cX4_apart 38 = .ok (.idiv, 1) := by decide +kernel
theorem dX4_apart_39 : decode cX4_apart 39 = .ok (.isub, 1) := by decide +kernel
theorem dX4_apart_40 : decode cX4_apart 40 = .ok (.invokestatic 112, 3) := by decide +kernel
theorem dX4_apart_43 : decode cX4_apart 43 = .ok (.iadd, 1) := by decide +kernel
theorem dX4_apart_44 : decode cX4_apart 44 = .ok (.ireturn, 1) := by decide +kernel
theorem dX5_init_0 : decode cX5_init 0 = .ok (.aload_n 0, 1) := by decide +kernel
theorem dX5_init_1 : decode cX5_init 1 = .ok (.invokespecial 3, 3) := by decide +kernel
theorem dX5_init_4 : decode cX5_init 4 = .ok (.aload_n 0, 1) := by decide +kernel
theorem dX5_init_5 : decode cX5_init 5 = .ok (.sipush 1600, 3) := by decide +kernel
theorem dX5_init_8 : decode cX5_init 8 = .ok (.newarray .int, 2) := by decide +kernel
theorem dX5_init_10 : decode cX5_init 10 = .ok (.putfield 9, 3) := by decide +kernel
theorem dX5_init_13 : decode cX5_init 13 = .ok (.aload_n 0, 1) := by decide +kernel
theorem dX5_init_14 : decode cX5_init 14 = .ok (.bipush 40, 2) := by decide +kernel
theorem dX5_init_16 : decode cX5_init 16 = .ok (.newarray .int, 2) := by decide +kernel
theorem dX5_init_18 : decode cX5_init 18 = .ok (.putfield 15, 3) := by decide +kernel
theorem dX5_init_21 : decode cX5_init 21 = .ok (.aload_n 0, 1) := by decide +kernel
theorem dX5_init_22 : decode cX5_init 22 = .ok (.iconst 0, 1) := by decide +kernel
theorem dX5_init_23 : decode cX5_init 23 = .ok (.putfield 18, 3) := by decide +kernel
theorem dX5_init_26 : decode cX5_init 26 = .ok (.aload_n 0, 1) := by decide +kernel
theorem dX5_init_27 : decode cX5_init 27 = .ok (.iconst (-1), 1) := by decide +kernel
theorem dX5_init_28 : decode cX5_init 28 = .ok (.putfield 22, 3) := by decide +kernel
theorem dX5_init_31 : decode cX5_init 31 = .ok (.aload_n 0, 1) := by decide +kernel
theorem dX5_init_32 : decode cX5_init 32 = .ok (.iconst 0, 1) := by decide +kernel
theorem dX5_init_33 : decode cX5_init 33 = .ok (.putfield 25, 3) := by decide +kernel
theorem dX5_init_36 : decode cX5_init 36 = .ok (.aload_n 0, 1) := by decide +kernel
theorem dX5_init_37 : decode cX5_init 37 = .ok (.iconst (-1), 1) := by decide +kernel
theorem dX5_init_38 : decode cX5_init 38 = .ok (.putfield 28, 3) := by decide +kernel
theorem dX5_init_41 : decode cX5_init 41 = .ok (.iconst 0, 1) := by decide +kernel
theorem dX5_init_42 : decode cX5_init 42 = .ok (.istore_n 1, 1) := by decide +kernel
theorem dX5_init_43 : decode cX5_init 43 = .ok (.iconst 0, 1) := by decide +kernel
theorem dX5_init_44 : decode cX5_init 44 = .ok (.istore_n 2, 1) := by decide +kernel
theorem dX5_init_45 : decode cX5_init 45 = .ok (.iconst 0, 1) := by decide +kernel
theorem dX5_init_46 : decode cX5_init 46 = .ok (.istore_n 3, 1) := by decide +kernel
theorem dX5_init_47 : decode cX5_init 47 = .ok (.iload_n 3, 1) := by decide +kernel
theorem dX5_init_48 : decode cX5_init 48 = .ok (.ldc 31, 2) := by decide +kernel
theorem dX5_init_50 : decode cX5_init 50 = .ok (.invokevirtual 33, 3) := by decide +kernel
theorem dX5_init_53 : decode cX5_init 53 = .ok (.if_icmp .ge 78, 3) := by decide +kernel
theorem dX5_init_56 : decode cX5_init 56 = .ok (.iload_n 1, 1) := by decide +kernel
theorem dX5_init_57 : decode cX5_init 57 = .ok (.bipush 40, 2) := by decide +kernel
theorem dX5_init_59 : decode cX5_init 59 = .ok (.if_icmp .ge 72, 3) := by decide +kernel
theorem dX5_init_62 : decode cX5_init 62 = .ok (.ldc 31, 2) := by decide +kernel
theorem dX5_init_64 : decode cX5_init 64 = .ok (.iload_n 3, 1) := by decide +kernel
theorem dX5_init_65 : decode cX5_init 65 = .ok (.invokevirtual 39, 3) := by decide +kernel
theorem dX5_init_68 : decode cX5_init 68 = .ok (.istore 4, 2) := by decide +kernel
theorem dX5_init_70 : decode cX5_init 70 = .ok (.iload 4, 2) := by decide +kernel
theorem dX5_init_72 : decode cX5_init 72 = .ok (.bipush 32, 2) := by decide +kernel
theorem dX5_init_74 : decode cX5_init 74 = .ok (.if_icmp .ne 26, 3) := by decide +kernel
theorem dX5_init_77 : decode cX5_init 77 = .ok (.aload_n 0, 1) := by decide +kernel
theorem dX5_init_78 : decode cX5_init 78 = .ok (.getfield 15, 3) := by decide +kernel
theorem dX5_init_81 : decode cX5_init 81 = .ok (.iload_n 1, 1) := by decide +kernel
theorem dX5_init_82 : decode cX5_init 82 = .ok (.dup2, 1) := by decide +kernel
theorem dX5_init_83 : decode cX5_init 83 = .ok (.iaload, 1) := by decide +kernel
theorem dX5_init_84 : decode cX5_init 84 = .ok (.iconst 5, 1) := by decide +kernel
theorem dX5_init_85 : decode cX5_init 85 = .ok (.bipush 6, 2) := by decide +kernel
theorem dX5_init_87 : decode cX5_init 87 = .ok (.iload_n 2, 1) := by decide +kernel
theorem dX5_init_88 : decode cX5_init 88 = .ok (.isub, 1) := by decide +kernel
theorem dX5_init_89 : decode cX5_init 89 = .ok (.imul, 1) := by decide +kernel
theorem dX5_init_90 : decode cX5_init 90 = .ok (.ishl, 1) := by decide +kernel
theorem dX5_init_91 : decode cX5_init 91 = .ok (.iastore, 1) := by decide +kernel
theorem dX5_init_92 : decode cX5_init 92 = .ok (.iinc 1 1, 3) := by decide +kernel
theorem dX5_init_95 : decode cX5_init 95 = .ok (.iconst 0, 1) := by decide +kernel
theorem dX5_init_96 : decode cX5_init 96 = .ok (.istore_n 2, 1) := by decide +kernel
theorem dX5_init_97 : decode cX5_init 97 = .ok (.goto 28, 3) := by decide +kernel
theorem dX5_init_100 : decode cX5_init 100 = .ok (.aload_n 0, 1) := by decide +kernel
theorem dX5_init_101 : decode cX5_init 101 = .ok (.getfield 15, 3) := by decide +kernel
theorem dX5_init_104 : decode cX5_init 104 = .ok (.iload_n 1, 1) := by decide +kernel
theorem dX5_init_105 : decode cX5_init 105 = .ok (.aload_n 0, 1) := by decide +kernel
theorem dX5_init_106 : decode cX5_init 106 = .ok (.getfield 15, 3) := by decide +kernel
theorem dX5_init_109 : decode cX5_init 109 = .ok (.iload_n 1, 1) := by decide +kernel
theorem dX5_init_110 : decode cX5_init 110 = .ok (.iaload, 1) := by decide +kernel
theorem dX5_init_111 : decode cX5_init 111 = .ok (.iconst 5, 1) := by decide +kernel
theorem dX5_init_112 : decode cX5_init 112 = .ok (.ishl, 1) := by decide +kernel
theorem dX5_init_113 : decode cX5_init 113 = .ok (.iload 4, 2) := by decide +kernel
theorem dX5_init_115 : decode cX5_init 115 = .ok (.bipush 97, 2) := by decide +kernel
theorem dX5_init_117 : decode cX5_init 117 = .ok (.isub, 1) := by decide +kernel
theorem dX5_init_118 : decode cX5_init 118 = .ok (.iconst 1, 1) := by decide +kernel
theorem dX5_init_119 : decode cX5_init 119 = .ok (.iadd, 1) := by decide +kernel
theorem dX5_init_120 : decode cX5_init 120 = .ok (.ior, 1) := by decide +kernel
theorem dX5_init_121 : decode cX5_init 121 = .ok (.iastore, 1) := by decide +kernel
theorem dX5_init_122 : decode cX5_init 122 = .ok (.iinc 2 1, 3) := by decide +kernel
theorem dX5_init_125 : decode cX5_init 125 = .ok (.iinc 3 1, 3) := by decide +kernel
theorem dX5_init_128 : decode cX5_init 128 = .ok (.goto (-81), 3) := by decide +kernel
theorem dX5_init_131 : decode cX5_init 131 = .ok (.return_, 1) := by decide +kernel
theorem dX5_write_0 : decode cX5_write 0 = .ok (.bipush 24, 2) := by decide +kernel
theorem dX5_write_2 : decode cX5_write 2 = .ok (.istore_n 2, 1) := by decide +kernel
theorem dX5_write_3 : decode cX5_write 3 = .ok (.iload_n 2, 1) := by decide +kernel
theorem dX5_write_4 : decode cX5_write 4 = .ok (.ifCond .lt 52, 3) := by decide +kernel
theorem dX5_write_7 : decode cX5_write 7 = .ok (.aload_n 0, 1) := by decide +kernel
theorem dX5_write_8 : decode cX5_write 8 = .ok (.getfield 18, 3) := by decide +kernel
theorem dX5_write_11 : decode cX5_write 11 = .ok (.ifCond .lt 39, 3) := by decide +kernel
theorem dX5_write_14 : decode cX5_write 14 = .ok (.aload_n 0, 1) := by decide +kernel
theorem dX5_write_15 : decode cX5_write 15 = .ok (.getfield 18, 3) := by decide +kernel
theorem dX5_write_18 : decode cX5_write 18 = .ok (.sipush 1600, 3) := by decide +kernel
theorem dX5_write_21 : decode cX5_write 21 = .ok (.if_icmp .ge 29, 3) := by decide +kernel
theorem dX5_write_24 : decode cX5_write 24 = .ok (.aload_n 0, 1) := by decide +kernel
theorem dX5_write_25 : decode cX5_write 25 = .ok (.getfield 9, 3) := by decide +kernel
theorem dX5_write_28 : decode cX5_write 28 = .ok (.aload_n 0, 1) := by decide +kernel
theorem dX5_write_29 : decode cX5_write 29 = .ok (.getfield 18, 3) := by decide +kernel
theorem dX5_write_32 : decode cX5_write 32 = .ok (.iload_n 1, 1) := by decide +kernel
theorem dX5_write_33 : decode cX5_write 33 = .ok (.iload_n 2, 1) := by decide +kernel
theorem dX5_write_34 : decode cX5_write 34 = .ok (.ishr, 1) := by decide +kernel
theorem dX5_write_35 : decode cX5_write 35 = .ok (.sipush 255, 3) := by decide +kernel
theorem dX5_write_38 : decode cX5_write 38 = .ok (.iand, 1) := by decide +kernel
theorem dX5_write_39 : decode cX5_write 39 = .ok (.iastore, 1) := by decide +kernel
theorem dX5_write_40 : decode cX5_write 40 = .ok (.aload_n 0, 1) := by decide +kernel
theorem dX5_write_41 : decode cX5_write 41 = .ok (.dup, 1) := by decide +kernel
theorem dX5_write_42 : decode cX5_write 42 = .ok (.getfield 18, 3) := by decide +kernel
theorem dX5_write_45 : decode cX5_write 45 = .ok (.iconst 1, 1) := by decide +kernel
theorem dX5_write_46 : decode cX5_write 46 = .ok (.iadd, 1) := by decide +kernel
theorem dX5_write_47 : decode cX5_write 47 = .ok (.putfield 18, 3) := by decide +kernel
theorem dX5_write_50 : decode cX5_write 50 = .ok (.iinc 2 (-8), 3) := by decide +kernel
theorem dX5_write_53 : decode cX5_write 53 = .ok (.goto (-50), 3) := by decide +kernel
theorem dX5_write_56 : decode cX5_write 56 = .ok (.return_, 1) := by decide +kernel
theorem dX5_rewind_0 : decode cX5_rewind 0 = .ok (.aload_n 0, 1) := by decide +kernel
theorem dX5_rewind_1 : decode cX5_rewind 1 = .ok (.iconst (-1), 1) := by decide +kernel
theorem dX5_rewind_2 : decode cX5_rewind 2 = .ok (.putfield 22, 3) := by decide +kernel
theorem dX5_rewind_5 : decode cX5_rewind 5 = .ok (.aload_n 0, 1) := by decide +kernel
theorem dX5_rewind_6 : decode cX5_rewind 6 = .ok (.iconst 0, 1) := by decide +kernel
theorem dX5_rewind_7 : decode cX5_rewind 7 = .ok (.putfield 43, 3) := by decide +kernel
theorem dX5_rewind_10 : decode cX5_rewind 10 = .ok (.aload_n 0, 1) := by decide +kernel
theorem dX5_rewind_11 : decode cX5_rewind 11 = .ok (.iconst 0, 1) := by decide +kernel
theorem dX5_rewind_12 : decode cX5_rewind 12 = .ok (.putfield 46, 3) := by decide +kernel
theorem dX5_rewind_15 : decode cX5_rewind 15 = .ok (.aload_n 0, 1) := by decide +kernel
theorem dX5_rewind_16 : decode cX5_rewind 16 = .ok (.iconst 0, 1) := by decide +kernel
theorem dX5_rewind_17 : decode cX5_rewind 17 = .ok (.putfield 25, 3) := by decide +kernel
theorem dX5_rewind_20 : decode cX5_rewind 20 = .ok (.aload_n 0, 1) := by decide +kernel
theorem dX5_rewind_21 : decode cX5_rewind 21 = .ok (.iconst (-1), 1) := by decide +kernel
theorem dX5_rewind_22 : decode cX5_rewind 22 = .ok (.putfield 28, 3) := by decide +kernel
theorem dX5_rewind_25 : decode cX5_rewind 25 = .ok (.aload_n 0, 1) := by decide +kernel
theorem dX5_rewind_26 : decode cX5_rewind 26 = .ok (.invokevirtual 49, 3) := by decide +kernel
theorem dX5_rewind_29 : decode cX5_rewind 29 = .ok (.return_, 1) := by decide +kernel
theorem dX5_move_0 : decode cX5_move 0 = .ok (.aload_n 0, 1) := by decide +kernel
theorem dX5_move_1 : decode cX5_move 1 = .ok (.getfield 46, 3) := by decide +kernel
theorem dX5_move_4 : decode cX5_move 4 = .ok (.istore_n 1, 1) := by decide +kernel
theorem dX5_move_5 : decode cX5_move 5 = .ok (.iload_n 1, 1) := by decide +kernel
theorem dX5_move_6 : decode cX5_move 6 = .ok (.ifCond .lt 36, 3) := by decide +kernel
theorem dX5_move_9 : decode cX5_move 9 = .ok (.iload_n 1, 1) := by decide +kernel
theorem dX5_move_10 : decode cX5_move 10 = .ok (.aload_n 0, 1) := by decide +kernel
theorem dX5_move_11 : decode cX5_move 11 = .ok (.getfield 18, 3) := by decide +kernel
theorem dX5_move_14 : decode cX5_move 14 = .ok (.if_icmp .ge 28, 3) := by decide +kernel
theorem dX5_move_17 : decode cX5_move 17 = .ok (.iload_n 1, 1) := by decide +kernel
theorem dX5_move_18 : decode cX5_move 18 = .ok (.sipush 1600, 3) := by decide +kernel
theorem dX5_move_21 : decode cX5_move 21 = .ok (.if_icmp .ge 21, 3) := by decide +kernel
theorem dX5_move_24 : decode cX5_move 24 = .ok (.aload_n 0, 1) := by decide +kernel
theorem dX5_move_25 : decode cX5_move 25 = .ok (.getfield 9, 3) := by decide +kernel
theorem dX5_move_28 : decode cX5_move 28 = .ok (.iload_n 1, 1) := by decide +kernel
theorem dX5_move_29 : decode cX5_move 29 = .ok (.iaload, 1) := by decide +kernel
theorem dX5_move_30 : decode cX5_move 30 = .ok (.invokestatic 52, 3) := by decide +kernel
theorem dX5_move_33 : decode cX5_move 33 = .ok (.ifCond .eq 9, 3) := by decide +kernel
theorem dX5_move_36 : decode cX5_move 36 = .ok (.iinc 1 1, 3) := by decide +kernel
theorem dX5_move_39 : decode cX5_move 39 = .ok (.goto (-34), 3) := by decide +kernel
theorem dX5_move_42 : decode cX5_move 42 = .ok (.iload_n 1, 1) := by decide +kernel
theorem dX5_move_43 : decode cX5_move 43 = .ok (.aload_n 0, 1) := by decide +kernel
theorem dX5_move_44 : decode cX5_move 44 = .ok (.getfield 46, 3) := by decide +kernel
theorem dX5_move_47 : decode cX5_move 47 = .ok (.if_icmp .ne 25, 3) := by decide +kernel
theorem dX5_move_50 : decode cX5_move 50 = .ok (.aload_n 0, 1) := by decide +kernel
theorem dX5_move_51 : decode cX5_move 51 = .ok (.getfield 22, 3) := by decide +kernel
theorem dX5_move_54 : decode cX5_move 54 = .ok (.bipush (-2), 2) := by decide +kernel
theorem dX5_move_56 : decode cX5_move 56 = .ok (.if_icmp .eq 12, 3) := by decide +kernel
theorem dX5_move_59 : decode cX5_move 59 = .ok (.aload_n 0, 1) := by decide +kernel
theorem dX5_move_60 : decode cX5_move 60 = .ok (.getfield 22, 3) := by decide +kernel
theorem dX5_move_63 : decode cX5_move 63 = .ok (.bipush (-3), 2) := by decide +kernel
theorem dX5_move_65 : decode cX5_move 65 = .ok (.if_icmp .ne 7, 3) := by decide +kernel
theorem dX5_move_68 : decode cX5_move 68 = .ok (.iconst 1, 1) := by decide +kernel
theorem dX5_move_69 : decode cX5_move 69 = .ok (.goto 4, 3) := by decide +kernel
theorem dX5_move_72 : decode cX5_move 72 = .ok (.iconst 0, 1) := by decide +kernel
theorem dX5_move_73 : decode cX5_move 73 = .ok (.istore_n 2, 1) := by decide +kernel
theorem dX5_move_74 : decode cX5_move 74 = .ok (.aload_n 0, 1) := by decide +kernel
theorem dX5_move_75 : decode cX5_move 75 = .ok (.iload_n 1, 1) := by decide +kernel
theorem dX5_move_76 : decode cX5_move 76 = .ok (.putfield 43, 3) := by decide +kernel
theorem dX5_move_79 : decode cX5_move 79 = .ok (.aload_n 0, 1) := by decide +kernel
theorem dX5_move_80 : decode cX5_move 80 = .ok (.iload_n 1, 1) := by decide +kernel
theorem dX5_move_81 : decode cX5_move 81 = .ok (.putfield 46, 3) := by decide +kernel
theorem dX5_move_84 : decode cX5_move 84 = .ok (.aload_n 0, 1) := by decide +kernel
theorem dX5_move_85 : decode cX5_move 85 = .ok (.iconst (-1), 1) := by decide +kernel
theorem dX5_move_86 : decode cX5_move 86 = .ok (.putfield 22, 3) := by decide +kernel
theorem dX5_move_89 : decode cX5_move 89 = .ok (.iload_n 1, 1) := by decide +kernel
theorem dX5_move_90 : decode cX5_move 90 = .ok (.ifCond .lt 38, 3) := by decide +kernel
theorem dX5_move_93 : decode cX5_move 93 = .ok (.iload_n 1, 1) := by decide +kernel
theorem dX5_move_94 : decode cX5_move 94 = .ok (.aload_n 0, 1) := by decide +kernel
theorem dX5_move_95 : decode cX5_move 95 = .ok (.getfield 18, 3) := by decide +kernel
theorem dX5_move_98 : decode cX5_move 98 = .ok (.if_icmp .ge 30, 3) := by decide +kernel
theorem dX5_move_101 : decode cX5_move 101 = .ok (.iload_n 1, 1) := by decide +kernel
theorem dX5_move_102 : decode cX5_move 102 = .ok (.sipush 1600, 3) := by decide +kernel
theorem dX5_move_105 : decode cX5_move 105 = .ok (.if_icmp .ge 23, 3) := by decide +kernel
theorem dX5_move_108 : decode cX5_move 108 = .ok (.aload_n 0, 1) := by decide +kernel
theorem dX5_move_109 : decode cX5_move 109 = .ok (.aload_n 0, 1) := by decide +kernel
theorem dX5_move_110 : decode cX5_move 110 = .ok (.getfield 9, 3) := by decide +kernel
theorem dX5_move_113 : decode cX5_move 113 = .ok (.iload_n 1, 1) := by decide +kernel
theorem dX5_move_114 : decode cX5_move 114 = .ok (.iaload, 1) := by decide +kernel
theorem dX5_move_115 : decode cX5_move 115 = .ok (.invokestatic 56, 3) := by decide +kernel
theorem dX5_move_118 : decode cX5_move 118 = .ok (.putfield 22, 3) := by decide +kernel
theorem dX5_move_121 : decode cX5_move 121 = .ok (.aload_n 0, 1) := by decide +kernel
theorem dX5_move_122 : decode cX5_move 122 = .ok (.iload_n 1, 1) := by decide +kernel
theorem dX5_move_123 : decode cX5_move 123 = .ok (.iconst 1, 1) := by decide +kernel
theorem dX5_move_124 : decode cX5_move 124 = .ok (.iadd, 1) := by decide +kernel
theorem dX5_move_125 : decode cX5_move 125 = .ok (.putfield 46, 3) := by decide +kernel
theorem dX5_move_128 : decode cX5_move 128 = .ok (.aload_n 0, 1) := by decide +kernel
theorem dX5_move_129 : decode cX5_move 129 = .ok (.getfield 22, 3) := by decide +kernel
theorem dX5_move_132 : decode cX5_move 132 = .ok (.bipush (-2), 2) := by decide +kernel
theorem dX5_move_134 : decode cX5_move 134 = .ok (.if_icmp .eq 12, 3) := by decide +kernel
theorem dX5_move_137 : decode cX5_move 137 = .ok (.aload_n 0, 1) := by decide +kernel
theorem dX5_move_138 : decode cX5_move 138 = .ok (.getfield 22, 3) := by decide +kernel
theorem dX5_move_141 : decode cX5_move 141 = .ok (.bipush (-3), 2) := by decide +kernel
theorem dX5_move_143 : decode cX5_move 143 = .ok (.if_icmp .ne 7, 3) := by decide +kernel
theorem dX5_move_146 : decode cX5_move 146 = .ok (.iconst 1, 1) := by decide +kernel
theorem dX5_move_147 : decode cX5_move 147 = .ok (.goto 4, 3) := by decide +kernel
theorem dX5_move_150 : decode cX5_move 150 = .ok (.iconst 0, 1) := by decide +kernel
theorem dX5_move_151 : decode cX5_move 151 = .ok (.istore_n 3, 1) := by decide +kernel
theorem dX5_move_152 : decode cX5_move 152 = .ok (.iload_n 3, 1) := by decide +kernel
theorem dX5_move_153 : decode cX5_move 153 = .ok (.ifCond .eq 56, 3) := by decide +kernel
theorem dX5_move_156 : decode cX5_move 156 = .ok (.aload_n 0, 1) := by decide +kernel
theorem dX5_move_157 : decode cX5_move 157 = .ok (.getfield 46, 3) := by decide +kernel
theorem dX5_move_160 : decode cX5_move 160 = .ok (.aload_n 0, 1) := by decide +kernel
theorem dX5_move_161 : decode cX5_move 161 = .ok (.getfield 18, 3) := by decide +kernel
theorem dX5_move_164 : decode cX5_move 164 = .ok (.if_icmp .ge 45, 3) := by decide +kernel
theorem dX5_move_167 : decode cX5_move 167 = .ok (.aload_n 0, 1) := by decide +kernel
theorem dX5_move_168 : decode cX5_move 168 = .ok (.getfield 46, 3) := by decide +kernel
theorem dX5_move_171 : decode cX5_move 171 = .ok (.sipush 1600, 3) := by decide +kernel
theorem dX5_move_174 : decode cX5_move 174 = .ok (.if_icmp .ge 35, 3) := by decide +kernel
theorem dX5_move_177 : decode cX5_move 177 = .ok (.aload_n 0, 1) := by decide +kernel
theorem dX5_move_178 : decode cX5_move 178 = .ok (.getfield 9, 3) := by decide +kernel
theorem dX5_move_181 : decode cX5_move 181 = .ok (.aload_n 0, 1) := by decide +kernel
theorem dX5_move_182 : decode cX5_move 182 = .ok (.getfield 46, 3) := by decide +kernel
theorem dX5_move_185 : decode cX5_move 185 = .ok (.iaload, 1) := by decide +kernel
theorem dX5_move_186 : decode cX5_move 186 = .ok (.invokestatic 56, 3) := by decide +kernel
theorem dX5_move_189 : decode cX5_move 189 = .ok (.aload_n 0, 1) := by decide +kernel
theorem dX5_move_190 : decode cX5_move 190 = .ok (.getfield 22, 3) := by decide +kernel
theorem dX5_move_193 : decode cX5_move 193 = .ok (.if_icmp .ne 16, 3) := by decide +kernel
theorem dX5_move_196 : decode cX5_move 196 = .ok (.aload_n 0, 1) := by decide +kernel
theorem dX5_move_197 : decode cX5_move 197 = .ok (.dup, 1) := by decide +kernel
theorem dX5_move_198 : decode cX5_move 198 = .ok (.getfield 46, 3) := by decide +kernel
theorem dX5_move_201 : decode cX5_move 201 = .ok (.iconst 1, 1) := by decide +kernel
theorem dX5_move_202 : decode cX5_move 202 = .ok (.iadd, 1) := by decide +kernel
theorem dX5_move_203 : decode cX5_move 203 = .ok (.putfield 46, 3) := by decide +kernel
theorem dX5_move_206 : decode cX5_move 206 = .ok (.goto (-54), 3) := by decide +kernel
theorem dX5_move_209 : decode cX5_move 209 = .ok (.aload_n 0, 1) := by decide +kernel
theorem dX5_move_210 : decode cX5_move 210 = .ok (.invokevirtual 60, 3) := by decide +kernel
theorem dX5_move_213 : decode cX5_move 213 = .ok (.iload_n 2, 1) := by decide +kernel
theorem dX5_move_214 : decode cX5_move 214 = .ok (.ifCond .eq 13, 3) := by decide +kernel
theorem dX5_move_217 : decode cX5_move 217 = .ok (.iload_n 3, 1) := by decide +kernel
theorem dX5_move_218 : decode cX5_move 218 = .ok (.ifCond .eq 9, 3) := by decide +kernel
theorem dX5_move_221 : decode cX5_move 221 = .ok (.aload_n 0, 1) := by decide +kernel
theorem dX5_move_222 : decode cX5_move 222 = .ok (.bipush (-4), 2) := by decide +kernel
theorem dX5_move_224 : decode cX5_move 224 = .ok (.putfield 22, 3) := by decide +kernel
theorem dX5_move_227 : decode cX5_move 227 = .ok (.return_, 1) := by decide +kernel
theorem dX5_readWord_0 : decode cX5_readWord 0 = .ok (.aload_n 0, 1) := by decide +kernel
theorem dX5_readWord_1 : decode cX5_readWord 1 = .ok (.iconst 0, 1) := by decide +kernel
theorem dX5_readWord_2 : decode cX5_readWord 2 = .ok (.putfield 63, 3) := by decide +kernel
theorem dX5_readWord_5 : decode cX5_readWord 5 = .ok (.aload_n 0, 1) := by decide +kernel
theorem dX5_readWord_6 : decode cX5_readWord 6 = .ok (.iconst (-1), 1) := by decide +kernel
theorem dX5_readWord_7 : decode cX5_readWord 7 = .ok (.putfield 66, 3) := by decide +kernel
theorem dX5_readWord_10 : decode cX5_readWord 10 = .ok (.aload_n 0, 1) := by decide +kernel
theorem dX5_readWord_11 : decode cX5_readWord 11 = .ok (.getfield 22, 3) := by decide +kernel
theorem dX5_readWord_14 : decode cX5_readWord 14 = .ok (.bipush (-2), 2) := by decide +kernel
theorem dX5_readWord_16 : decode cX5_readWord 16 = .ok (.if_icmp .ne 17, 3) := by decide +kernel
theorem dX5_readWord_19 : decode cX5_readWord 19 = .ok (.aload_n 0, 1) := by decide +kernel
theorem dX5_readWord_20 : decode cX5_readWord 20 = .ok (.getfield 46, 3) := by decide +kernel
theorem dX5_readWord_23 : decode cX5_readWord 23 = .ok (.aload_n 0, 1) := by decide +kernel
theorem dX5_readWord_24 : decode cX5_readWord 24 = .ok (.getfield 43, 3) := by decide +kernel
theorem dX5_readWord_27 : decode cX5_readWord 27 = .ok (.isub, 1) := by decide +kernel
theorem dX5_readWord_28 : decode cX5_readWord 28 = .ok (.bipush 6, 2) := by decide +kernel
theorem dX5_readWord_30 : decode cX5_readWord 30 = .ok (.if_icmp .le 4, 3) := by decide +kernel
theorem dX5_readWord_33 : decode cX5_readWord 33 = .ok (.return_, 1) := by decide +kernel
theorem dX5_readWord_34 : decode cX5_readWord 34 = .ok (.aload_n 0, 1) := by decide +kernel
theorem dX5_readWord_35 : decode cX5_readWord 35 = .ok (.getfield 43, 3) := by decide +kernel
theorem dX5_readWord_38 : decode cX5_readWord 38 = .ok (.istore_n 1, 1) := by decide +kernel
theorem dX5_readWord_39 : decode cX5_readWord 39 = .ok (.iload_n 1, 1) := by decide +kernel
theorem dX5_readWord_40 : decode cX5_readWord 40 = .ok (.aload_n 0, 1) := by decide +kernel
theorem dX5_readWord_41 : decode cX5_readWord 41 = .ok (.getfield 43, 3) := by decide +kernel
theorem dX5_readWord_44 : decode cX5_readWord 44 = .ok (.bipush 6, 2) := by decide +kernel
theorem dX5_readWord_46 : decode cX5_readWord 46 = .ok (.iadd, 1) := by decide +kernel
theorem dX5_readWord_47 : decode cX5_readWord 47 = .ok (.if_icmp .ge 64, 3) := by decide +kernel
theorem dX5_readWord_50 : decode cX5_readWord 50 = .ok (.iload_n 1, 1) := by decide +kernel
theorem dX5_readWord_51 : decode cX5_readWord 51 = .ok (.ifCond .lt 18, 3) := by decide +kernel
theorem dX5_readWord_54 : decode cX5_readWord 54 = .ok (.iload_n 1, 1) := by decide +kernel
theorem dX5_readWord_55 : decode cX5_readWord 55 = .ok (.aload_n 0, 1) := by decide +kernel
theorem dX5_readWord_56 : decode cX5_readWord 56 = .ok (.getfield 46, 3) := by decide +kernel
theorem dX5_readWord_59 : decode cX5_readWord 59 = .ok (.if_icmp .ge 10, 3) := by decide +kernel
theorem dX5_readWord_62 : decode cX5_readWord 62 = .ok (.iload_n 1, 1) := by decide +kernel
theorem dX5_readWord_63 : decode cX5_readWord 63 = .ok (.sipush 1600, 3) := by decide +kernel
theorem dX5_readWord_66 : decode cX5_readWord 66 = .ok (.if_icmp .lt 7, 3) := by decide +kernel
theorem dX5_readWord_69 : decode cX5_readWord 69 = .ok (.iconst 1, 1) := by decide +kernel
theorem dX5_readWord_70 : decode cX5_readWord 70 = .ok (.goto 4, 3) := by decide +kernel
theorem dX5_readWord_73 : decode cX5_readWord 73 = .ok (.iconst 0, 1) := by decide +kernel
theorem dX5_readWord_74 : decode cX5_readWord 74 = .ok (.istore_n 2, 1) := by decide +kernel
theorem dX5_readWord_75 : decode cX5_readWord 75 = .ok (.aload_n 0, 1) := by decide +kernel
theorem dX5_readWord_76 : decode cX5_readWord 76 = .ok (.aload_n 0, 1) := by decide +kernel
theorem dX5_readWord_77 : decode cX5_readWord 77 = .ok (.getfield 63, 3) := by decide +kernel
theorem dX5_readWord_80 : decode cX5_readWord 80 = .ok (.iconst 5, 1) := by decide +kernel
theorem dX5_readWord_81 : decode cX5_readWord 81 = .ok (.ishl, 1) := by decide +kernel
theorem dX5_readWord_82 : decode cX5_readWord 82 = .ok (.iload_n 2, 1) := by decide +kernel
theorem dX5_readWord_83 : decode cX5_readWord 83 = .ok (.ifCond .eq 7, 3) := by decide +kernel
theorem dX5_readWord_86 : decode cX5_readWord 86 = .ok (.iconst 0, 1) := by decide +kernel
theorem dX5_readWord_87 : decode cX5_readWord 87 = .ok (.goto 14, 3) := by decide +kernel
theorem dX5_readWord_90 : decode cX5_readWord 90 = .ok (.aload_n 0, 1) := by decide +kernel
theorem dX5_readWord_91 : decode cX5_readWord 91 = .ok (.getfield 9, 3) := by decide +kernel
theorem dX5_readWord_94 : decode cX5_readWord 94 = .ok (.iload_n 1, 1) := by decide +kernel
theorem dX5_readWord_95 : decode cX5_readWord 95 = .ok (.iaload, 1) := by decide +kernel
theorem dX5_readWord_96 : decode cX5_readWord 96 = .ok (.bipush 97, 2) := by decide +kernel
theorem dX5_readWord_98 : decode cX5_readWord 98 = .ok (.isub, 1) := by decide +kernel
theorem dX5_readWord_99 : decode cX5_readWord 99 = .ok (.iconst 1, 1) := by decide +kernel
theorem dX5_readWord_100 : decode cX5_readWord 100 = .ok (.iadd, 1) := by decide +kernel
theorem dX5_readWord_101 : decode cX5_readWord 101 = .ok (.ior, 1) := by decide +kernel
theorem dX5_readWord_102 : decode cX5_readWord 102 = .ok (.putfield 63, 3) := by decide +kernel
theorem dX5_readWord_105 : decode cX5_readWord 105 = .ok (.iinc 1 1, 3) := by decide +kernel
theorem dX5_readWord_108 : decode cX5_readWord 108 = .ok (.goto (-69), 3) := by decide +kernel
theorem dX5_readWord_111 : decode cX5_readWord 111 = .ok (.iconst 0, 1) := by decide +kernel
theorem dX5_readWord_112 : decode cX5_readWord 112 = .ok (.istore_n 1, 1) := by decide +kernel
theorem dX5_readWord_113 : decode cX5_readWord 113 = .ok (.iload_n 1, 1) := by decide +kernel
theorem dX5_readWord_114 : decode cX5_readWord 114 = .ok (.bipush 40, 2) := by decide +kernel
theorem dX5_readWord_116 : decode cX5_readWord 116 = .ok (.if_icmp .ge 34, 3) := by decide +kernel
theorem dX5_readWord_119 : decode cX5_readWord 119 = .ok (.aload_n 0, 1) := by decide +kernel
theorem dX5_readWord_120 : decode cX5_readWord 120 = .ok (.aload_n 0, 1) := by decide +kernel
theorem dX5_readWord_121 : decode cX5_readWord 121 = .ok (.getfield 15, 3) := by decide +kernel
theorem dX5_readWord_124 : decode cX5_readWord 124 = .ok (.iload_n 1, 1) := by decide +kernel
theorem dX5_readWord_125 : decode cX5_readWord 125 = .ok (.iaload, 1) := by decide +kernel
theorem dX5_readWord_126 : decode cX5_readWord 126 = .ok (.aload_n 0, 1) := by decide +kernel
theorem dX5_readWord_127 : decode cX5_readWord 127 = .ok (.getfield 63, 3) := by decide +kernel
theorem dX5_readWord_130 : decode cX5_readWord 130 = .ok (.if_icmp .ne 7, 3) := by decide +kernel
theorem dX5_readWord_133 : decode cX5_readWord 133 = .ok (.iload_n 1, 1) := by decide +kernel
theorem dX5_readWord_134 : decode cX5_readWord 134 = .ok (.goto 7, 3) := by decide +kernel
theorem dX5_readWord_137 : decode cX5_readWord 137 = .ok (.aload_n 0, 1) := by decide +kernel
theorem dX5_readWord_138 : decode cX5_readWord 138 = .ok (.getfield 66, 3) := by decide +kernel
theorem dX5_readWord_141 : decode cX5_readWord 141 = .ok (.putfield 66, 3) := by decide +kernel
theorem dX5_readWord_144 : decode cX5_readWord 144 = .ok (.iinc 1 1, 3) := by decide +kernel
theorem dX5_readWord_147 : decode cX5_readWord 147 = .ok (.goto (-34), 3) := by decide +kernel
theorem dX5_readWord_150 : decode cX5_readWord 150 = .ok (.return_, 1) := by decide +kernel
theorem dX5_numberHere_0 : decode cX5_numberHere 0 = .ok (.iconst 0, 1) := by decide +kernel
theorem dX5_numberHere_1 : decode cX5_numberHere 1 = .ok (.istore_n 1, 1) := by decide +kernel
theorem dX5_numberHere_2 : decode cX5_numberHere 2 = .ok (.aload_n 0, 1) := by decide +kernel
theorem dX5_numberHere_3 : decode cX5_numberHere 3 = .ok (.getfield 43, 3) := by decide +kernel
theorem dX5_numberHere_6 : decode cX5_numberHere 6 = .ok (.istore_n 2, 1) := by decide +kernel
theorem dX5_numberHere_7 : decode cX5_numberHere 7 = .ok (.iload_n 2, 1) := by decide +kernel
theorem dX5_numberHere_8 : decode cX5_numberHere 8 = .ok (.ifCond .lt 39, 3) := by decide +kernel
theorem dX5_numberHere_11 : decode cX5_numberHere 11 = .ok (.iload_n 2, 1) := by decide +kernel
theorem dX5_numberHere_12 : decode cX5_numberHere 12 = .ok (.aload_n 0, 1) := by decide +kernel
theorem dX5_numberHere_13 : decode cX5_numberHere 13 = .ok (.getfield 46, 3) := by decide +kernel
theorem dX5_numberHere_16 : decode cX5_numberHere 16 = .ok (.if_icmp .ge 31, 3) := by decide +kernel
theorem dX5_numberHere_19 : decode cX5_numberHere 19 = .ok (.iload_n 2, 1) := by decide +kernel
theorem dX5_numberHere_20 : decode cX5_numberHere 20 = .ok (.sipush 1600, 3) := by decide +kernel
theorem dX5_numberHere_23 : decode cX5_numberHere 23 = .ok (.if_icmp .ge 24, 3) := by decide +kernel
theorem dX5_numberHere_26 : decode cX5_numberHere 26 = .ok (.iload_n 1, 1) := by decide +kernel
theorem dX5_numberHere_27 : decode cX5_numberHere 27 = .ok (.bipush 10, 2) := by decide +kernel
theorem dX5_numberHere_29 : decode cX5_numberHere 29 = .ok (.imul, 1) := by decide +kernel
theorem dX5_numberHere_30 : decode cX5_numberHere 30 = .ok (.aload_n 0, 1) := by decide +kernel
theorem dX5_numberHere_31 : decode cX5_numberHere 31 = .ok (.getfield 9, 3) := by decide +kernel
theorem dX5_numberHere_34 : decode cX5_numberHere 34 = .ok (.iload_n 2, 1) := by decide +kernel
theorem dX5_numberHere_35 : decode cX5_numberHere 35 = .ok (.iaload, 1) := by decide +kernel
theorem dX5_numberHere_36 : decode cX5_numberHere 36 = .ok (.iadd, 1) := by decide +kernel
theorem dX5_numberHere_37 : decode cX5_numberHere 37 = .ok (.bipush 48, 2) := by decide +kernel
theorem dX5_numberHere_39 : decode cX5_numberHere 39 = .ok (.isub, 1) := by decide +kernel
theorem dX5_numberHere_40 : decode cX5_numberHere 40 = .ok (.istore_n 1, 1) := by decide +kernel
theorem dX5_numberHere_41 : decode cX5_numberHere 41 = .ok (.iinc 2 1, 3) := by decide +kernel
theorem dX5_numberHere_44 : decode cX5_numberHere 44 = .ok (.goto (-37), 3) := by decide +kernel
theorem dX5_numberHere_47 : decode cX5_numberHere 47 = .ok (.iload_n 1, 1) := by decide +kernel
theorem dX5_numberHere_48 : decode cX5_numberHere 48 = .ok (.ireturn, 1) := by decide +kernel
theorem dX5_fail_0 : decode cX5_fail 0 = .ok (.aload_n 0, 1) := by decide +kernel
theorem dX5_fail_1 : decode cX5_fail 1 = .ok (.iload_n 1, 1) := by decide +kernel
theorem dX5_fail_2 : decode cX5_fail 2 = .ok (.putfield 25, 3) := by decide +kernel
theorem dX5_fail_5 : decode cX5_fail 5 = .ok (.aload_n 0, 1) := by decide +kernel
theorem dX5_fail_6 : decode cX5_fail 6 = .ok (.iload_n 2, 1) := by decide +kernel
theorem dX5_fail_7 : decode cX5_fail 7 = .ok (.putfield 28, 3) := by decide +kernel
theorem dX5_fail_10 : decode cX5_fail 10 = .ok (.iconst 0, 1) := by decide +kernel
theorem dX5_fail_11 : decode cX5_fail 11 = .ok (.ireturn, 1) := by decide +kernel
theorem dX5_failHere_0 : decode cX5_failHere 0 = .ok (.aload_n 0, 1) := by decide +kernel
theorem dX5_failHere_1 : decode cX5_failHere 1 = .ok (.iload_n 1, 1) := by decide +kernel
theorem dX5_failHere_2 : decode cX5_failHere 2 = .ok (.aload_n 0, 1) := by decide +kernel
theorem dX5_failHere_3 : decode cX5_failHere 3 = .ok (.getfield 43, 3) := by decide +kernel
theorem dX5_failHere_6 : decode cX5_failHere 6 = .ok (.invokevirtual 69, 3) := by decide +kernel
theorem dX5_failHere_9 : decode cX5_failHere 9 = .ok (.ireturn, 1) := by decide +kernel
theorem dX5_isWord_0 : decode cX5_isWord 0 = .ok (.aload_n 0, 1) := by decide +kernel
theorem dX5_isWord_1 : decode cX5_isWord 1 = .ok (.getfield 22, 3) := by decide +kernel
theorem dX5_isWord_4 : decode cX5_isWord 4 = .ok (.bipush (-2), 2) := by decide +kernel
theorem dX5_isWord_6 : decode cX5_isWord 6 = .ok (.if_icmp .ne 15, 3) := by decide +kernel
theorem dX5_isWord_9 : decode cX5_isWord 9 = .ok (.aload_n 0, 1) := by decide +kernel
theorem dX5_isWord_10 : decode cX5_isWord 10 = .ok (.getfield 66, 3) := by decide +kernel
theorem dX5_isWord_13 : decode cX5_isWord 13 = .ok (.iload_n 1, 1) := by decide +kernel
theorem dX5_isWord_14 : decode cX5_isWord 14 = .ok (.if_icmp .ne 7, 3) := by decide +kernel
theorem dX5_isWord_17 : decode cX5_isWord 17 = .ok (.iconst 1, 1) := by decide +kernel
theorem dX5_isWord_18 : decode cX5_isWord 18 = .ok (.goto 4, 3) := by decide +kernel
theorem dX5_isWord_21 : decode cX5_isWord 21 = .ok (.iconst 0, 1) := by decide +kernel
theorem dX5_isWord_22 : decode cX5_isWord 22 = .ok (.ireturn, 1) := by decide +kernel
theorem dX5_takeWord_0 : decode cX5_takeWord 0 = .ok (.aload_n 0, 1) := by decide +kernel
theorem dX5_takeWord_1 : decode cX5_takeWord 1 = .ok (.iload_n 1, 1) := by decide +kernel
theorem dX5_takeWord_2 : decode cX5_takeWord 2 = .ok (.invokevirtual 73, 3) := by decide +kernel
theorem dX5_takeWord_5 : decode cX5_takeWord 5 = .ok (.ifCond .ne 9, 3) := by decide +kernel
theorem dX5_takeWord_8 : decode cX5_takeWord 8 = .ok (.aload_n 0, 1) := by decide +kernel
theorem dX5_takeWord_9 : decode cX5_takeWord 9 = .ok (.iconst 1, 1) := by decide +kernel
theorem dX5_takeWord_10 : decode cX5_takeWord 10 = .ok (.invokevirtual 76, 3) := by decide +kernel
theorem dX5_takeWord_13 : decode cX5_takeWord 13 = .ok (.ireturn, 1) := by decide +kernel
theorem dX5_takeWord_14 : decode cX5_takeWord 14 = .ok (.aload_n 0, 1) := by decide +kernel
theorem dX5_takeWord_15 : decode cX5_takeWord 15 = .ok (.invokevirtual 49, 3) := by decide +kernel
theorem dX5_takeWord_18 : decode cX5_takeWord 18 = .ok (.iconst 1, 1) := by decide +kernel
theorem dX5_takeWord_19 : decode cX5_takeWord 19 = .ok (.ireturn, 1) := by decide +kernel
theorem dX5_takeSign_0 : decode cX5_takeSign 0 = .ok (.aload_n 0, 1) := by decide +kernel
theorem dX5_takeSign_1 : decode cX5_takeSign 1 = .ok (.getfield 22, 3) := by decide +kernel
theorem dX5_takeSign_4 : decode cX5_takeSign 4 = .ok (.iload_n 1, 1) := by decide +kernel
theorem dX5_takeSign_5 : decode cX5_takeSign 5 = .ok (.if_icmp .eq 9, 3) := by decide +kernel
theorem dX5_takeSign_8 : decode cX5_takeSign 8 = .ok (.aload_n 0, 1) := by decide +kernel
theorem dX5_takeSign_9 : decode cX5_takeSign 9 = .ok (.iconst 1, 1) := by decide +kernel
theorem dX5_takeSign_10 : decode cX5_takeSign 10 = .ok (.invokevirtual 76, 3) := by decide +kernel
theorem dX5_takeSign_13 : decode cX5_takeSign 13 = .ok (.ireturn, 1) := by decide +kernel
theorem dX5_takeSign_14 : decode cX5_takeSign 14 = .ok (.aload_n 0, 1) := by decide +kernel
theorem dX5_takeSign_15 : decode cX5_takeSign 15 = .ok (.invokevirtual 49, 3) := by decide +kernel
theorem dX5_takeSign_18 : decode cX5_takeSign 18 = .ok (.iconst 1, 1) := by decide +kernel
theorem dX5_takeSign_19 : decode cX5_takeSign 19 = .ok (.ireturn, 1) := by decide +kernel
theorem dX5_takeNumber_0 : decode cX5_takeNumber 0 = .ok (.aload_n 0, 1) := by decide +kernel
theorem dX5_takeNumber_1 : decode cX5_takeNumber 1 = .ok (.getfield 22, 3) := by decide +kernel
theorem dX5_takeNumber_4 : decode cX5_takeNumber 4 = .ok (.bipush (-3), 2) := by decide +kernel
theorem dX5_takeNumber_6 : decode cX5_takeNumber 6 = .ok (.if_icmp .eq 11, 3) := by decide +kernel
theorem dX5_takeNumber_9 : decode cX5_takeNumber 9 = .ok (.aload_n 0, 1) := by decide +kernel
theorem dX5_takeNumber_10 : decode cX5_takeNumber 10 = .ok (.iconst 1, 1) := by decide +kernel
theorem dX5_takeNumber_11 : decode cX5_takeNumber 11 = .ok (.invokevirtual 76, 3) := by decide +kernel
theorem dX5_takeNumber_14 : decode cX5_takeNumber 14 = .ok (.pop, 1) := by decide +kernel
theorem dX5_takeNumber_15 : decode cX5_takeNumber 15 = .ok (.iconst (-1), 1) := by decide +kernel
theorem dX5_takeNumber_16 : decode cX5_takeNumber 16 = .ok (.ireturn, 1) := by decide +kernel
theorem dX5_takeNumber_17 : decode cX5_takeNumber 17 = .ok (.aload_n 0, 1) := by decide +kernel
theorem dX5_takeNumber_18 : decode cX5_takeNumber 18 = .ok (.getfield 46, 3) := by decide +kernel
theorem dX5_takeNumber_21 : decode cX5_takeNumber 21 = .ok (.aload_n 0, 1) := by decide +kernel
theorem dX5_takeNumber_22 : decode cX5_takeNumber 22 = .ok (.getfield 43, 3) := by decide +kernel
theorem dX5_takeNumber_25 : decode cX5_takeNumber 25 = .ok (.isub, 1) := by decide +kernel
theorem dX5_takeNumber_26 : decode cX5_takeNumber 26 = .ok (.iconst 4, 1) := by decide +kernel
theorem dX5_takeNumber_27 : decode cX5_takeNumber 27 = .ok (.if_icmp .le 17, 3) := by decide +kernel
theorem dX5_takeNumber_30 : decode cX5_takeNumber 30 = .ok (.aload_n 0, 1) := by decide +kernel
theorem dX5_takeNumber_31 : decode cX5_takeNumber 31 = .ok (.iconst 1, 1) := by decide +kernel
theorem dX5_takeNumber_32 : decode cX5_takeNumber 32 = .ok (.aload_n 0, 1) := by decide +kernel
theorem dX5_takeNumber_33 : decode cX5_takeNumber 33 = .ok (.getfield 43, 3) := by decide +kernel
theorem dX5_takeNumber_36 : decode cX5_takeNumber 36 = .ok (.iconst 4, 1) := by decide +kernel
theorem dX5_takeNumber_37 : decode cX5_takeNumber 37 = .ok (.iadd, 1) := by decide +kernel
theorem dX5_takeNumber_38 : decode cX5_takeNumber 38 = .ok (.invokevirtual 69, 3) := by decide +kernel
theorem dX5_takeNumber_41 : decode cX5_takeNumber 41 = .ok (.pop, 1) := by decide +kernel
theorem dX5_takeNumber_42 : decode cX5_takeNumber 42 = .ok (.iconst (-1), 1) := by decide +kernel
theorem dX5_takeNumber_43 : decode cX5_takeNumber 43 = .ok (.ireturn, 1) := by decide +kernel
theorem dX5_takeNumber_44 : decode cX5_takeNumber 44 = .ok (.aload_n 0, 1) := by decide +kernel
theorem dX5_takeNumber_45 : decode cX5_takeNumber 45 = .ok (.invokevirtual 79, 3) := by decide +kernel
theorem dX5_takeNumber_48 : decode cX5_takeNumber 48 = .ok (.istore_n 3, 1) := by decide +kernel
theorem dX5_takeNumber_49 : decode cX5_takeNumber 49 = .ok (.iload_n 3, 1) := by decide +kernel
theorem dX5_takeNumber_50 : decode cX5_takeNumber 50 = .ok (.iload_n 1, 1) := by decide +kernel
theorem dX5_takeNumber_51 : decode cX5_takeNumber 51 = .ok (.if_icmp .lt 8, 3) := by decide +kernel
theorem dX5_takeNumber_54 : decode cX5_takeNumber 54 = .ok (.iload_n 3, 1) := by decide +kernel
theorem dX5_takeNumber_55 : decode cX5_takeNumber 55 = .ok (.iload_n 2, 1) := by decide +kernel
theorem dX5_takeNumber_56 : decode cX5_takeNumber 56 = .ok (.if_icmp .le 11, 3) := by decide +kernel
theorem dX5_takeNumber_59 : decode cX5_takeNumber 59 = .ok (.aload_n 0, 1) := by decide +kernel
theorem dX5_takeNumber_60 : decode cX5_takeNumber 60 = .ok (.iconst 2, 1) := by decide +kernel
theorem dX5_takeNumber_61 : decode cX5_takeNumber 61 = .ok (.invokevirtual 76, 3) := by decide +kernel
theorem dX5_takeNumber_64 : decode cX5_takeNumber 64 = .ok (.pop, 1) := by decide +kernel
theorem dX5_takeNumber_65 : decode cX5_takeNumber 65 = .ok (.iconst (-1), 1) := by decide +kernel
theorem dX5_takeNumber_66 : decode cX5_takeNumber 66 = .ok (.ireturn, 1) := by decide +kernel
theorem dX5_takeNumber_67 : decode cX5_takeNumber 67 = .ok (.aload_n 0, 1) := by decide +kernel
theorem dX5_takeNumber_68 : decode cX5_takeNumber 68 = .ok (.invokevirtual 49, 3) := by decide +kernel
theorem dX5_takeNumber_71 : decode cX5_takeNumber 71 = .ok (.iload_n 3, 1) := by decide +kernel
theorem dX5_takeNumber_72 : decode cX5_takeNumber 72 = .ok (.ireturn, 1) := by decide +kernel
theorem dX5_isAtName_0 : decode cX5_isAtName 0 = .ok (.aload_n 0, 1) := by decide +kernel
theorem dX5_isAtName_1 : decode cX5_isAtName 1 = .ok (.getfield 22, 3) := by decide +kernel
theorem dX5_isAtName_4 : decode cX5_isAtName 4 = .ok (.bipush (-2), 2) := by decide +kernel
theorem dX5_isAtName_6 : decode cX5_isAtName 6 = .ok (.if_icmp .eq 9, 3) := by decide +kernel
theorem dX5_isAtName_9 : decode cX5_isAtName 9 = .ok (.aload_n 0, 1) := by decide +kernel
theorem dX5_isAtName_10 : decode cX5_isAtName 10 = .ok (.iconst 1, 1) := by decide +kernel
theorem dX5_isAtName_11 : decode cX5_isAtName 11 = .ok (.invokevirtual 76, 3) := by decide +kernel
theorem dX5_isAtName_14 : decode cX5_isAtName 14 = .ok (.ireturn, 1) := by decide +kernel
theorem dX5_isAtName_15 : decode cX5_isAtName 15 = .ok (.aload_n 0, 1) := by decide +kernel
theorem dX5_isAtName_16 : decode cX5_isAtName 16 = .ok (.getfield 46, 3) := by decide +kernel
theorem dX5_isAtName_19 : decode cX5_isAtName 19 = .ok (.aload_n 0, 1) := by decide +kernel
theorem dX5_isAtName_20 : decode cX5_isAtName 20 = .ok (.getfield 43, 3) := by decide +kernel
theorem dX5_isAtName_23 : decode cX5_isAtName 23 = .ok (.isub, 1) := by decide +kernel
theorem dX5_isAtName_24 : decode cX5_isAtName 24 = .ok (.bipush 6, 2) := by decide +kernel
theorem dX5_isAtName_26 : decode cX5_isAtName 26 = .ok (.if_icmp .le 16, 3) := by decide +kernel
theorem dX5_isAtName_29 : decode cX5_isAtName 29 = .ok (.aload_n 0, 1) := by decide +kernel
theorem dX5_isAtName_30 : decode cX5_isAtName 30 = .ok (.iconst 1, 1) := by decide +kernel
theorem dX5_isAtName_31 : decode cX5_isAtName 31 = .ok (.aload_n 0, 1) := by decide +kernel
theorem dX5_isAtName_32 : decode cX5_isAtName 32 = .ok (.getfield 43, 3) := by decide +kernel
theorem dX5_isAtName_35 : decode cX5_isAtName 35 = .ok (.bipush 6, 2) := by decide +kernel
theorem dX5_isAtName_37 : decode cX5_isAtName 37 = .ok (.iadd, 1) := by decide +kernel
theorem dX5_isAtName_38 : decode cX5_isAtName 38 = .ok (.invokevirtual 69, 3) := by decide +kernel
theorem dX5_isAtName_41 : decode cX5_isAtName 41 = .ok (.ireturn, 1) := by decide +kernel
theorem dX5_isAtName_42 : decode cX5_isAtName 42 = .ok (.aload_n 0, 1) := by decide +kernel
theorem dX5_isAtName_43 : decode cX5_isAtName 43 = .ok (.getfield 66, 3) := by decide +kernel
theorem dX5_isAtName_46 : decode cX5_isAtName 46 = .ok (.iconst (-1), 1) := by decide +kernel
theorem dX5_isAtName_47 : decode cX5_isAtName 47 = .ok (.if_icmp .eq 18, 3) := by decide +kernel
theorem dX5_isAtName_50 : decode cX5_isAtName 50 = .ok (.aload_n 0, 1) := by decide +kernel
theorem dX5_isAtName_51 : decode cX5_isAtName 51 = .ok (.getfield 66, 3) := by decide +kernel
theorem dX5_isAtName_54 : decode cX5_isAtName 54 = .ok (.bipush 34, 2) := by decide +kernel
theorem dX5_isAtName_56 : decode cX5_isAtName 56 = .ok (.if_icmp .ge 9, 3) := by decide +kernel
theorem dX5_isAtName_59 : decode cX5_isAtName 59 = .ok (.aload_n 0, 1) := by decide +kernel
theorem dX5_isAtName_60 : decode cX5_isAtName 60 = .ok (.iconst 1, 1) := by decide +kernel
theorem dX5_isAtName_61 : decode cX5_isAtName 61 = .ok (.invokevirtual 76, 3) := by decide +kernel
theorem dX5_isAtName_64 : decode cX5_isAtName 64 = .ok (.ireturn, 1) := by decide +kernel
theorem dX5_isAtName_65 : decode cX5_isAtName 65 = .ok (.iconst 1, 1) := by decide +kernel
theorem dX5_isAtName_66 : decode cX5_isAtName 66 = .ok (.ireturn, 1) := by decide +kernel
theorem dX5_isBlank_0 : decode cX5_isBlank 0 = .ok (.iload_n 0, 1) := by decide +kernel
theorem dX5_isBlank_1 : decode cX5_isBlank 1 = .ok (.bipush 10, 2) := by decide +kernel
theorem dX5_isBlank_3 : decode cX5_isBlank 3 = .ok (.if_icmp .eq 9, 3) := by decide +kernel
theorem dX5_isBlank_6 : decode cX5_isBlank 6 = .ok (.iload_n 0, 1) := by decide +kernel
theorem dX5_isBlank_7 : decode cX5_isBlank 7 = .ok (.bipush 32, 2) := by decide +kernel
theorem dX5_isBlank_9 : decode cX5_isBlank 9 = .ok (.if_icmp .ne 7, 3) := by decide +kernel
theorem dX5_isBlank_12 : decode cX5_isBlank 12 = .ok (.iconst 1, 1) := by decide +kernel
theorem dX5_isBlank_13 : decode cX5_isBlank 13 = .ok (.goto 4, 3) := by decide +kernel
theorem dX5_isBlank_16 : decode cX5_isBlank 16 = .ok (.iconst 0, 1) := by decide +kernel
theorem dX5_isBlank_17 : decode cX5_isBlank 17 = .ok (.ireturn, 1) := by decide +kernel
theorem dX5_kindOf_0 : decode cX5_kindOf 0 = .ok (.iload_n 0, 1) := by decide +kernel
theorem dX5_kindOf_1 : decode cX5_kindOf 1 = .ok (.bipush 97, 2) := by decide +kernel
theorem dX5_kindOf_3 : decode cX5_kindOf 3 = .ok (.if_icmp .lt 12, 3) := by decide +kernel
theorem dX5_kindOf_6 : decode cX5_kindOf 6 = .ok (.iload_n 0, 1) := by decide +kernel
theorem dX5_kindOf_7 : decode cX5_kindOf 7 = .ok (.bipush 122, 2) := by decide +kernel
theorem dX5_kindOf_9 : decode cX5_kindOf 9 = .ok (.if_icmp .gt 6, 3) := by decide +kernel
theorem dX5_kindOf_12 : decode cX5_kindOf 12 = .ok (.bipush (-2), 2) := by decide +kernel
theorem dX5_kindOf_14 : decode cX5_kindOf 14 = .ok (.ireturn, 1) := by decide +kernel
theorem dX5_kindOf_15 : decode cX5_kindOf 15 = .ok (.iload_n 0, 1) := by decide +kernel
theorem dX5_kindOf_16 : decode cX5_kindOf 16 = .ok (.bipush 48, 2) := by decide +kernel
theorem dX5_kindOf_18 : decode cX5_kindOf 18 = .ok (.if_icmp .lt 14, 3) := by decide +kernel
theorem dX5_kindOf_21 : decode cX5_kindOf 21 = .ok (.iload_n 0, 1) := by decide +kernel
theorem dX5_kindOf_22 : decode cX5_kindOf 22 = .ok (.bipush 57, 2) := by decide +kernel
theorem dX5_kindOf_24 : decode cX5_kindOf 24 = .ok (.if_icmp .gt 8, 3) := by decide +kernel
theorem dX5_kindOf_27 : decode cX5_kindOf 27 = .ok (.bipush (-3), 2) := by decide +kernel
theorem dX5_kindOf_29 : decode cX5_kindOf 29 = .ok (.goto 4, 3) := by decide +kernel
theorem dX5_kindOf_32 : decode cX5_kindOf 32 = .ok (.iload_n 0, 1) := by decide +kernel
theorem dX5_kindOf_33 : decode cX5_kindOf 33 = .ok (.ireturn, 1) := by decide +kernel
theorem dX6_init_0 : decode cX6_init 0 = .ok (.aload_n 0, 1) := by decide +kernel
theorem dX6_init_1 : decode cX6_init 1 = .ok (.invokespecial 3, 3) := by decide +kernel
theorem dX6_init_4 : decode cX6_init 4 = .ok (.aload_n 0, 1) := by decide +kernel
theorem dX6_init_5 : decode cX6_init 5 = .ok (.bipush 40, 2) := by decide +kernel
theorem dX6_init_7 : decode cX6_init 7 = .ok (.newarray .int, 2) := by decide +kernel
theorem dX6_init_9 : decode cX6_init 9 = .ok (.putfield 9, 3) := by decide +kernel
theorem dX6_init_12 : decode cX6_init 12 = .ok (.aload_n 0, 1) := by decide +kernel
theorem dX6_init_13 : decode cX6_init 13 = .ok (.bipush 48, 2) := by decide +kernel
theorem dX6_init_15 : decode cX6_init 15 = .ok (.newarray .int, 2) := by decide +kernel
theorem dX6_init_17 : decode cX6_init 17 = .ok (.putfield 15, 3) := by decide +kernel
theorem dX6_init_20 : decode cX6_init 20 = .ok (.aload_n 0, 1) := by decide +kernel
theorem dX6_init_21 : decode cX6_init 21 = .ok (.bipush 64, 2) := by decide +kernel
theorem dX6_init_23 : decode cX6_init 23 = .ok (.newarray .int, 2) := by decide +kernel
theorem dX6_init_25 : decode cX6_init 25 = .ok (.putfield 18, 3) := by decide +kernel
theorem dX6_init_28 : decode cX6_init 28 = .ok (.aload_n 0, 1) := by decide +kernel
theorem dX6_init_29 : decode cX6_init 29 = .ok (.iconst 0, 1) := by decide +kernel
theorem dX6_init_30 : decode cX6_init 30 = .ok (.putfield 21, 3) := by decide +kernel
theorem dX6_init_33 : decode cX6_init 33 = .ok (.return_, 1) := by decide +kernel
theorem dX6_reckon_0 : decode cX6_reckon 0 = .ok (.aload_n 0, 1) := by decide +kernel
theorem dX6_reckon_1 : decode cX6_reckon 1 = .ok (.iconst 0, 1) := by decide +kernel
theorem dX6_reckon_2 : decode cX6_reckon 2 = .ok (.putfield 21, 3) := by decide +kernel
theorem dX6_reckon_5 : decode cX6_reckon 5 = .ok (.aload_n 1, 1) := by decide +kernel
theorem dX6_reckon_6 : decode cX6_reckon 6 = .ok (.iload_n 2, 1) := by decide +kernel
theorem dX6_reckon_7 : decode cX6_reckon 7 = .ok (.invokevirtual 25, 3) := by decide +kernel
theorem dX6_reckon_10 : decode cX6_reckon 10 = .ok (.ifCond .ne 5, 3) := by decide +kernel
theorem dX6_reckon_13 : decode cX6_reckon 13 = .ok (.iconst 0, 1) := by decide +kernel
theorem dX6_reckon_14 : decode cX6_reckon 14 = .ok (.ireturn, 1) := by decide +kernel
theorem dX6_reckon_15 : decode cX6_reckon 15 = .ok (.aload_n 1, 1) := by decide +kernel
theorem dX6_reckon_16 : decode cX6_reckon 16 = .ok (.getfield 31, 3) := by decide +kernel
theorem dX6_reckon_19 : decode cX6_reckon 19 = .ok (.iload_n 2, 1) := by decide +kernel
theorem dX6_reckon_20 : decode cX6_reckon 20 = .ok (.iaload, 1) := by decide +kernel
theorem dX6_reckon_21 : decode cX6_reckon 21 = .ok (.istore_n 3, 1) := by decide +kernel
theorem dX6_reckon_22 : decode cX6_reckon 22 = .ok (.iload_n 3, 1) := by decide +kernel
theorem dX6_reckon_23 : decode cX6_reckon 23 = .ok (.ifCond .lt 56, 3) := by decide +kernel
theorem dX6_reckon_26 : decode cX6_reckon 26 = .ok (.iload_n 3, 1) := by decide +kernel
theorem dX6_reckon_27 : decode cX6_reckon 27 = .ok (.aload_n 1, 1) := by decide +kernel
theorem dX6_reckon_28 : decode cX6_reckon 28 = .ok (.getfield 34, 3) := by decide +kernel
theorem dX6_reckon_31 : decode cX6_reckon 31 = .ok (.iload_n 2, 1) := by decide +kernel
theorem dX6_reckon_32 : decode cX6_reckon 32 = .ok (.iaload, 1) := by decide +kernel
theorem dX6_reckon_33 : decode cX6_reckon 33 = .ok (.if_icmp .ge 46, 3) := by decide +kernel
theorem dX6_reckon_36 : decode cX6_reckon 36 = .ok (.iload_n 3, 1) := by decide +kernel
theorem dX6_reckon_37 : decode cX6_reckon 37 = .ok (.sipush 1600, 3) := by decide +kernel
theorem dX6_reckon_40 : decode cX6_reckon 40 = .ok (.if_icmp .ge 39, 3) := by decide +kernel
theorem dX6_reckon_43 : decode cX6_reckon 43 = .ok (.aload_n 1, 1) := by decide +kernel
theorem dX6_reckon_44 : decode cX6_reckon 44 = .ok (.getfield 37, 3) := by decide +kernel
theorem dX6_reckon_47 : decode cX6_reckon 47 = .ok (.iload_n 3, 1) := by decide +kernel
theorem dX6_reckon_48 : decode cX6_reckon 48 = .ok (.iaload, 1) := by decide +kernel
theorem dX6_reckon_49 : decode cX6_reckon 49 = .ok (.istore 4, 2) := by decide +kernel
theorem dX6_reckon_51 : decode cX6_reckon 51 = .ok (.iload 4, 2) := by decide +kernel
theorem dX6_reckon_53 : decode cX6_reckon 53 = .ok (.ifCond .lt 12, 3) := by decide +kernel
theorem dX6_reckon_56 : decode cX6_reckon 56 = .ok (.aload_n 0, 1) := by decide +kernel
theorem dX6_reckon_57 : decode cX6_reckon 57 = .ok (.iload 4, 2) := by decide +kernel
theorem dX6_reckon_59 : decode cX6_reckon 59 = .ok (.invokevirtual 40, 3) := by decide +kernel
theorem dX6_reckon_62 : decode cX6_reckon 62 = .ok (.goto 11, 3) := by decide +kernel
theorem dX6_reckon_65 : decode cX6_reckon 65 = .ok (.aload_n 0, 1) := by decide +kernel
theorem dX6_reckon_66 : decode cX6_reckon 66 = .ok (.iload 4, 2) := by decide +kernel
theorem dX6_reckon_68 : decode cX6_reckon 68 = .ok (.iconst (-1), 1) := by decide +kernel
theorem dX6_reckon_69 : decode cX6_reckon 69 = .ok (.ixor, 1) := by decide +kernel
theorem dX6_reckon_70 : decode cX6_reckon 70 = .ok (.invokevirtual 44, 3) := by decide +kernel
theorem dX6_reckon_73 : decode cX6_reckon 73 = .ok (.iinc 3 1, 3) := by decide +kernel
theorem dX6_reckon_76 : decode cX6_reckon 76 = .ok (.goto (-54), 3) := by decide +kernel
theorem dX6_reckon_79 : decode cX6_reckon 79 = .ok (.aload_n 0, 1) := by decide +kernel
theorem dX6_reckon_80 : decode cX6_reckon 80 = .ok (.invokevirtual 47, 3) := by decide +kernel
theorem dX6_reckon_83 : decode cX6_reckon 83 = .ok (.ireturn, 1) := by decide +kernel
theorem dX6_apply_0 : decode cX6_apply 0 = .ok (.iload_n 1, 1) := by decide +kernel
theorem dX6_apply_1 : decode cX6_apply 1 = .ok (.ifCond .lt 20, 3) := by decide +kernel
theorem dX6_apply_4 : decode cX6_apply 4 = .ok (.iload_n 1, 1) := by decide +kernel
theorem dX6_apply_5 : decode cX6_apply 5 = .ok (.bipush 27, 2) := by decide +kernel
theorem dX6_apply_7 : decode cX6_apply 7 = .ok (.if_icmp .ge 14, 3) := by decide +kernel
theorem dX6_apply_10 : decode cX6_apply 10 = .ok (.aload_n 0, 1) := by decide +kernel
theorem dX6_apply_11 : decode cX6_apply 11 = .ok (.aload_n 0, 1) := by decide +kernel
theorem dX6_apply_12 : decode cX6_apply 12 = .ok (.getfield 9, 3) := by decide +kernel
theorem dX6_apply_15 : decode cX6_apply 15 = .ok (.iload_n 1, 1) := by decide +kernel
theorem dX6_apply_16 : decode cX6_apply 16 = .ok (.iaload, 1) := by decide +kernel
theorem dX6_apply_17 : decode cX6_apply 17 = .ok (.invokevirtual 40, 3) := by decide +kernel
theorem dX6_apply_20 : decode cX6_apply 20 = .ok (.return_, 1) := by decide +kernel
theorem dX6_apply_21 : decode cX6_apply 21 = .ok (.aload_n 0, 1) := by decide +kernel
theorem dX6_apply_22 : decode cX6_apply 22 = .ok (.invokevirtual 47, 3) := by decide +kernel
theorem dX6_apply_25 : decode cX6_apply 25 = .ok (.istore_n 2, 1) := by decide +kernel
theorem dX6_apply_26 : decode cX6_apply 26 = .ok (.iload_n 1, 1) := by decide +kernel
theorem dX6_apply_27 : decode cX6_apply 27 = .ok (.bipush 27, 2) := by decide +kernel
theorem dX6_apply_29 : decode cX6_apply 29 = .ok (.if_icmp .ne 15, 3) := by decide +kernel
theorem dX6_apply_32 : decode cX6_apply 32 = .ok (.aload_n 0, 1) := by decide +kernel
theorem dX6_apply_33 : decode cX6_apply 33 = .ok (.aload_n 0, 1) := by decide +kernel
theorem dX6_apply_34 : decode cX6_apply 34 = .ok (.iload_n 2, 1) := by decide +kernel
theorem dX6_apply_35 : decode cX6_apply 35 = .ok (.invokevirtual 51, 3) := by decide +kernel
theorem dX6_apply_38 : decode cX6_apply 38 = .ok (.invokevirtual 40, 3) := by decide +kernel
theorem dX6_apply_41 : decode cX6_apply 41 = .ok (.goto 38, 3) := by decide +kernel
theorem dX6_apply_44 : decode cX6_apply 44 = .ok (.iload_n 1, 1) := by decide +kernel
theorem dX6_apply_45 : decode cX6_apply 45 = .ok (.bipush 30, 2) := by decide +kernel
theorem dX6_apply_47 : decode cX6_apply 47 = .ok (.if_icmp .ne 19, 3) := by decide +kernel
theorem dX6_apply_50 : decode cX6_apply 50 = .ok (.aload_n 0, 1) := by decide +kernel
theorem dX6_apply_51 : decode cX6_apply 51 = .ok (.iload_n 2, 1) := by decide +kernel
theorem dX6_apply_52 : decode cX6_apply 52 = .ok (.ifCond .ne 7, 3) := by decide +kernel
theorem dX6_apply_55 : decode cX6_apply 55 = .ok (.iconst 1, 1) := by decide +kernel
theorem dX6_apply_56 : decode cX6_apply 56 = .ok (.goto 4, 3) := by decide +kernel
theorem dX6_apply_59 : decode cX6_apply 59 = .ok (.iconst 0, 1) := by decide +kernel
theorem dX6_apply_60 : decode cX6_apply 60 = .ok (.invokevirtual 40, 3) := by decide +kernel
theorem dX6_apply_63 : decode cX6_apply 63 = .ok (.goto 16, 3) := by decide +kernel
theorem dX6_apply_66 : decode cX6_apply 66 = .ok (.aload_n 0, 1) := by decide +kernel
theorem dX6_apply_67 : decode cX6_apply 67 = .ok (.iload_n 1, 1) := by decide +kernel
theorem dX6_apply_68 : decode cX6_apply 68 = .ok (.aload_n 0, 1) := by decide +kernel
theorem dX6_apply_69 : decode cX6_apply 69 = .ok (.invokevirtual 47, 3) := by decide +kernel
theorem dX6_apply_72 : decode cX6_apply 72 = .ok (.iload_n 2, 1) := by decide +kernel
theorem dX6_apply_73 : decode cX6_apply 73 = .ok (.invokestatic 55, 3) := by decide +kernel
theorem dX6_apply_76 : decode cX6_apply 76 = .ok (.invokevirtual 40, 3) := by decide +kernel
theorem dX6_apply_79 : decode cX6_apply 79 = .ok (.return_, 1) := by decide +kernel
theorem dX6_join_0 : decode cX6_join 0 = .ok (.lconst 0, 1) := by decide +kernel
theorem dX6_join_1 : decode cX6_join 1 = .ok (.lstore_n 3, 1) := by decide +kernel
theorem dX6_join_2 : decode cX6_join 2 = .ok (.iload_n 0, 1) := by decide +kernel
theorem dX6_join_3 : decode cX6_join 3 = .ok (.tableswitch 246 28 62 #[208, 198, 246, 246, 198, 208, 246, 246, 246, 246, 246, 246, 246, 246, 171, 153, 246, 162, 246, 180, 246, 246, 246, 246, 246, 246, 246, 246, 246, 246, 246, 246, 218, 246, 232], 153) := by decide +kernel
theorem dX6_join_156 : decode cX6_join 156 = .ok (.iload_n 1, 1) := by decide +kernel
theorem dX6_join_157 : decode cX6_join 157 = .ok (.i2l, 1) := by decide +kernel
theorem dX6_join_158 : decode cX6_join 158 = .ok (.iload_n 2, 1) := by decide +kernel
theorem dX6_join_159 : decode cX6_join 159 = .ok (.i2l, 1) := by decide +kernel
theorem dX6_join_160 : decode cX6_join 160 = .ok (.ladd, 1) := by decide +kernel
theorem dX6_join_161 : decode cX6_join 161 = .ok (.lstore_n 3, 1) := by decide +kernel
theorem dX6_join_162 : decode cX6_join 162 = .ok (.goto 98, 3) := by decide +kernel
theorem dX6_join_165 : decode cX6_join 165 = .ok (.iload_n 1, 1) := by decide +kernel
theorem dX6_join_166 : decode cX6_join 166 = .ok (.i2l, 1) := by decide +kernel
theorem dX6_join_167 : decode cX6_join 167 = .ok (.iload_n 2, 1) := by decide +kernel
theorem dX6_join_168 : decode cX6_join 168 = .ok (.i2l, 1) := by decide +kernel
theorem dX6_join_169 : decode cX6_join 169 = .ok (.lsub, 1) := by decide +kernel
theorem dX6_join_170 : decode cX6_join 170 = .ok (.lstore_n 3, 1) := by decide +kernel
theorem dX6_join_171 : decode cX6_join 171 = .ok (.goto 89, 3) := by decide +kernel
theorem dX6_join_174 : decode cX6_join 174 = .ok (.iload_n 1, 1) := by decide +kernel
theorem dX6_join_175 : decode cX6_join 175 = .ok (.i2l, 1) := by decide +kernel
theorem dX6_join_176 : decode cX6_join 176 = .ok (.iload_n 2, 1) := by decide +kernel
theorem dX6_join_177 : decode cX6_join 177 = .ok (.i2l, 1) := by decide +kernel
theorem dX6_join_178 : decode cX6_join 178 = .ok (.lmul, 1) := by decide +kernel
theorem dX6_join_179 : decode cX6_join 179 = .ok (.lstore_n 3, 1) := by decide +kernel
theorem dX6_join_180 : decode cX6_join 180 = .ok (.goto 80, 3) := by decide +kernel
theorem dX6_join_183 : decode cX6_join 183 = .ok (.iload_n 2, 1) := by decide +kernel
theorem dX6_join_184 : decode cX6_join 184 = .ok (.ifCond .ne 7, 3) := by decide +kernel
theorem dX6_join_187 : decode cX6_join 187 = .ok (.lconst 0, 1) := by decide +kernel
theorem dX6_join_188 : decode cX6_join 188 = .ok (.goto 9, 3) := by decide +kernel
theorem dX6_join_191 : decode cX6_join 191 = .ok (.iload_n 1, 1) := by decide +kernel
theorem dX6_join_192 : decode cX6_join 192 = .ok (.iload_n 2, 1) := by decide +kernel
theorem dX6_join_193 : decode cX6_join 193 = .ok (.invokestatic 59, 3) := by decide +kernel
theorem dX6_join_196 : decode cX6_join 196 = .ok (.i2l, 1) := by decide +kernel
theorem dX6_join_197 : decode cX6_join 197 = .ok (.lstore_n 3, 1) := by decide +kernel
theorem dX6_join_198 : decode cX6_join 198 = .ok (.goto 62, 3) := by decide +kernel
theorem dX6_join_201 : decode cX6_join 201 = .ok (.iload_n 1, 1) := by decide +kernel
theorem dX6_join_202 : decode cX6_join 202 = .ok (.iload_n 2, 1) := by decide +kernel
theorem dX6_join_203 : decode cX6_join 203 = .ok (.invokestatic 65, 3) := by decide +kernel
theorem dX6_join_206 : decode cX6_join 206 = .ok (.i2l, 1) := by decide +kernel
theorem dX6_join_207 : decode cX6_join 207 = .ok (.lstore_n 3, 1) := by decide +kernel
theorem dX6_join_208 : decode cX6_join 208 = .ok (.goto 52, 3) := by decide +kernel
theorem dX6_join_211 : decode cX6_join 211 = .ok (.iload_n 1, 1) := by decide +kernel
theorem dX6_join_212 : decode cX6_join 212 = .ok (.iload_n 2, 1) := by decide +kernel
theorem dX6_join_213 : decode cX6_join 213 = .ok (.invokestatic 68, 3) := by decide +kernel
theorem dX6_join_216 : decode cX6_join 216 = .ok (.i2l, 1) := by decide +kernel
theorem dX6_join_217 : decode cX6_join 217 = .ok (.lstore_n 3, 1) := by decide +kernel
theorem dX6_join_218 : decode cX6_join 218 = .ok (.goto 42, 3) := by decide +kernel
theorem dX6_join_221 : decode cX6_join 221 = .ok (.iload_n 1, 1) := by decide +kernel
theorem dX6_join_222 : decode cX6_join 222 = .ok (.iload_n 2, 1) := by decide +kernel
theorem dX6_join_223 : decode cX6_join 223 = .ok (.if_icmp .ge 7, 3) := by decide +kernel
theorem dX6_join_226 : decode cX6_join 226 = .ok (.lconst 1, 1) := by decide +kernel
theorem dX6_join_227 : decode cX6_join 227 = .ok (.goto 4, 3) := by decide +kernel
theorem dX6_join_230 : decode cX6_join 230 = .ok (.lconst 0, 1) := by decide +kernel
theorem dX6_join_231 : decode cX6_join 231 = .ok (.lstore_n 3, 1) := by decide +kernel
theorem dX6_join_232 : decode cX6_join 232 = .ok (.goto 28, 3) := by decide +kernel
theorem dX6_join_235 : decode cX6_join 235 = .ok (.iload_n 1, 1) := by decide +kernel
theorem dX6_join_236 : decode cX6_join 236 = .ok (.iload_n 2, 1) := by decide +kernel
theorem dX6_join_237 : decode cX6_join 237 = .ok (.if_icmp .le 7, 3) := by decide +kernel
theorem dX6_join_240 : decode cX6_join 240 = .ok (.lconst 1, 1) := by decide +kernel
theorem dX6_join_241 : decode cX6_join 241 = .ok (.goto 4, 3) := by decide +kernel
theorem dX6_join_244 : decode cX6_join 244 = .ok (.lconst 0, 1) := by decide +kernel
theorem dX6_join_245 : decode cX6_join 245 = .ok (.lstore_n 3, 1) := by decide +kernel
theorem dX6_join_246 : decode cX6_join 246 = .ok (.goto 14, 3) := by decide +kernel
theorem dX6_join_249 : decode cX6_join 249 = .ok (.iload_n 1, 1) := by decide +kernel
theorem dX6_join_250 : decode cX6_join 250 = .ok (.iload_n 2, 1) := by decide +kernel
theorem dX6_join_251 : decode cX6_join 251 = .ok (.if_icmp .ne 7, 3) := by decide +kernel
theorem dX6_join_254 : decode cX6_join 254 = .ok (.lconst 1, 1) := by decide +kernel
theorem dX6_join_255 : decode cX6_join 255 = .ok (.goto 4, 3) := by decide +kernel
theorem dX6_join_258 : decode cX6_join 258 = .ok (.lconst 0, 1) := by decide +kernel
theorem dX6_join_259 : decode cX6_join 259 = .ok (.lstore_n 3, 1) := by decide +kernel
theorem dX6_join_260 : decode cX6_join 260 = .ok (.ldc2_w 71, 3) := by decide +kernel
theorem dX6_join_263 : decode cX6_join 263 = .ok (.ldc2_w 73, 3) := by decide +kernel
theorem dX6_join_266 : decode cX6_join 266 = .ok (.lload_n 3, 1) := by decide +kernel
theorem dX6_join_267 : decode cX6_join 267 = .ok (.invokestatic 75, 3) := by decide +kernel
theorem dX6_join_270 : decode cX6_join 270 = .ok (.invokestatic 78, 3) := by decide +kernel
theorem dX6_join_273 : decode cX6_join 273 = .ok (.l2i, 1) := by decide +kernel
theorem dX6_join_274 : decode cX6_join 274 = .ok (.ireturn, 1) := by decide +kernel
theorem dX6_crowdOf_0 : decode cX6_crowdOf 0 = .ok (.iload_n 1, 1) := by decide +kernel
theorem dX6_crowdOf_1 : decode cX6_crowdOf 1 = .ok (.ifCond .lt 18, 3) := by decide +kernel
theorem dX6_crowdOf_4 : decode cX6_crowdOf 4 = .ok (.iload_n 1, 1) := by decide +kernel
theorem dX6_crowdOf_5 : decode cX6_crowdOf 5 = .ok (.bipush 48, 2) := by decide +kernel
theorem dX6_crowdOf_7 : decode cX6_crowdOf 7 = .ok (.if_icmp .ge 12, 3) := by decide +kernel
theorem dX6_crowdOf_10 : decode cX6_crowdOf 10 = .ok (.aload_n 0, 1) := by decide +kernel
theorem dX6_crowdOf_11 : decode cX6_crowdOf 11 = .ok (.getfield 15, 3) := by decide +kernel
theorem dX6_crowdOf_14 : decode cX6_crowdOf 14 = .ok (.iload_n 1, 1) := by decide +kernel
theorem dX6_crowdOf_15 : decode cX6_crowdOf 15 = .ok (.iaload, 1) := by decide +kernel
theorem dX6_crowdOf_16 : decode cX6_crowdOf 16 = .ok (.goto 4, 3) := by decide +kernel
theorem dX6_crowdOf_19 : decode cX6_crowdOf 19 = .ok (.iconst 0, 1) := by decide +kernel
theorem dX6_crowdOf_20 : decode cX6_crowdOf 20 = .ok (.ireturn, 1) := by decide +kernel
theorem dX6_push_0 : decode cX6_push 0 = .ok (.aload_n 0, 1) := by decide +kernel
theorem dX6_push_1 : decode cX6_push 1 = .ok (.getfield 21, 3) := by decide +kernel
theorem dX6_push_4 : decode cX6_push 4 = .ok (.ifCond .lt 32, 3) := by decide +kernel
theorem dX6_push_7 : decode cX6_push 7 = .ok (.aload_n 0, 1) := by decide +kernel
theorem dX6_push_8 : decode cX6_push 8 = .ok (.getfield 21, 3) := by decide +kernel
theorem dX6_push_11 : decode cX6_push 11 = .ok (.bipush 64, 2) := by decide +kernel
theorem dX6_push_13 : decode cX6_push 13 = .ok (.if_icmp .ge 23, 3) := by decide +kernel
theorem dX6_push_16 : decode cX6_push 16 = .ok (.aload_n 0, 1) := by decide +kernel
theorem dX6_push_17 : decode cX6_push 17 = .ok (.getfield 18, 3) := by decide +kernel
theorem dX6_push_20 : decode cX6_push 20 = .ok (.aload_n 0, 1) := by decide +kernel
theorem dX6_push_21 : decode cX6_push 21 = .ok (.getfield 21, 3) := by decide +kernel
theorem dX6_push_24 : decode cX6_push 24 = .ok (.iload_n 1, 1) := by decide +kernel
theorem dX6_push_25 : decode cX6_push 25 = .ok (.iastore, 1) := by decide +kernel
theorem dX6_push_26 : decode cX6_push 26 = .ok (.aload_n 0, 1) := by decide +kernel
theorem dX6_push_27 : decode cX6_push 27 = .ok (.dup, 1) := by decide +kernel
theorem dX6_push_28 : decode cX6_push 28 = .ok (.getfield 21, 3) := by decide +kernel
theorem dX6_push_31 : decode cX6_push 31 = .ok (.iconst 1, 1) := by decide +kernel
theorem dX6_push_32 : decode cX6_push 32 = .ok (.iadd, 1) := by decide +kernel
theorem dX6_push_33 : decode cX6_push 33 = .ok (.putfield 21, 3) := by decide +kernel
theorem dX6_push_36 : decode cX6_push 36 = .ok (.return_, 1) := by decide +kernel
theorem dX6_pop_0 : decode cX6_pop 0 = .ok (.aload_n 0, 1) := by decide +kernel
theorem dX6_pop_1 : decode cX6_pop 1 = .ok (.getfield 21, 3) := by decide +kernel
theorem dX6_pop_4 : decode cX6_pop 4 = .ok (.iconst 1, 1) := by decide +kernel
theorem dX6_pop_5 : decode cX6_pop 5 = .ok (.if_icmp .lt 12, 3) := by decide +kernel
theorem dX6_pop_8 : decode cX6_pop 8 = .ok (.aload_n 0, 1) := by decide +kernel
theorem dX6_pop_9 : decode cX6_pop 9 = .ok (.getfield 21, 3) := by decide +kernel
theorem dX6_pop_12 : decode cX6_pop 12 = .ok (.bipush 64, 2) := by decide +kernel
theorem dX6_pop_14 : decode cX6_pop 14 = .ok (.if_icmp .le 5, 3) := by decide +kernel
theorem dX6_pop_17 : decode cX6_pop 17 = .ok (.iconst 0, 1) := by decide +kernel
theorem dX6_pop_18 : decode cX6_pop 18 = .ok (.ireturn, 1) := by decide +kernel
theorem dX6_pop_19 : decode cX6_pop 19 = .ok (.aload_n 0, 1) := by decide +kernel
theorem dX6_pop_20 : decode cX6_pop 20 = .ok (.dup, 1) := by decide +kernel
theorem dX6_pop_21 : decode cX6_pop 21 = .ok (.getfield 21, 3) := by decide +kernel
theorem dX6_pop_24 : decode cX6_pop 24 = .ok (.iconst 1, 1) := by decide +kernel
theorem dX6_pop_25 : decode cX6_pop 25 = .ok (.isub, 1) := by decide +kernel
theorem dX6_pop_26 : decode cX6_pop 26 = .ok (.putfield 21, 3) := by decide +kernel
theorem dX6_pop_29 : decode cX6_pop 29 = .ok (.aload_n 0, 1) := by decide +kernel
theorem dX6_pop_30 : decode cX6_pop 30 = .ok (.getfield 18, 3) := by decide +kernel
theorem dX6_pop_33 : decode cX6_pop 33 = .ok (.aload_n 0, 1) := by decide +kernel
theorem dX6_pop_34 : decode cX6_pop 34 = .ok (.getfield 21, 3) := by decide +kernel
theorem dX6_pop_37 : decode cX6_pop 37 = .ok (.iaload, 1) := by decide +kernel
theorem dX6_pop_38 : decode cX6_pop 38 = .ok (.ireturn, 1) := by decide +kernel
theorem dX7_init_0 : decode cX7_init 0 = .ok (.aload_n 0, 1) := by decide +kernel
theorem dX7_init_1 : decode cX7_init 1 = .ok (.invokespecial 3, 3) := by decide +kernel
theorem dX7_init_4 : decode cX7_init 4 = .ok (.aload_n 0, 1) := by decide +kernel
theorem dX7_init_5 : decode cX7_init 5 = .ok (.aload_n 1, 1) := by decide +kernel
theorem dX7_init_6 : decode cX7_init 6 = .ok (.putfield 9, 3) := by decide +kernel
theorem dX7_init_9 : decode cX7_init 9 = .ok (.aload_n 0, 1) := by decide +kernel
theorem dX7_init_10 : decode cX7_init 10 = .ok (.aload_n 2, 1) := by decide +kernel
theorem dX7_init_11 : decode cX7_init 11 = .ok (.putfield 15, 3) := by decide +kernel
theorem dX7_init_14 : decode cX7_init 14 = .ok (.return_, 1) := by decide +kernel
theorem dX7_readLake_0 : decode cX7_readLake 0 = .ok (.aload_n 1, 1) := by decide +kernel
theorem dX7_readLake_1 : decode cX7_readLake 1 = .ok (.invokevirtual 19, 3) := by decide +kernel
theorem dX7_readLake_4 : decode cX7_readLake 4 = .ok (.aload_n 0, 1) := by decide +kernel
theorem dX7_readLake_5 : decode cX7_readLake 5 = .ok (.getfield 9, 3) := by decide +kernel
theorem dX7_readLake_8 : decode cX7_readLake 8 = .ok (.invokevirtual 24, 3) := by decide +kernel
theorem dX7_readLake_11 : decode cX7_readLake 11 = .ok (.iconst 0, 1) := by decide +kernel
theorem dX7_readLake_12 : decode cX7_readLake 12 = .ok (.istore_n 2, 1) := by decide +kernel
theorem dX7_readLake_13 : decode cX7_readLake 13 = .ok (.iload_n 2, 1) := by decide +kernel
theorem dX7_readLake_14 : decode cX7_readLake 14 = .ok (.bipush 60, 2) := by decide +kernel
theorem dX7_readLake_16 : decode cX7_readLake 16 = .ok (.if_icmp .gt 67, 3) := by decide +kernel
theorem dX7_readLake_19 : decode cX7_readLake 19 = .ok (.aload_n 0, 1) := by decide +kernel
theorem dX7_readLake_20 : decode cX7_readLake 20 = .ok (.getfield 9, 3) := by decide +kernel
theorem dX7_readLake_23 : decode cX7_readLake 23 = .ok (.getfield 29, 3) := by decide +kernel
theorem dX7_readLake_26 : decode cX7_readLake 26 = .ok (.iconst (-1), 1) := by decide +kernel
theorem dX7_readLake_27 : decode cX7_readLake 27 = .ok (.if_icmp .eq 56, 3) := by decide +kernel
theorem dX7_readLake_30 : decode cX7_readLake 30 = .ok (.iload_n 2, 1) := by decide +kernel
theorem dX7_readLake_31 : decode cX7_readLake 31 = .ok (.bipush 60, 2) := by decide +kernel
theorem dX7_readLake_33 : decode cX7_readLake 33 = .ok (.if_icmp .ne 12, 3) := by decide +kernel
theorem dX7_readLake_36 : decode cX7_readLake 36 = .ok (.aload_n 0, 1) := by decide +kernel
theorem dX7_readLake_37 : decode cX7_readLake 37 = .ok (.getfield 9, 3) := by decide +kernel
theorem dX7_readLake_40 : decode cX7_readLake 40 = .ok (.iconst 5, 1) := by decide +kernel
theorem dX7_readLake_41 : decode cX7_readLake 41 = .ok (.invokevirtual 33, 3) := by decide +kernel
theorem dX7_readLake_44 : decode cX7_readLake 44 = .ok (.ireturn, 1) := by decide +kernel
theorem dX7_readLake_45 : decode cX7_readLake 45 = .ok (.aload_n 0, 1) := by decide +kernel
theorem dX7_readLake_46 : decode cX7_readLake 46 = .ok (.aload_n 1, 1) := by decide +kernel
theorem dX7_readLake_47 : decode cX7_readLake 47 = .ok (.invokevirtual 37, 3) := by decide +kernel
theorem dX7_readLake_50 : decode cX7_readLake 50 = .ok (.ifCond .eq 15, 3) := by decide +kernel
theorem dX7_readLake_53 : decode cX7_readLake 53 = .ok (.aload_n 0, 1) := by decide +kernel
theorem dX7_readLake_54 : decode cX7_readLake 54 = .ok (.getfield 9, 3) := by decide +kernel
theorem dX7_readLake_57 : decode cX7_readLake 57 = .ok (.bipush 59, 2) := by decide +kernel
theorem dX7_readLake_59 : decode cX7_readLake 59 = .ok (.invokevirtual 41, 3) := by decide +kernel
theorem dX7_readLake_62 : decode cX7_readLake 62 = .ok (.ifCond .ne 5, 3) := by decide +kernel
theorem dX7_readLake_65 : decode cX7_readLake 65 = .ok (.iconst 0, 1) := by decide +kernel
theorem dX7_readLake_66 : decode cX7_readLake 66 = .ok (.ireturn, 1) := by decide +kernel
theorem dX7_readLake_67 : decode cX7_readLake 67 = .ok (.aload_n 1, 1) := by decide +kernel
theorem dX7_readLake_68 : decode cX7_readLake 68 = .ok (.dup, 1) := by decide +kernel
theorem dX7_readLake_69 : decode cX7_readLake 69 = .ok (.getfield 44, 3) := by decide +kernel
theorem dX7_readLake_72 : decode cX7_readLake 72 = .ok (.iconst 1, 1) := by decide +kernel
theorem dX7_readLake_73 : decode cX7_readLake 73 = .ok (.iadd, 1) := by decide +kernel
theorem dX7_readLake_74 : decode cX7_readLake 74 = .ok (.putfield 44, 3) := by decide +kernel
theorem dX7_readLake_77 : decode cX7_readLake 77 = .ok (.iinc 2 1, 3) := by decide +kernel
theorem dX7_readLake_80 : decode cX7_readLake 80 = .ok (.goto (-67), 3) := by decide +kernel
theorem dX7_readLake_83 : decode cX7_readLake 83 = .ok (.aload_n 1, 1) := by decide +kernel
theorem dX7_readLake_84 : decode cX7_readLake 84 = .ok (.getfield 44, 3) := by decide +kernel
theorem dX7_readLake_87 : decode cX7_readLake 87 = .ok (.ifCond .ne 12, 3) := by decide +kernel
theorem dX7_readLake_90 : decode cX7_readLake 90 = .ok (.aload_n 0, 1) := by decide +kernel
theorem dX7_readLake_91 : decode cX7_readLake 91 = .ok (.getfield 9, 3) := by decide +kernel
theorem dX7_readLake_94 : decode cX7_readLake 94 = .ok (.iconst 1, 1) := by decide +kernel
theorem dX7_readLake_95 : decode cX7_readLake 95 = .ok (.invokevirtual 33, 3) := by decide +kernel
theorem dX7_readLake_98 : decode cX7_readLake 98 = .ok (.ireturn, 1) := by decide +kernel
theorem dX7_readLake_99 : decode cX7_readLake 99 = .ok (.aload_n 1, 1) := by decide +kernel
theorem dX7_readLake_100 : decode cX7_readLake 100 = .ok (.invokevirtual 47, 3) := by decide +kernel
theorem dX7_readLake_103 : decode cX7_readLake 103 = .ok (.iconst 1, 1) := by decide +kernel
theorem dX7_readLake_104 : decode cX7_readLake 104 = .ok (.ireturn, 1) := by decide +kernel
theorem dX7_readStatement_0 : decode cX7_readStatement 0 = .ok (.aload_n 0, 1) := by decide +kernel
theorem dX7_readStatement_1 : decode cX7_readStatement 1 = .ok (.getfield 9, 3) := by decide +kernel
theorem dX7_readStatement_4 : decode cX7_readStatement 4 = .ok (.getfield 29, 3) := by decide +kernel
theorem dX7_readStatement_7 : decode cX7_readStatement 7 = .ok (.bipush (-2), 2) := by decide +kernel
theorem dX7_readStatement_9 : decode cX7_readStatement 9 = .ok (.if_icmp .ne 26, 3) := by decide +kernel
theorem dX7_readStatement_12 : decode cX7_readStatement 12 = .ok (.aload_n 0, 1) := by decide +kernel
theorem dX7_readStatement_13 : decode cX7_readStatement 13 = .ok (.getfield 9, 3) := by decide +kernel
theorem dX7_readStatement_16 : decode cX7_readStatement 16 = .ok (.iconst 0, 1) := by decide +kernel
theorem dX7_readStatement_17 : decode cX7_readStatement 17 = .ok (.invokevirtual 50, 3) := by decide +kernel
theorem dX7_readStatement_20 : decode cX7_readStatement 20 = .ok (.aload_n 1, 1) := by decide +kernel
theorem dX7_readStatement_21 : decode cX7_readStatement 21 = .ok (.getfield 44, 3) := by decide +kernel
theorem dX7_readStatement_24 : decode cX7_readStatement 24 = .ok (.ifCond .ne 7, 3) := by decide +kernel
theorem dX7_readStatement_27 : decode cX7_readStatement 27 = .ok (.iconst 1, 1) := by decide +kernel
theorem dX7_readStatement_28 : decode cX7_readStatement 28 = .ok (.goto 4, 3) := by decide +kernel
theorem dX7_readStatement_31 : decode cX7_readStatement 31 = .ok (.iconst 0, 1) := by decide +kernel
theorem dX7_readStatement_32 : decode cX7_readStatement 32 = .ok (.if_icmp .eq 12, 3) := by decide +kernel
theorem dX7_readStatement_35 : decode cX7_readStatement 35 = .ok (.aload_n 0, 1) := by decide +kernel
theorem dX7_readStatement_36 : decode cX7_readStatement 36 = .ok (.getfield 9, 3) := by decide +kernel
theorem dX7_readStatement_39 : decode cX7_readStatement 39 = .ok (.iconst 1, 1) := by decide +kernel
theorem dX7_readStatement_40 : decode cX7_readStatement 40 = .ok (.invokevirtual 33, 3) := by decide +kernel
theorem dX7_readStatement_43 : decode cX7_readStatement 43 = .ok (.ireturn, 1) := by decide +kernel
theorem dX7_readStatement_44 : decode cX7_readStatement 44 = .ok (.aload_n 0, 1) := by decide +kernel
theorem dX7_readStatement_45 : decode cX7_readStatement 45 = .ok (.getfield 9, 3) := by decide +kernel
theorem dX7_readStatement_48 : decode cX7_readStatement 48 = .ok (.getfield 53, 3) := by decide +kernel
theorem dX7_readStatement_51 : decode cX7_readStatement 51 = .ok (.istore_n 2, 1) := by decide +kernel
theorem dX7_readStatement_52 : decode cX7_readStatement 52 = .ok (.aload_n 1, 1) := by decide +kernel
theorem dX7_readStatement_53 : decode cX7_readStatement 53 = .ok (.iload_n 2, 1) := by decide +kernel
theorem dX7_readStatement_54 : decode cX7_readStatement 54 = .ok (.invokestatic 56, 3) := by decide +kernel
theorem dX7_readStatement_57 : decode cX7_readStatement 57 = .ok (.ifCond .eq 12, 3) := by decide +kernel
theorem dX7_readStatement_60 : decode cX7_readStatement 60 = .ok (.aload_n 0, 1) := by decide +kernel
theorem dX7_readStatement_61 : decode cX7_readStatement 61 = .ok (.getfield 9, 3) := by decide +kernel
theorem dX7_readStatement_64 : decode cX7_readStatement 64 = .ok (.iconst 5, 1) := by decide +kernel
theorem dX7_readStatement_65 : decode cX7_readStatement 65 = .ok (.invokevirtual 33, 3) := by decide +kernel
theorem dX7_readStatement_68 : decode cX7_readStatement 68 = .ok (.ireturn, 1) := by decide +kernel
theorem dX7_readStatement_69 : decode cX7_readStatement 69 = .ok (.iload_n 2, 1) := by decide +kernel
theorem dX7_readStatement_70 : decode cX7_readStatement 70 = .ok (.tableswitch 168 0 15 #[78, 84, 90, 168, 168, 96, 168, 102, 108, 108, 108, 108, 114, 130, 146, 162], 78) := by decide +kernel
theorem dX7_readStatement_148 : decode cX7_readStatement 148 = .ok (.aload_n 0, 1) := by decide +kernel
theorem dX7_readStatement_149 : decode cX7_readStatement 149 = .ok (.aload_n 1, 1) := by decide +kernel
theorem dX7_readStatement_150 : decode cX7_readStatement 150 = .ok (.invokevirtual 60, 3) := by decide +kernel
theorem dX7_readStatement_153 : decode cX7_readStatement 153 = .ok (.ireturn, 1) := by decide +kernel
theorem dX7_readStatement_154 : decode cX7_readStatement 154 = .ok (.aload_n 0, 1) := by decide +kernel
theorem dX7_readStatement_155 : decode cX7_readStatement 155 = .ok (.aload_n 1, 1) := by decide +kernel
theorem dX7_readStatement_156 : decode cX7_readStatement 156 = .ok (.invokevirtual 63, 3) := by decide +kernel
theorem dX7_readStatement_159 : decode cX7_readStatement 159 = .ok (.ireturn, 1) := by decide +kernel
theorem dX7_readStatement_160 : decode cX7_readStatement 160 = .ok (.aload_n 0, 1) := by decide +kernel
theorem dX7_readStatement_161 : decode cX7_readStatement 161 = .ok (.aload_n 1, 1) := by decide +kernel
theorem dX7_readStatement_162 : decode cX7_readStatement 162 = .ok (.invokevirtual 66, 3) := by decide +kernel
theorem dX7_readStatement_165 : decode cX7_readStatement 165 = .ok (.ireturn, 1) := by decide +kernel
theorem dX7_readStatement_166 : decode cX7_readStatement 166 = .ok (.aload_n 0, 1) := by decide +kernel
theorem dX7_readStatement_167 : decode cX7_readStatement 167 = .ok (.aload_n 1, 1) := by decide +kernel
theorem dX7_readStatement_168 : decode cX7_readStatement 168 = .ok (.invokevirtual 69, 3) := by decide +kernel
theorem dX7_readStatement_171 : decode cX7_readStatement 171 = .ok (.ireturn, 1) := by decide +kernel
theorem dX7_readStatement_172 : decode cX7_readStatement 172 = .ok (.aload_n 0, 1) := by decide +kernel
theorem dX7_readStatement_173 : decode cX7_readStatement 173 = .ok (.aload_n 1, 1) := by decide +kernel
theorem dX7_readStatement_174 : decode cX7_readStatement 174 = .ok (.invokevirtual 72, 3) := by decide +kernel
theorem dX7_readStatement_177 : decode cX7_readStatement 177 = .ok (.ireturn, 1) := by decide +kernel
theorem dX7_readStatement_178 : decode cX7_readStatement 178 = .ok (.aload_n 0, 1) := by decide +kernel
theorem dX7_readStatement_179 : decode cX7_readStatement 179 = .ok (.aload_n 1, 1) := by decide +kernel
theorem dX7_readStatement_180 : decode cX7_readStatement 180 = .ok (.invokevirtual 75, 3) := by decide +kernel
theorem dX7_readStatement_183 : decode cX7_readStatement 183 = .ok (.ireturn, 1) := by decide +kernel
theorem dX7_readStatement_184 : decode cX7_readStatement 184 = .ok (.aload_n 0, 1) := by decide +kernel
theorem dX7_readStatement_185 : decode cX7_readStatement 185 = .ok (.getfield 15, 3) := by decide +kernel
theorem dX7_readStatement_188 : decode cX7_readStatement 188 = .ok (.aload_n 1, 1) := by decide +kernel
theorem dX7_readStatement_189 : decode cX7_readStatement 189 = .ok (.getfield 78, 3) := by decide +kernel
theorem dX7_readStatement_192 : decode cX7_readStatement 192 = .ok (.iconst 0, 1) := by decide +kernel
theorem dX7_readStatement_193 : decode cX7_readStatement 193 = .ok (.ldc2_w 84, 3) := by decide +kernel
theorem dX7_readStatement_196 : decode cX7_readStatement 196 = .ok (.invokevirtual 86, 3) := by decide +kernel
theorem dX7_readStatement_199 : decode cX7_readStatement 199 = .ok (.ireturn, 1) := by decide +kernel
theorem dX7_readStatement_200 : decode cX7_readStatement 200 = .ok (.aload_n 0, 1) := by decide +kernel
theorem dX7_readStatement_201 : decode cX7_readStatement 201 = .ok (.getfield 15, 3) := by decide +kernel
theorem dX7_readStatement_204 : decode cX7_readStatement 204 = .ok (.aload_n 1, 1) := by decide +kernel
theorem dX7_readStatement_205 : decode cX7_readStatement 205 = .ok (.getfield 78, 3) := by decide +kernel
theorem dX7_readStatement_208 : decode cX7_readStatement 208 = .ok (.iconst 1, 1) := by decide +kernel
theorem dX7_readStatement_209 : decode cX7_readStatement 209 = .ok (.ldc2_w 90, 3) := by decide +kernel
theorem dX7_readStatement_212 : decode cX7_readStatement 212 = .ok (.invokevirtual 86, 3) := by decide +kernel
theorem dX7_readStatement_215 : decode cX7_readStatement 215 = .ok (.ireturn, 1) := by decide +kernel
theorem dX7_readStatement_216 : decode cX7_readStatement 216 = .ok (.aload_n 0, 1) := by decide +kernel
theorem dX7_readStatement_217 : decode cX7_readStatement 217 = .ok (.getfield 15, 3) := by decide +kernel
theorem dX7_readStatement_220 : decode cX7_readStatement 220 = .ok (.aload_n 1, 1) := by decide +kernel
theorem dX7_readStatement_221 : decode cX7_readStatement 221 = .ok (.getfield 78, 3) := by decide +kernel
theorem dX7_readStatement_224 : decode cX7_readStatement 224 = .ok (.iconst 2, 1) := by decide +kernel
theorem dX7_readStatement_225 : decode cX7_readStatement 225 = .ok (.ldc2_w 90, 3) := by decide +kernel
theorem dX7_readStatement_228 : decode cX7_readStatement 228 = .ok (.invokevirtual 86, 3) := by decide +kernel
theorem dX7_readStatement_231 : decode cX7_readStatement 231 = .ok (.ireturn, 1) := by decide +kernel
theorem dX7_readStatement_232 : decode cX7_readStatement 232 = .ok (.aload_n 0, 1) := by decide +kernel
theorem dX7_readStatement_233 : decode cX7_readStatement 233 = .ok (.aload_n 1, 1) := by decide +kernel
theorem dX7_readStatement_234 : decode cX7_readStatement 234 = .ok (.invokevirtual 92, 3) := by decide +kernel
theorem dX7_readStatement_237 : decode cX7_readStatement 237 = .ok (.ireturn, 1) := by decide +kernel
theorem dX7_readStatement_238 : decode cX7_readStatement 238 = .ok (.aload_n 0, 1) := by decide +kernel
theorem dX7_readStatement_239 : decode cX7_readStatement 239 = .ok (.getfield 9, 3) := by decide +kernel
theorem dX7_readStatement_242 : decode cX7_readStatement 242 = .ok (.iconst 1, 1) := by decide +kernel
theorem dX7_readStatement_243 : decode cX7_readStatement 243 = .ok (.invokevirtual 33, 3) := by decide +kernel
theorem dX7_readStatement_246 : decode cX7_readStatement 246 = .ok (.ireturn, 1) := by decide +kernel
theorem dX7_isOneTooMany_0 : decode cX7_isOneTooMany 0 = .ok (.iload_n 1, 1) := by decide +kernel
theorem dX7_isOneTooMany_1 : decode cX7_isOneTooMany 1 = .ok (.tableswitch 143 1 14 #[71, 86, 143, 143, 101, 143, 143, 116, 116, 116, 116, 131, 131, 131], 71) := by decide +kernel
theorem dX7_isOneTooMany_72 : decode cX7_isOneTooMany 72 = .ok (.aload_n 0, 1) := by decide +kernel
theorem dX7_isOneTooMany_73 : decode cX7_isOneTooMany 73 = .ok (.getfield 95, 3) := by decide +kernel
theorem dX7_isOneTooMany_76 : decode cX7_isOneTooMany 76 = .ok (.bipush 6, 2) := by decide +kernel
theorem dX7_isOneTooMany_78 : decode cX7_isOneTooMany 78 = .ok (.if_icmp .lt 7, 3) := by decide +kernel
theorem dX7_isOneTooMany_81 : decode cX7_isOneTooMany 81 = .ok (.iconst 1, 1) := by decide +kernel
theorem dX7_isOneTooMany_82 : decode cX7_isOneTooMany 82 = .ok (.goto 4, 3) := by decide +kernel
theorem dX7_isOneTooMany_85 : decode cX7_isOneTooMany 85 = .ok (.iconst 0, 1) := by decide +kernel
theorem dX7_isOneTooMany_86 : decode cX7_isOneTooMany 86 = .ok (.ireturn, 1) := by decide +kernel
theorem dX7_isOneTooMany_87 : decode cX7_isOneTooMany 87 = .ok (.aload_n 0, 1) := by decide +kernel
theorem dX7_isOneTooMany_88 : decode cX7_isOneTooMany 88 = .ok (.getfield 98, 3) := by decide +kernel
theorem dX7_isOneTooMany_91 : decode cX7_isOneTooMany 91 = .ok (.bipush 6, 2) := by decide +kernel
theorem dX7_isOneTooMany_93 : decode cX7_isOneTooMany 93 = .ok (.if_icmp .lt 7, 3) := by decide +kernel
theorem dX7_isOneTooMany_96 : decode cX7_isOneTooMany 96 = .ok (.iconst 1, 1) := by decide +kernel
theorem dX7_isOneTooMany_97 : decode cX7_isOneTooMany 97 = .ok (.goto 4, 3) := by decide +kernel
theorem dX7_isOneTooMany_100 : decode cX7_isOneTooMany 100 = .ok (.iconst 0, 1) := by decide +kernel
theorem dX7_isOneTooMany_101 : decode cX7_isOneTooMany 101 = .ok (.ireturn, 1) := by decide +kernel
theorem dX7_isOneTooMany_102 : decode cX7_isOneTooMany 102 = .ok (.aload_n 0, 1) := by decide +kernel
theorem dX7_isOneTooMany_103 : decode cX7_isOneTooMany 103 = .ok (.getfield 101, 3) := by decide +kernel
theorem dX7_isOneTooMany_106 : decode cX7_isOneTooMany 106 = .ok (.bipush 6, 2) := by decide +kernel
theorem dX7_isOneTooMany_108 : decode cX7_isOneTooMany 108 = .ok (.if_icmp .lt 7, 3) := by decide +kernel
theorem dX7_isOneTooMany_111 : decode cX7_isOneTooMany 111 = .ok (.iconst 1, 1) := by decide +kernel
theorem dX7_isOneTooMany_112 : decode cX7_isOneTooMany 112 = .ok (.goto 4, 3) := by decide +kernel
theorem dX7_isOneTooMany_115 : decode cX7_isOneTooMany 115 = .ok (.iconst 0, 1) := by decide +kernel
theorem dX7_isOneTooMany_116 : decode cX7_isOneTooMany 116 = .ok (.ireturn, 1) := by decide +kernel
theorem dX7_isOneTooMany_117 : decode cX7_isOneTooMany 117 = .ok (.aload_n 0, 1) := by decide +kernel
theorem dX7_isOneTooMany_118 : decode cX7_isOneTooMany 118 = .ok (.getfield 104, 3) := by decide +kernel
theorem dX7_isOneTooMany_121 : decode cX7_isOneTooMany 121 = .ok (.bipush 10, 2) := by decide +kernel
