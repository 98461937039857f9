theorem dM_with_44 : decode cM_with 44 = .ok (.imul, 1) := by decide +kernel
theorem dM_with_45 : decode cM_with 45 = .ok (.iload_n 3, 1) := by decide +kernel
theorem dM_with_46 : decode cM_with 46 = .ok (.iconst 1, 1) := by decide +kernel
theorem dM_with_47 : decode cM_with 47 = .ok (.iload_n 2, 1) := by decide +kernel
theorem dM_with_48 : decode cM_with 48 = .ok (.ishl, 1) := by decide +kernel
theorem dM_with_49 : decode cM_with 49 = .ok (.ior, 1) := by decide +kernel
theorem dM_with_50 : decode cM_with 50 = .ok (.iadd, 1) := by decide +kernel
theorem dM_with_51 : decode cM_with 51 = .ok (.laload, 1) := by decide +kernel
theorem dM_with_52 : decode cM_with 52 = .ok (.ladd, 1) := by decide +kernel
theorem dM_with_53 : decode cM_with 53 = .ok (.lreturn, 1) := by decide +kernel
theorem dM_without_0 : decode cM_without 0 = .ok (.ldc2_w 116, 3) := by decide +kernel
theorem dM_without_3 : decode cM_without 3 = .ok (.aload_n 0, 1) := by decide +kernel
theorem dM_without_4 : decode cM_without 4 = .ok (.aload_n 0, 1) := by decide +kernel
theorem dM_without_5 : decode cM_without 5 = .ok (.getfield 45, 3) := by decide +kernel
theorem dM_without_8 : decode cM_without 8 = .ok (.iload_n 1, 1) := by decide +kernel
theorem dM_without_9 : decode cM_without 9 = .ok (.iaload, 1) := by decide +kernel
theorem dM_without_10 : decode cM_without 10 = .ok (.invokevirtual 106, 3) := by decide +kernel
theorem dM_without_13 : decode cM_without 13 = .ok (.i2l, 1) := by decide +kernel
theorem dM_without_14 : decode cM_without 14 = .ok (.lmul, 1) := by decide +kernel
theorem dM_without_15 : decode cM_without 15 = .ok (.aload_n 0, 1) := by decide +kernel
theorem dM_without_16 : decode cM_without 16 = .ok (.getfield 49, 3) := by decide +kernel
theorem dM_without_19 : decode cM_without 19 = .ok (.sipush 4096, 3) := by decide +kernel
theorem dM_without_22 : decode cM_without 22 = .ok (.iload_n 1, 1) := by decide +kernel
theorem dM_without_23 : decode cM_without 23 = .ok (.iconst 1, 1) := by decide +kernel
theorem dM_without_24 : decode cM_without 24 = .ok (.iadd, 1) := by decide +kernel
theorem dM_without_25 : decode cM_without 25 = .ok (.imul, 1) := by decide +kernel
theorem dM_without_26 : decode cM_without 26 = .ok (.iload_n 2, 1) := by decide +kernel
theorem dM_without_27 : decode cM_without 27 = .ok (.iadd, 1) := by decide +kernel
theorem dM_without_28 : decode cM_without 28 = .ok (.laload, 1) := by decide +kernel
theorem dM_without_29 : decode cM_without 29 = .ok (.ladd, 1) := by decide +kernel
theorem dM_without_30 : decode cM_without 30 = .ok (.lreturn, 1) := by decide +kernel
theorem dM_reckon_0 : decode cM_reckon 0 = .ok (.aload_n 0, 1) := by decide +kernel
theorem dM_reckon_1 : decode cM_reckon 1 = .ok (.invokevirtual 118, 3) := by decide +kernel
theorem dM_reckon_4 : decode cM_reckon 4 = .ok (.iconst 0, 1) := by decide +kernel
theorem dM_reckon_5 : decode cM_reckon 5 = .ok (.istore_n 1, 1) := by decide +kernel
theorem dM_reckon_6 : decode cM_reckon 6 = .ok (.iload_n 1, 1) := by decide +kernel
theorem dM_reckon_7 : decode cM_reckon 7 = .ok (.sipush 4096, 3) := by decide +kernel
theorem dM_reckon_10 : decode cM_reckon 10 = .ok (.if_icmp .ge 25, 3) := by decide +kernel
theorem dM_reckon_13 : decode cM_reckon 13 = .ok (.aload_n 0, 1) := by decide +kernel
theorem dM_reckon_14 : decode cM_reckon 14 = .ok (.getfield 49, 3) := by decide +kernel
theorem dM_reckon_17 : decode cM_reckon 17 = .ok (.sipush 4096, 3) := by decide +kernel
theorem dM_reckon_20 : decode cM_reckon 20 = .ok (.aload_n 0, 1) := by decide +kernel
theorem dM_reckon_21 : decode cM_reckon 21 = .ok (.getfield 103, 3) := by decide +kernel
theorem dM_reckon_24 : decode cM_reckon 24 = .ok (.imul, 1) := by decide +kernel
theorem dM_reckon_25 : decode cM_reckon 25 = .ok (.iload_n 1, 1) := by decide +kernel
theorem dM_reckon_26 : decode cM_reckon 26 = .ok (.iadd, 1) := by decide +kernel
theorem dM_reckon_27 : decode cM_reckon 27 = .ok (.lconst 0, 1) := by decide +kernel
theorem dM_reckon_28 : decode cM_reckon 28 = .ok (.lastore, 1) := by decide +kernel
theorem dM_reckon_29 : decode cM_reckon 29 = .ok (.iinc 1 1, 3) := by decide +kernel
theorem dM_reckon_32 : decode cM_reckon 32 = .ok (.goto (-26), 3) := by decide +kernel
theorem dM_reckon_35 : decode cM_reckon 35 = .ok (.aload_n 0, 1) := by decide +kernel
theorem dM_reckon_36 : decode cM_reckon 36 = .ok (.getfield 103, 3) := by decide +kernel
theorem dM_reckon_39 : decode cM_reckon 39 = .ok (.iconst 1, 1) := by decide +kernel
theorem dM_reckon_40 : decode cM_reckon 40 = .ok (.isub, 1) := by decide +kernel
theorem dM_reckon_41 : decode cM_reckon 41 = .ok (.istore_n 1, 1) := by decide +kernel
theorem dM_reckon_42 : decode cM_reckon 42 = .ok (.iload_n 1, 1) := by decide +kernel
theorem dM_reckon_43 : decode cM_reckon 43 = .ok (.ifCond .lt 106, 3) := by decide +kernel
theorem dM_reckon_46 : decode cM_reckon 46 = .ok (.iconst 0, 1) := by decide +kernel
theorem dM_reckon_47 : decode cM_reckon 47 = .ok (.istore_n 2, 1) := by decide +kernel
theorem dM_reckon_48 : decode cM_reckon 48 = .ok (.iload_n 2, 1) := by decide +kernel
theorem dM_reckon_49 : decode cM_reckon 49 = .ok (.sipush 4096, 3) := by decide +kernel
theorem dM_reckon_52 : decode cM_reckon 52 = .ok (.if_icmp .ge 91, 3) := by decide +kernel
theorem dM_reckon_55 : decode cM_reckon 55 = .ok (.aload_n 0, 1) := by decide +kernel
theorem dM_reckon_56 : decode cM_reckon 56 = .ok (.iload_n 1, 1) := by decide +kernel
theorem dM_reckon_57 : decode cM_reckon 57 = .ok (.iload_n 2, 1) := by decide +kernel
theorem dM_reckon_58 : decode cM_reckon 58 = .ok (.invokevirtual 121, 3) := by decide +kernel
theorem dM_reckon_61 : decode cM_reckon 61 = .ok (.lstore_n 3, 1) := by decide +kernel
theorem dM_reckon_62 : decode cM_reckon 62 = .ok (.iconst 0, 1) := by decide +kernel
theorem dM_reckon_63 : decode cM_reckon 63 = .ok (.istore 5, 2) := by decide +kernel
theorem dM_reckon_65 : decode cM_reckon 65 = .ok (.iload 5, 2) := by decide +kernel
theorem dM_reckon_67 : decode cM_reckon 67 = .ok (.aload_n 0, 1) := by decide +kernel
theorem dM_reckon_68 : decode cM_reckon 68 = .ok (.getfield 56, 3) := by decide +kernel
theorem dM_reckon_71 : decode cM_reckon 71 = .ok (.if_icmp .ge 53, 3) := by decide +kernel
theorem dM_reckon_74 : decode cM_reckon 74 = .ok (.aload_n 0, 1) := by decide +kernel
theorem dM_reckon_75 : decode cM_reckon 75 = .ok (.aload_n 0, 1) := by decide +kernel
theorem dM_reckon_76 : decode cM_reckon 76 = .ok (.getfield 45, 3) := by decide +kernel
theorem dM_reckon_79 : decode cM_reckon 79 = .ok (.iload_n 1, 1) := by decide +kernel
theorem dM_reckon_80 : decode cM_reckon 80 = .ok (.iaload, 1) := by decide +kernel
theorem dM_reckon_81 : decode cM_reckon 81 = .ok (.iload 5, 2) := by decide +kernel
theorem dM_reckon_83 : decode cM_reckon 83 = .ok (.iload_n 2, 1) := by decide +kernel
theorem dM_reckon_84 : decode cM_reckon 84 = .ok (.invokevirtual 125, 3) := by decide +kernel
theorem dM_reckon_87 : decode cM_reckon 87 = .ok (.ifCond .eq 14, 3) := by decide +kernel
theorem dM_reckon_90 : decode cM_reckon 90 = .ok (.aload_n 0, 1) := by decide +kernel
theorem dM_reckon_91 : decode cM_reckon 91 = .ok (.iload_n 1, 1) := by decide +kernel
theorem dM_reckon_92 : decode cM_reckon 92 = .ok (.iload 5, 2) := by decide +kernel
theorem dM_reckon_94 : decode cM_reckon 94 = .ok (.iload_n 2, 1) := by decide +kernel
theorem dM_reckon_95 : decode cM_reckon 95 = .ok (.invokevirtual 128, 3) := by decide +kernel
theorem dM_reckon_98 : decode cM_reckon 98 = .ok (.goto 4, 3) := by decide +kernel
theorem dM_reckon_101 : decode cM_reckon 101 = .ok (.lload_n 3, 1) := by decide +kernel
theorem dM_reckon_102 : decode cM_reckon 102 = .ok (.lstore 6, 2) := by decide +kernel
theorem dM_reckon_104 : decode cM_reckon 104 = .ok (.lload 6, 2) := by decide +kernel
theorem dM_reckon_106 : decode cM_reckon 106 = .ok (.lload_n 3, 1) := by decide +kernel
theorem dM_reckon_107 : decode cM_reckon 107 = .ok (.lcmp, 1) := by decide +kernel
theorem dM_reckon_108 : decode cM_reckon 108 = .ok (.ifCond .ge 8, 3) := by decide +kernel
theorem dM_reckon_111 : decode cM_reckon 111 = .ok (.lload 6, 2) := by decide +kernel
theorem dM_reckon_113 : decode cM_reckon 113 = .ok (.goto 4, 3) := by decide +kernel
theorem dM_reckon_116 : decode cM_reckon 116 = .ok (.lload_n 3, 1) := by decide +kernel
theorem dM_reckon_117 : decode cM_reckon 117 = .ok (.lstore_n 3, 1) := by decide +kernel
theorem dM_reckon_118 : decode cM_reckon 118 = .ok (.iinc 5 1, 3) := by decide +kernel
theorem dM_reckon_121 : decode cM_reckon 121 = .ok (.goto (-56), 3) := by decide +kernel
theorem dM_reckon_124 : decode cM_reckon 124 = .ok (.aload_n 0, 1) := by decide +kernel
theorem dM_reckon_125 : decode cM_reckon 125 = .ok (.getfield 49, 3) := by decide +kernel
theorem dM_reckon_128 : decode cM_reckon 128 = .ok (.sipush 4096, 3) := by decide +kernel
theorem dM_reckon_131 : decode cM_reckon 131 = .ok (.iload_n 1, 1) := by decide +kernel
theorem dM_reckon_132 : decode cM_reckon 132 = .ok (.imul, 1) := by decide +kernel
theorem dM_reckon_133 : decode cM_reckon 133 = .ok (.iload_n 2, 1) := by decide +kernel
theorem dM_reckon_134 : decode cM_reckon 134 = .ok (.iadd, 1) := by decide +kernel
theorem dM_reckon_135 : decode cM_reckon 135 = .ok (.lload_n 3, 1) := by decide +kernel
theorem dM_reckon_136 : decode cM_reckon 136 = .ok (.lastore, 1) := by decide +kernel
theorem dM_reckon_137 : decode cM_reckon 137 = .ok (.iinc 2 1, 3) := by decide +kernel
theorem dM_reckon_140 : decode cM_reckon 140 = .ok (.goto (-92), 3) := by decide +kernel
theorem dM_reckon_143 : decode cM_reckon 143 = .ok (.iinc 1 (-1), 3) := by decide +kernel
theorem dM_reckon_146 : decode cM_reckon 146 = .ok (.goto (-104), 3) := by decide +kernel
theorem dM_reckon_149 : decode cM_reckon 149 = .ok (.return_, 1) := by decide +kernel
theorem dM_present_0 : decode cM_present 0 = .ok (.lconst 0, 1) := by decide +kernel
theorem dM_present_1 : decode cM_present 1 = .ok (.lstore_n 1, 1) := by decide +kernel
theorem dM_present_2 : decode cM_present 2 = .ok (.aload_n 0, 1) := by decide +kernel
theorem dM_present_3 : decode cM_present 3 = .ok (.invokevirtual 132, 3) := by decide +kernel
theorem dM_present_6 : decode cM_present 6 = .ok (.istore_n 3, 1) := by decide +kernel
theorem dM_present_7 : decode cM_present 7 = .ok (.iconst 0, 1) := by decide +kernel
theorem dM_present_8 : decode cM_present 8 = .ok (.istore 4, 2) := by decide +kernel
theorem dM_present_10 : decode cM_present 10 = .ok (.iload 4, 2) := by decide +kernel
theorem dM_present_12 : decode cM_present 12 = .ok (.aload_n 0, 1) := by decide +kernel
theorem dM_present_13 : decode cM_present 13 = .ok (.getfield 103, 3) := by decide +kernel
theorem dM_present_16 : decode cM_present 16 = .ok (.if_icmp .ge 113, 3) := by decide +kernel
theorem dM_present_19 : decode cM_present 19 = .ok (.aload_n 0, 1) := by decide +kernel
theorem dM_present_20 : decode cM_present 20 = .ok (.getfield 45, 3) := by decide +kernel
theorem dM_present_23 : decode cM_present 23 = .ok (.iload 4, 2) := by decide +kernel
theorem dM_present_25 : decode cM_present 25 = .ok (.iaload, 1) := by decide +kernel
theorem dM_present_26 : decode cM_present 26 = .ok (.istore 5, 2) := by decide +kernel
theorem dM_present_28 : decode cM_present 28 = .ok (.aload_n 0, 1) := by decide +kernel
theorem dM_present_29 : decode cM_present 29 = .ok (.getfield 32, 3) := by decide +kernel
theorem dM_present_32 : decode cM_present 32 = .ok (.iload 5, 2) := by decide +kernel
theorem dM_present_34 : decode cM_present 34 = .ok (.iaload, 1) := by decide +kernel
theorem dM_present_35 : decode cM_present 35 = .ok (.istore 6, 2) := by decide +kernel
theorem dM_present_37 : decode cM_present 37 = .ok (.iload 6, 2) := by decide +kernel
theorem dM_present_39 : decode cM_present 39 = .ok (.ifCond .lt 19, 3) := by decide +kernel
theorem dM_present_42 : decode cM_present 42 = .ok (.aload_n 0, 1) := by decide +kernel
theorem dM_present_43 : decode cM_present 43 = .ok (.iload 5, 2) := by decide +kernel
theorem dM_present_45 : decode cM_present 45 = .ok (.iload 6, 2) := by decide +kernel
theorem dM_present_47 : decode cM_present 47 = .ok (.iload_n 3, 1) := by decide +kernel
theorem dM_present_48 : decode cM_present 48 = .ok (.invokevirtual 125, 3) := by decide +kernel
theorem dM_present_51 : decode cM_present 51 = .ok (.ifCond .ne 7, 3) := by decide +kernel
theorem dM_present_54 : decode cM_present 54 = .ok (.ldc2_w 135, 3) := by decide +kernel
theorem dM_present_57 : decode cM_present 57 = .ok (.lreturn, 1) := by decide +kernel
theorem dM_present_58 : decode cM_present 58 = .ok (.iload_n 3, 1) := by decide +kernel
theorem dM_present_59 : decode cM_present 59 = .ok (.iload 6, 2) := by decide +kernel
theorem dM_present_61 : decode cM_present 61 = .ok (.ifCond .lt 10, 3) := by decide +kernel
theorem dM_present_64 : decode cM_present 64 = .ok (.iconst 1, 1) := by decide +kernel
theorem dM_present_65 : decode cM_present 65 = .ok (.iload 6, 2) := by decide +kernel
theorem dM_present_67 : decode cM_present 67 = .ok (.ishl, 1) := by decide +kernel
theorem dM_present_68 : decode cM_present 68 = .ok (.goto 4, 3) := by decide +kernel
theorem dM_present_71 : decode cM_present 71 = .ok (.iconst 0, 1) := by decide +kernel
theorem dM_present_72 : decode cM_present 72 = .ok (.ior, 1) := by decide +kernel
theorem dM_present_73 : decode cM_present 73 = .ok (.istore_n 3, 1) := by decide +kernel
theorem dM_present_74 : decode cM_present 74 = .ok (.lload_n 1, 1) := by decide +kernel
theorem dM_present_75 : decode cM_present 75 = .ok (.iload 6, 2) := by decide +kernel
theorem dM_present_77 : decode cM_present 77 = .ok (.ifCond .lt 33, 3) := by decide +kernel
theorem dM_present_80 : decode cM_present 80 = .ok (.aload_n 0, 1) := by decide +kernel
theorem dM_present_81 : decode cM_present 81 = .ok (.iload 5, 2) := by decide +kernel
theorem dM_present_83 : decode cM_present 83 = .ok (.invokevirtual 106, 3) := by decide +kernel
theorem dM_present_86 : decode cM_present 86 = .ok (.i2l, 1) := by decide +kernel
theorem dM_present_87 : decode cM_present 87 = .ok (.aload_n 0, 1) := by decide +kernel
theorem dM_present_88 : decode cM_present 88 = .ok (.getfield 17, 3) := by decide +kernel
theorem dM_present_91 : decode cM_present 91 = .ok (.bipush 6, 2) := by decide +kernel
theorem dM_present_93 : decode cM_present 93 = .ok (.iload 6, 2) := by decide +kernel
theorem dM_present_95 : decode cM_present 95 = .ok (.imul, 1) := by decide +kernel
theorem dM_present_96 : decode cM_present 96 = .ok (.aload_n 0, 1) := by decide +kernel
theorem dM_present_97 : decode cM_present 97 = .ok (.getfield 26, 3) := by decide +kernel
theorem dM_present_100 : decode cM_present 100 = .ok (.iload 5, 2) := by decide +kernel
theorem dM_present_102 : decode cM_present 102 = .ok (.iaload, 1) := by decide +kernel
theorem dM_present_103 : decode cM_present 103 = .ok (.iadd, 1) := by decide +kernel
theorem dM_present_104 : decode cM_present 104 = .ok (.iaload, 1) := by decide +kernel
theorem dM_present_105 : decode cM_present 105 = .ok (.i2l, 1) := by decide +kernel
theorem dM_present_106 : decode cM_present 106 = .ok (.lmul, 1) := by decide +kernel
theorem dM_present_107 : decode cM_present 107 = .ok (.goto 14, 3) := by decide +kernel
theorem dM_present_110 : decode cM_present 110 = .ok (.ldc2_w 116, 3) := by decide +kernel
theorem dM_present_113 : decode cM_present 113 = .ok (.aload_n 0, 1) := by decide +kernel
theorem dM_present_114 : decode cM_present 114 = .ok (.iload 5, 2) := by decide +kernel
theorem dM_present_116 : decode cM_present 116 = .ok (.invokevirtual 106, 3) := by decide +kernel
theorem dM_present_119 : decode cM_present 119 = .ok (.i2l, 1) := by decide +kernel
theorem dM_present_120 : decode cM_present 120 = .ok (.lmul, 1) := by decide +kernel
theorem dM_present_121 : decode cM_present 121 = .ok (.ladd, 1) := by decide +kernel
theorem dM_present_122 : decode cM_present 122 = .ok (.lstore_n 1, 1) := by decide +kernel
theorem dM_present_123 : decode cM_present 123 = .ok (.iinc 4 1, 3) := by decide +kernel
theorem dM_present_126 : decode cM_present 126 = .ok (.goto (-116), 3) := by decide +kernel
theorem dM_present_129 : decode cM_present 129 = .ok (.lload_n 1, 1) := by decide +kernel
theorem dM_present_130 : decode cM_present 130 = .ok (.lreturn, 1) := by decide +kernel
theorem dM_send_0 : decode cM_send 0 = .ok (.aload_n 0, 1) := by decide +kernel
theorem dM_send_1 : decode cM_send 1 = .ok (.iload_n 1, 1) := by decide +kernel
theorem dM_send_2 : decode cM_send 2 = .ok (.iconst 0, 1) := by decide +kernel
theorem dM_send_3 : decode cM_send 3 = .ok (.ldc 137, 2) := by decide +kernel
theorem dM_send_5 : decode cM_send 5 = .ok (.invokestatic 59, 3) := by decide +kernel
theorem dM_send_8 : decode cM_send 8 = .ok (.ifCond .ne 7, 3) := by decide +kernel
theorem dM_send_11 : decode cM_send 11 = .ok (.iconst 1, 1) := by decide +kernel
theorem dM_send_12 : decode cM_send 12 = .ok (.goto 4, 3) := by decide +kernel
theorem dM_send_15 : decode cM_send 15 = .ok (.iconst 0, 1) := by decide +kernel
theorem dM_send_16 : decode cM_send 16 = .ok (.iconst 0, 1) := by decide +kernel
theorem dM_send_17 : decode cM_send 17 = .ok (.iconst 0, 1) := by decide +kernel
theorem dM_send_18 : decode cM_send 18 = .ok (.iconst 0, 1) := by decide +kernel
theorem dM_send_19 : decode cM_send 19 = .ok (.invokevirtual 67, 3) := by decide +kernel
theorem dM_send_22 : decode cM_send 22 = .ok (.ifCond .eq 5, 3) := by decide +kernel
theorem dM_send_25 : decode cM_send 25 = .ok (.iconst 0, 1) := by decide +kernel
theorem dM_send_26 : decode cM_send 26 = .ok (.ireturn, 1) := by decide +kernel
theorem dM_send_27 : decode cM_send 27 = .ok (.aload_n 0, 1) := by decide +kernel
theorem dM_send_28 : decode cM_send 28 = .ok (.invokevirtual 138, 3) := by decide +kernel
theorem dM_send_31 : decode cM_send 31 = .ok (.aload_n 0, 1) := by decide +kernel
theorem dM_send_32 : decode cM_send 32 = .ok (.invokevirtual 132, 3) := by decide +kernel
theorem dM_send_35 : decode cM_send 35 = .ok (.istore_n 2, 1) := by decide +kernel
theorem dM_send_36 : decode cM_send 36 = .ok (.aload_n 0, 1) := by decide +kernel
theorem dM_send_37 : decode cM_send 37 = .ok (.getfield 49, 3) := by decide +kernel
theorem dM_send_40 : decode cM_send 40 = .ok (.iload_n 2, 1) := by decide +kernel
theorem dM_send_41 : decode cM_send 41 = .ok (.laload, 1) := by decide +kernel
theorem dM_send_42 : decode cM_send 42 = .ok (.lstore_n 3, 1) := by decide +kernel
theorem dM_send_43 : decode cM_send 43 = .ok (.aload_n 0, 1) := by decide +kernel
theorem dM_send_44 : decode cM_send 44 = .ok (.invokevirtual 141, 3) := by decide +kernel
theorem dM_send_47 : decode cM_send 47 = .ok (.lstore 5, 2) := by decide +kernel
theorem dM_send_49 : decode cM_send 49 = .ok (.lload 5, 2) := by decide +kernel
theorem dM_send_51 : decode cM_send 51 = .ok (.lconst 0, 1) := by decide +kernel
theorem dM_send_52 : decode cM_send 52 = .ok (.lcmp, 1) := by decide +kernel
theorem dM_send_53 : decode cM_send 53 = .ok (.ifCond .lt 41, 3) := by decide +kernel
theorem dM_send_56 : decode cM_send 56 = .ok (.lload 5, 2) := by decide +kernel
theorem dM_send_58 : decode cM_send 58 = .ok (.ldc2_w 116, 3) := by decide +kernel
theorem dM_send_61 : decode cM_send 61 = .ok (.ldiv, 1) := by decide +kernel
theorem dM_send_62 : decode cM_send 62 = .ok (.lload_n 3, 1) := by decide +kernel
theorem dM_send_63 : decode cM_send 63 = .ok (.ldc2_w 116, 3) := by decide +kernel
theorem dM_send_66 : decode cM_send 66 = .ok (.ldiv, 1) := by decide +kernel
theorem dM_send_67 : decode cM_send 67 = .ok (.lcmp, 1) := by decide +kernel
theorem dM_send_68 : decode cM_send 68 = .ok (.ifCond .ne 26, 3) := by decide +kernel
theorem dM_send_71 : decode cM_send 71 = .ok (.lload 5, 2) := by decide +kernel
theorem dM_send_73 : decode cM_send 73 = .ok (.lload_n 3, 1) := by decide +kernel
theorem dM_send_74 : decode cM_send 74 = .ok (.lsub, 1) := by decide +kernel
theorem dM_send_75 : decode cM_send 75 = .ok (.iload_n 1, 1) := by decide +kernel
theorem dM_send_76 : decode cM_send 76 = .ok (.iconst 1, 1) := by decide +kernel
theorem dM_send_77 : decode cM_send 77 = .ok (.if_icmp .ge 7, 3) := by decide +kernel
theorem dM_send_80 : decode cM_send 80 = .ok (.iconst 1, 1) := by decide +kernel
theorem dM_send_81 : decode cM_send 81 = .ok (.goto 4, 3) := by decide +kernel
theorem dM_send_84 : decode cM_send 84 = .ok (.iload_n 1, 1) := by decide +kernel
theorem dM_send_85 : decode cM_send 85 = .ok (.i2l, 1) := by decide +kernel
theorem dM_send_86 : decode cM_send 86 = .ok (.lcmp, 1) := by decide +kernel
theorem dM_send_87 : decode cM_send 87 = .ok (.ifCond .ge 7, 3) := by decide +kernel
theorem dM_send_90 : decode cM_send 90 = .ok (.iconst 1, 1) := by decide +kernel
theorem dM_send_91 : decode cM_send 91 = .ok (.goto 4, 3) := by decide +kernel
theorem dM_send_94 : decode cM_send 94 = .ok (.iconst 0, 1) := by decide +kernel
theorem dM_send_95 : decode cM_send 95 = .ok (.istore 7, 2) := by decide +kernel
theorem dM_send_97 : decode cM_send 97 = .ok (.iconst 0, 1) := by decide +kernel
theorem dM_send_98 : decode cM_send 98 = .ok (.istore 8, 2) := by decide +kernel
theorem dM_send_100 : decode cM_send 100 = .ok (.iload 8, 2) := by decide +kernel
theorem dM_send_102 : decode cM_send 102 = .ok (.aload_n 0, 1) := by decide +kernel
theorem dM_send_103 : decode cM_send 103 = .ok (.getfield 103, 3) := by decide +kernel
theorem dM_send_106 : decode cM_send 106 = .ok (.if_icmp .ge 146, 3) := by decide +kernel
theorem dM_send_109 : decode cM_send 109 = .ok (.iload 7, 2) := by decide +kernel
theorem dM_send_111 : decode cM_send 111 = .ok (.ifCond .ne 141, 3) := by decide +kernel
theorem dM_send_114 : decode cM_send 114 = .ok (.aload_n 0, 1) := by decide +kernel
theorem dM_send_115 : decode cM_send 115 = .ok (.getfield 45, 3) := by decide +kernel
theorem dM_send_118 : decode cM_send 118 = .ok (.iload 8, 2) := by decide +kernel
theorem dM_send_120 : decode cM_send 120 = .ok (.iaload, 1) := by decide +kernel
theorem dM_send_121 : decode cM_send 121 = .ok (.istore 9, 2) := by decide +kernel
theorem dM_send_123 : decode cM_send 123 = .ok (.iconst (-1), 1) := by decide +kernel
theorem dM_send_124 : decode cM_send 124 = .ok (.istore 10, 2) := by decide +kernel
theorem dM_send_126 : decode cM_send 126 = .ok (.aload_n 0, 1) := by decide +kernel
theorem dM_send_127 : decode cM_send 127 = .ok (.getfield 56, 3) := by decide +kernel
theorem dM_send_130 : decode cM_send 130 = .ok (.iconst 1, 1) := by decide +kernel
theorem dM_send_131 : decode cM_send 131 = .ok (.isub, 1) := by decide +kernel
theorem dM_send_132 : decode cM_send 132 = .ok (.istore 11, 2) := by decide +kernel
theorem dM_send_134 : decode cM_send 134 = .ok (.iload 11, 2) := by decide +kernel
theorem dM_send_136 : decode cM_send 136 = .ok (.ifCond .lt 51, 3) := by decide +kernel
theorem dM_send_139 : decode cM_send 139 = .ok (.aload_n 0, 1) := by decide +kernel
theorem dM_send_140 : decode cM_send 140 = .ok (.iload 9, 2) := by decide +kernel
theorem dM_send_142 : decode cM_send 142 = .ok (.iload 11, 2) := by decide +kernel
theorem dM_send_144 : decode cM_send 144 = .ok (.iload_n 2, 1) := by decide +kernel
theorem dM_send_145 : decode cM_send 145 = .ok (.invokevirtual 125, 3) := by decide +kernel
theorem dM_send_148 : decode cM_send 148 = .ok (.ifCond .eq 33, 3) := by decide +kernel
theorem dM_send_151 : decode cM_send 151 = .ok (.aload_n 0, 1) := by decide +kernel
theorem dM_send_152 : decode cM_send 152 = .ok (.iload 8, 2) := by decide +kernel
theorem dM_send_154 : decode cM_send 154 = .ok (.iload 11, 2) := by decide +kernel
theorem dM_send_156 : decode cM_send 156 = .ok (.iload_n 2, 1) := by decide +kernel
theorem dM_send_157 : decode cM_send 157 = .ok (.invokevirtual 128, 3) := by decide +kernel
theorem dM_send_160 : decode cM_send 160 = .ok (.aload_n 0, 1) := by decide +kernel
theorem dM_send_161 : decode cM_send 161 = .ok (.getfield 49, 3) := by decide +kernel
theorem dM_send_164 : decode cM_send 164 = .ok (.sipush 4096, 3) := by decide +kernel
theorem dM_send_167 : decode cM_send 167 = .ok (.iload 8, 2) := by decide +kernel
theorem dM_send_169 : decode cM_send 169 = .ok (.imul, 1) := by decide +kernel
theorem dM_send_170 : decode cM_send 170 = .ok (.iload_n 2, 1) := by decide +kernel
theorem dM_send_171 : decode cM_send 171 = .ok (.iadd, 1) := by decide +kernel
theorem dM_send_172 : decode cM_send 172 = .ok (.laload, 1) := by decide +kernel
theorem dM_send_173 : decode cM_send 173 = .ok (.lcmp, 1) := by decide +kernel
theorem dM_send_174 : decode cM_send 174 = .ok (.ifCond .ne 7, 3) := by decide +kernel
theorem dM_send_177 : decode cM_send 177 = .ok (.iload 11, 2) := by decide +kernel
theorem dM_send_179 : decode cM_send 179 = .ok (.istore 10, 2) := by decide +kernel
theorem dM_send_181 : decode cM_send 181 = .ok (.iinc 11 (-1), 3) := by decide +kernel
theorem dM_send_184 : decode cM_send 184 = .ok (.goto (-50), 3) := by decide +kernel
theorem dM_send_187 : decode cM_send 187 = .ok (.aload_n 0, 1) := by decide +kernel
theorem dM_send_188 : decode cM_send 188 = .ok (.getfield 35, 3) := by decide +kernel
theorem dM_send_191 : decode cM_send 191 = .ok (.iload 9, 2) := by decide +kernel
theorem dM_send_193 : decode cM_send 193 = .ok (.aload_n 0, 1) := by decide +kernel
theorem dM_send_194 : decode cM_send 194 = .ok (.getfield 35, 3) := by decide +kernel
theorem dM_send_197 : decode cM_send 197 = .ok (.iload 9, 2) := by decide +kernel
theorem dM_send_199 : decode cM_send 199 = .ok (.baload, 1) := by decide +kernel
theorem dM_send_200 : decode cM_send 200 = .ok (.ifCond .eq 19, 3) := by decide +kernel
theorem dM_send_203 : decode cM_send 203 = .ok (.aload_n 0, 1) := by decide +kernel
theorem dM_send_204 : decode cM_send 204 = .ok (.getfield 32, 3) := by decide +kernel
theorem dM_send_207 : decode cM_send 207 = .ok (.iload 9, 2) := by decide +kernel
theorem dM_send_209 : decode cM_send 209 = .ok (.iaload, 1) := by decide +kernel
theorem dM_send_210 : decode cM_send 210 = .ok (.iload 10, 2) := by decide +kernel
theorem dM_send_212 : decode cM_send 212 = .ok (.if_icmp .ne 7, 3) := by decide +kernel
theorem dM_send_215 : decode cM_send 215 = .ok (.iconst 1, 1) := by decide +kernel
theorem dM_send_216 : decode cM_send 216 = .ok (.goto 4, 3) := by decide +kernel
theorem dM_send_219 : decode cM_send 219 = .ok (.iconst 0, 1) := by decide +kernel
theorem dM_send_220 : decode cM_send 220 = .ok (.bastore, 1) := by decide +kernel
theorem dM_send_221 : decode cM_send 221 = .ok (.aload_n 0, 1) := by decide +kernel
theorem dM_send_222 : decode cM_send 222 = .ok (.getfield 32, 3) := by decide +kernel
theorem dM_send_225 : decode cM_send 225 = .ok (.iload 9, 2) := by decide +kernel
theorem dM_send_227 : decode cM_send 227 = .ok (.iload 10, 2) := by decide +kernel
theorem dM_send_229 : decode cM_send 229 = .ok (.iastore, 1) := by decide +kernel
theorem dM_send_230 : decode cM_send 230 = .ok (.iload_n 2, 1) := by decide +kernel
theorem dM_send_231 : decode cM_send 231 = .ok (.iload 10, 2) := by decide +kernel
theorem dM_send_233 : decode cM_send 233 = .ok (.ifCond .lt 10, 3) := by decide +kernel
theorem dM_send_236 : decode cM_send 236 = .ok (.iconst 1, 1) := by decide +kernel
theorem dM_send_237 : decode cM_send 237 = .ok (.iload 10, 2) := by decide +kernel
theorem dM_send_239 : decode cM_send 239 = .ok (.ishl, 1) := by decide +kernel
theorem dM_send_240 : decode cM_send 240 = .ok (.goto 4, 3) := by decide +kernel
theorem dM_send_243 : decode cM_send 243 = .ok (.iconst 0, 1) := by decide +kernel
theorem dM_send_244 : decode cM_send 244 = .ok (.ior, 1) := by decide +kernel
theorem dM_send_245 : decode cM_send 245 = .ok (.istore_n 2, 1) := by decide +kernel
theorem dM_send_246 : decode cM_send 246 = .ok (.iinc 8 1, 3) := by decide +kernel
theorem dM_send_249 : decode cM_send 249 = .ok (.goto (-149), 3) := by decide +kernel
theorem dM_send_252 : decode cM_send 252 = .ok (.iconst 0, 1) := by decide +kernel
theorem dM_send_253 : decode cM_send 253 = .ok (.istore 8, 2) := by decide +kernel
theorem dM_send_255 : decode cM_send 255 = .ok (.iconst 0, 1) := by decide +kernel
theorem dM_send_256 : decode cM_send 256 = .ok (.istore 9, 2) := by decide +kernel
theorem dM_send_258 : decode cM_send 258 = .ok (.iload 9, 2) := by decide +kernel
theorem dM_send_260 : decode cM_send 260 = .ok (.aload_n 0, 1) := by decide +kernel
theorem dM_send_261 : decode cM_send 261 = .ok (.getfield 75, 3) := by decide +kernel
theorem dM_send_264 : decode cM_send 264 = .ok (.if_icmp .ge 38, 3) := by decide +kernel
theorem dM_send_267 : decode cM_send 267 = .ok (.iload 8, 2) := by decide +kernel
theorem dM_send_269 : decode cM_send 269 = .ok (.aload_n 0, 1) := by decide +kernel
theorem dM_send_270 : decode cM_send 270 = .ok (.iload 9, 2) := by decide +kernel
theorem dM_send_272 : decode cM_send 272 = .ok (.invokevirtual 93, 3) := by decide +kernel
theorem dM_send_275 : decode cM_send 275 = .ok (.ifCond .eq 17, 3) := by decide +kernel
theorem dM_send_278 : decode cM_send 278 = .ok (.aload_n 0, 1) := by decide +kernel
theorem dM_send_279 : decode cM_send 279 = .ok (.getfield 32, 3) := by decide +kernel
theorem dM_send_282 : decode cM_send 282 = .ok (.iload 9, 2) := by decide +kernel
theorem dM_send_284 : decode cM_send 284 = .ok (.iaload, 1) := by decide +kernel
theorem dM_send_285 : decode cM_send 285 = .ok (.ifCond .lt 7, 3) := by decide +kernel
theorem dM_send_288 : decode cM_send 288 = .ok (.iconst 1, 1) := by decide +kernel
theorem dM_send_289 : decode cM_send 289 = .ok (.goto 4, 3) := by decide +kernel
theorem dM_send_292 : decode cM_send 292 = .ok (.iconst 0, 1) := by decide +kernel
theorem dM_send_293 : decode cM_send 293 = .ok (.iadd, 1) := by decide +kernel
theorem dM_send_294 : decode cM_send 294 = .ok (.istore 8, 2) := by decide +kernel
theorem dM_send_296 : decode cM_send 296 = .ok (.iinc 9 1, 3) := by decide +kernel
theorem dM_send_299 : decode cM_send 299 = .ok (.goto (-41), 3) := by decide +kernel
theorem dM_send_302 : decode cM_send 302 = .ok (.iload 8, 2) := by decide +kernel
theorem dM_send_304 : decode cM_send 304 = .ok (.ireturn, 1) := by decide +kernel
theorem dM_stay_0 : decode cM_stay 0 = .ok (.aload_n 0, 1) := by decide +kernel
theorem dM_stay_1 : decode cM_stay 1 = .ok (.iload_n 1, 1) := by decide +kernel
theorem dM_stay_2 : decode cM_stay 2 = .ok (.invokevirtual 78, 3) := by decide +kernel
theorem dM_stay_5 : decode cM_stay 5 = .ok (.ifCond .ne 7, 3) := by decide +kernel
theorem dM_stay_8 : decode cM_stay 8 = .ok (.iconst 1, 1) := by decide +kernel
theorem dM_stay_9 : decode cM_stay 9 = .ok (.goto 4, 3) := by decide +kernel
theorem dM_stay_12 : decode cM_stay 12 = .ok (.iconst 0, 1) := by decide +kernel
theorem dM_stay_13 : decode cM_stay 13 = .ok (.istore_n 3, 1) := by decide +kernel
theorem dM_stay_14 : decode cM_stay 14 = .ok (.iload_n 3, 1) := by decide +kernel
theorem dM_stay_15 : decode cM_stay 15 = .ok (.ifCond .eq 7, 3) := by decide +kernel
theorem dM_stay_18 : decode cM_stay 18 = .ok (.iconst (-1), 1) := by decide +kernel
theorem dM_stay_19 : decode cM_stay 19 = .ok (.goto 8, 3) := by decide +kernel
theorem dM_stay_22 : decode cM_stay 22 = .ok (.aload_n 0, 1) := by decide +kernel
theorem dM_stay_23 : decode cM_stay 23 = .ok (.iload_n 1, 1) := by decide +kernel
theorem dM_stay_24 : decode cM_stay 24 = .ok (.invokevirtual 85, 3) := by decide +kernel
theorem dM_stay_27 : decode cM_stay 27 = .ok (.istore 4, 2) := by decide +kernel
theorem dM_stay_29 : decode cM_stay 29 = .ok (.aload_n 0, 1) := by decide +kernel
theorem dM_stay_30 : decode cM_stay 30 = .ok (.iload_n 3, 1) := by decide +kernel
theorem dM_stay_31 : decode cM_stay 31 = .ok (.iload_n 3, 1) := by decide +kernel
theorem dM_stay_32 : decode cM_stay 32 = .ok (.ifCond .ne 32, 3) := by decide +kernel
theorem dM_stay_35 : decode cM_stay 35 = .ok (.iload 4, 2) := by decide +kernel
theorem dM_stay_37 : decode cM_stay 37 = .ok (.ifCond .lt 23, 3) := by decide +kernel
theorem dM_stay_40 : decode cM_stay 40 = .ok (.aload_n 0, 1) := by decide +kernel
theorem dM_stay_41 : decode cM_stay 41 = .ok (.getfield 35, 3) := by decide +kernel
theorem dM_stay_44 : decode cM_stay 44 = .ok (.iload 4, 2) := by decide +kernel
theorem dM_stay_46 : decode cM_stay 46 = .ok (.ifCond .ge 7, 3) := by decide +kernel
theorem dM_stay_49 : decode cM_stay 49 = .ok (.iconst 0, 1) := by decide +kernel
theorem dM_stay_50 : decode cM_stay 50 = .ok (.goto 5, 3) := by decide +kernel
theorem dM_stay_53 : decode cM_stay 53 = .ok (.iload 4, 2) := by decide +kernel
theorem dM_stay_55 : decode cM_stay 55 = .ok (.baload, 1) := by decide +kernel
theorem dM_stay_56 : decode cM_stay 56 = .ok (.iload_n 2, 1) := by decide +kernel
theorem dM_stay_57 : decode cM_stay 57 = .ok (.if_icmp .ne 7, 3) := by decide +kernel
theorem dM_stay_60 : decode cM_stay 60 = .ok (.iconst 1, 1) := by decide +kernel
theorem dM_stay_61 : decode cM_stay 61 = .ok (.goto 4, 3) := by decide +kernel
theorem dM_stay_64 : decode cM_stay 64 = .ok (.iconst 0, 1) := by decide +kernel
theorem dM_stay_65 : decode cM_stay 65 = .ok (.iconst 0, 1) := by decide +kernel
theorem dM_stay_66 : decode cM_stay 66 = .ok (.iconst 0, 1) := by decide +kernel
theorem dM_stay_67 : decode cM_stay 67 = .ok (.invokevirtual 67, 3) := by decide +kernel
theorem dM_stay_70 : decode cM_stay 70 = .ok (.ifCond .eq 4, 3) := by decide +kernel
theorem dM_stay_73 : decode cM_stay 73 = .ok (.return_, 1) := by decide +kernel
theorem dM_stay_74 : decode cM_stay 74 = .ok (.aload_n 0, 1) := by decide +kernel
theorem dM_stay_75 : decode cM_stay 75 = .ok (.getfield 35, 3) := by decide +kernel
theorem dM_stay_78 : decode cM_stay 78 = .ok (.iload 4, 2) := by decide +kernel
theorem dM_stay_80 : decode cM_stay 80 = .ok (.iload_n 2, 1) := by decide +kernel
theorem dM_stay_81 : decode cM_stay 81 = .ok (.bastore, 1) := by decide +kernel
theorem dM_stay_82 : decode cM_stay 82 = .ok (.return_, 1) := by decide +kernel
theorem dM_recall_0 : decode cM_recall 0 = .ok (.aload_n 0, 1) := by decide +kernel
theorem dM_recall_1 : decode cM_recall 1 = .ok (.iload_n 1, 1) := by decide +kernel
theorem dM_recall_2 : decode cM_recall 2 = .ok (.invokevirtual 78, 3) := by decide +kernel
theorem dM_recall_5 : decode cM_recall 5 = .ok (.ifCond .ne 7, 3) := by decide +kernel
theorem dM_recall_8 : decode cM_recall 8 = .ok (.iconst 1, 1) := by decide +kernel
theorem dM_recall_9 : decode cM_recall 9 = .ok (.goto 4, 3) := by decide +kernel
theorem dM_recall_12 : decode cM_recall 12 = .ok (.iconst 0, 1) := by decide +kernel
theorem dM_recall_13 : decode cM_recall 13 = .ok (.istore_n 2, 1) := by decide +kernel
theorem dM_recall_14 : decode cM_recall 14 = .ok (.iload_n 2, 1) := by decide +kernel
theorem dM_recall_15 : decode cM_recall 15 = .ok (.ifCond .eq 7, 3) := by decide +kernel
theorem dM_recall_18 : decode cM_recall 18 = .ok (.iconst (-1), 1) := by decide +kernel
theorem dM_recall_19 : decode cM_recall 19 = .ok (.goto 8, 3) := by decide +kernel
theorem dM_recall_22 : decode cM_recall 22 = .ok (.aload_n 0, 1) := by decide +kernel
theorem dM_recall_23 : decode cM_recall 23 = .ok (.iload_n 1, 1) := by decide +kernel
theorem dM_recall_24 : decode cM_recall 24 = .ok (.invokevirtual 85, 3) := by decide +kernel
theorem dM_recall_27 : decode cM_recall 27 = .ok (.istore_n 3, 1) := by decide +kernel
theorem dM_recall_28 : decode cM_recall 28 = .ok (.aload_n 0, 1) := by decide +kernel
theorem dM_recall_29 : decode cM_recall 29 = .ok (.iload_n 2, 1) := by decide +kernel
theorem dM_recall_30 : decode cM_recall 30 = .ok (.iload_n 2, 1) := by decide +kernel
theorem dM_recall_31 : decode cM_recall 31 = .ok (.ifCond .ne 11, 3) := by decide +kernel
theorem dM_recall_34 : decode cM_recall 34 = .ok (.iload_n 3, 1) := by decide +kernel
theorem dM_recall_35 : decode cM_recall 35 = .ok (.ifCond .ge 7, 3) := by decide +kernel
theorem dM_recall_38 : decode cM_recall 38 = .ok (.iconst 1, 1) := by decide +kernel
theorem dM_recall_39 : decode cM_recall 39 = .ok (.goto 4, 3) := by decide +kernel
theorem dM_recall_42 : decode cM_recall 42 = .ok (.iconst 0, 1) := by decide +kernel
theorem dM_recall_43 : decode cM_recall 43 = .ok (.iconst 0, 1) := by decide +kernel
theorem dM_recall_44 : decode cM_recall 44 = .ok (.iconst 0, 1) := by decide +kernel
theorem dM_recall_45 : decode cM_recall 45 = .ok (.invokevirtual 67, 3) := by decide +kernel
theorem dM_recall_48 : decode cM_recall 48 = .ok (.ifCond .eq 4, 3) := by decide +kernel
theorem dM_recall_51 : decode cM_recall 51 = .ok (.return_, 1) := by decide +kernel
theorem dM_recall_52 : decode cM_recall 52 = .ok (.aload_n 0, 1) := by decide +kernel
theorem dM_recall_53 : decode cM_recall 53 = .ok (.iload_n 3, 1) := by decide +kernel
theorem dM_recall_54 : decode cM_recall 54 = .ok (.invokevirtual 89, 3) := by decide +kernel
theorem dM_recall_57 : decode cM_recall 57 = .ok (.return_, 1) := by decide +kernel
theorem dM_close_0 : decode cM_close 0 = .ok (.aload_n 0, 1) := by decide +kernel
theorem dM_close_1 : decode cM_close 1 = .ok (.iload_n 1, 1) := by decide +kernel
theorem dM_close_2 : decode cM_close 2 = .ok (.invokevirtual 71, 3) := by decide +kernel
theorem dM_close_5 : decode cM_close 5 = .ok (.ifCond .ne 7, 3) := by decide +kernel
theorem dM_close_8 : decode cM_close 8 = .ok (.iconst 1, 1) := by decide +kernel
theorem dM_close_9 : decode cM_close 9 = .ok (.goto 4, 3) := by decide +kernel
theorem dM_close_12 : decode cM_close 12 = .ok (.iconst 0, 1) := by decide +kernel
theorem dM_close_13 : decode cM_close 13 = .ok (.istore_n 2, 1) := by decide +kernel
theorem dM_close_14 : decode cM_close 14 = .ok (.aload_n 0, 1) := by decide +kernel
theorem dM_close_15 : decode cM_close 15 = .ok (.iload_n 2, 1) := by decide +kernel
theorem dM_close_16 : decode cM_close 16 = .ok (.iload_n 2, 1) := by decide +kernel
theorem dM_close_17 : decode cM_close 17 = .ok (.ifCond .ne 16, 3) := by decide +kernel
theorem dM_close_20 : decode cM_close 20 = .ok (.aload_n 0, 1) := by decide +kernel
theorem dM_close_21 : decode cM_close 21 = .ok (.getfield 23, 3) := by decide +kernel
theorem dM_close_24 : decode cM_close 24 = .ok (.iload_n 1, 1) := by decide +kernel
theorem dM_close_25 : decode cM_close 25 = .ok (.baload, 1) := by decide +kernel
theorem dM_close_26 : decode cM_close 26 = .ok (.ifCond .eq 7, 3) := by decide +kernel
theorem dM_close_29 : decode cM_close 29 = .ok (.iconst 1, 1) := by decide +kernel
theorem dM_close_30 : decode cM_close 30 = .ok (.goto 4, 3) := by decide +kernel
theorem dM_close_33 : decode cM_close 33 = .ok (.iconst 0, 1) := by decide +kernel
theorem dM_close_34 : decode cM_close 34 = .ok (.iconst 0, 1) := by decide +kernel
theorem dM_close_35 : decode cM_close 35 = .ok (.iconst 0, 1) := by decide +kernel
theorem dM_close_36 : decode cM_close 36 = .ok (.invokevirtual 67, 3) := by decide +kernel
theorem dM_close_39 : decode cM_close 39 = .ok (.ifCond .eq 4, 3) := by decide +kernel
theorem dM_close_42 : decode cM_close 42 = .ok (.return_, 1) := by decide +kernel
theorem dM_close_43 : decode cM_close 43 = .ok (.aload_n 0, 1) := by decide +kernel
theorem dM_close_44 : decode cM_close 44 = .ok (.getfield 23, 3) := by decide +kernel
theorem dM_close_47 : decode cM_close 47 = .ok (.iload_n 1, 1) := by decide +kernel
theorem dM_close_48 : decode cM_close 48 = .ok (.iconst 1, 1) := by decide +kernel
theorem dM_close_49 : decode cM_close 49 = .ok (.bastore, 1) := by decide +kernel
theorem dM_close_50 : decode cM_close 50 = .ok (.iconst 0, 1) := by decide +kernel
theorem dM_close_51 : decode cM_close 51 = .ok (.istore_n 3, 1) := by decide +kernel
theorem dM_close_52 : decode cM_close 52 = .ok (.iload_n 3, 1) := by decide +kernel
theorem dM_close_53 : decode cM_close 53 = .ok (.aload_n 0, 1) := by decide +kernel
theorem dM_close_54 : decode cM_close 54 = .ok (.getfield 75, 3) := by decide +kernel
theorem dM_close_57 : decode cM_close 57 = .ok (.if_icmp .ge 24, 3) := by decide +kernel
theorem dM_close_60 : decode cM_close 60 = .ok (.aload_n 0, 1) := by decide +kernel
theorem dM_close_61 : decode cM_close 61 = .ok (.getfield 26, 3) := by decide +kernel
theorem dM_close_64 : decode cM_close 64 = .ok (.iload_n 3, 1) := by decide +kernel
theorem dM_close_65 : decode cM_close 65 = .ok (.iaload, 1) := by decide +kernel
theorem dM_close_66 : decode cM_close 66 = .ok (.iload_n 1, 1) := by decide +kernel
theorem dM_close_67 : decode cM_close 67 = .ok (.if_icmp .ne 8, 3) := by decide +kernel
theorem dM_close_70 : decode cM_close 70 = .ok (.aload_n 0, 1) := by decide +kernel
theorem dM_close_71 : decode cM_close 71 = .ok (.iload_n 3, 1) := by decide +kernel
theorem dM_close_72 : decode cM_close 72 = .ok (.invokevirtual 89, 3) := by decide +kernel
theorem dM_close_75 : decode cM_close 75 = .ok (.iinc 3 1, 3) := by decide +kernel
theorem dM_close_78 : decode cM_close 78 = .ok (.goto (-26), 3) := by decide +kernel
theorem dM_close_81 : decode cM_close 81 = .ok (.return_, 1) := by decide +kernel
theorem dM_needAt_0 : decode cM_needAt 0 = .ok (.aload_n 0, 1) := by decide +kernel
theorem dM_needAt_1 : decode cM_needAt 1 = .ok (.iload_n 1, 1) := by decide +kernel
theorem dM_needAt_2 : decode cM_needAt 2 = .ok (.iconst 0, 1) := by decide +kernel
theorem dM_needAt_3 : decode cM_needAt 3 = .ok (.aload_n 0, 1) := by decide +kernel
theorem dM_needAt_4 : decode cM_needAt 4 = .ok (.getfield 75, 3) := by decide +kernel
theorem dM_needAt_7 : decode cM_needAt 7 = .ok (.iconst 1, 1) := by decide +kernel
theorem dM_needAt_8 : decode cM_needAt 8 = .ok (.isub, 1) := by decide +kernel
theorem dM_needAt_9 : decode cM_needAt 9 = .ok (.invokestatic 59, 3) := by decide +kernel
theorem dM_needAt_12 : decode cM_needAt 12 = .ok (.ifCond .eq 12, 3) := by decide +kernel
theorem dM_needAt_15 : decode cM_needAt 15 = .ok (.iload_n 2, 1) := by decide +kernel
theorem dM_needAt_16 : decode cM_needAt 16 = .ok (.iconst 0, 1) := by decide +kernel
theorem dM_needAt_17 : decode cM_needAt 17 = .ok (.iconst 3, 1) := by decide +kernel
theorem dM_needAt_18 : decode cM_needAt 18 = .ok (.invokestatic 59, 3) := by decide +kernel
theorem dM_needAt_21 : decode cM_needAt 21 = .ok (.ifCond .ne 7, 3) := by decide +kernel
theorem dM_needAt_24 : decode cM_needAt 24 = .ok (.iconst 1, 1) := by decide +kernel
theorem dM_needAt_25 : decode cM_needAt 25 = .ok (.goto 4, 3) := by decide +kernel
theorem dM_needAt_28 : decode cM_needAt 28 = .ok (.iconst 0, 1) := by decide +kernel
theorem dM_needAt_29 : decode cM_needAt 29 = .ok (.iconst 0, 1) := by decide +kernel
theorem dM_needAt_30 : decode cM_needAt 30 = .ok (.iconst 0, 1) := by decide +kernel
theorem dM_needAt_31 : decode cM_needAt 31 = .ok (.iconst 0, 1) := by decide +kernel
theorem dM_needAt_32 : decode cM_needAt 32 = .ok (.invokevirtual 67, 3) := by decide +kernel
theorem dM_needAt_35 : decode cM_needAt 35 = .ok (.ifCond .eq 5, 3) := by decide +kernel
theorem dM_needAt_38 : decode cM_needAt 38 = .ok (.iconst 0, 1) := by decide +kernel
theorem dM_needAt_39 : decode cM_needAt 39 = .ok (.ireturn, 1) := by decide +kernel
theorem dM_needAt_40 : decode cM_needAt 40 = .ok (.iload_n 2, 1) := by decide +kernel
theorem dM_needAt_41 : decode cM_needAt 41 = .ok (.ifCond .ne 12, 3) := by decide +kernel
theorem dM_needAt_44 : decode cM_needAt 44 = .ok (.aload_n 0, 1) := by decide +kernel
theorem dM_needAt_45 : decode cM_needAt 45 = .ok (.getfield 26, 3) := by decide +kernel
theorem dM_needAt_48 : decode cM_needAt 48 = .ok (.iload_n 1, 1) := by decide +kernel
theorem dM_needAt_49 : decode cM_needAt 49 = .ok (.iaload, 1) := by decide +kernel
theorem dM_needAt_50 : decode cM_needAt 50 = .ok (.goto 44, 3) := by decide +kernel
theorem dM_needAt_53 : decode cM_needAt 53 = .ok (.iload_n 2, 1) := by decide +kernel
theorem dM_needAt_54 : decode cM_needAt 54 = .ok (.iconst 1, 1) := by decide +kernel
theorem dM_needAt_55 : decode cM_needAt 55 = .ok (.if_icmp .ne 12, 3) := by decide +kernel
theorem dM_needAt_58 : decode cM_needAt 58 = .ok (.aload_n 0, 1) := by decide +kernel
theorem dM_needAt_59 : decode cM_needAt 59 = .ok (.getfield 29, 3) := by decide +kernel
theorem dM_needAt_62 : decode cM_needAt 62 = .ok (.iload_n 1, 1) := by decide +kernel
theorem dM_needAt_63 : decode cM_needAt 63 = .ok (.iaload, 1) := by decide +kernel
theorem dM_needAt_64 : decode cM_needAt 64 = .ok (.goto 30, 3) := by decide +kernel
theorem dM_needAt_67 : decode cM_needAt 67 = .ok (.iload_n 2, 1) := by decide +kernel
theorem dM_needAt_68 : decode cM_needAt 68 = .ok (.iconst 2, 1) := by decide +kernel
theorem dM_needAt_69 : decode cM_needAt 69 = .ok (.if_icmp .ne 12, 3) := by decide +kernel
theorem dM_needAt_72 : decode cM_needAt 72 = .ok (.aload_n 0, 1) := by decide +kernel
theorem dM_needAt_73 : decode cM_needAt 73 = .ok (.getfield 32, 3) := by decide +kernel
theorem dM_needAt_76 : decode cM_needAt 76 = .ok (.iload_n 1, 1) := by decide +kernel
theorem dM_needAt_77 : decode cM_needAt 77 = .ok (.iaload, 1) := by decide +kernel
theorem dM_needAt_78 : decode cM_needAt 78 = .ok (.goto 16, 3) := by decide +kernel
theorem dM_needAt_81 : decode cM_needAt 81 = .ok (.aload_n 0, 1) := by decide +kernel
theorem dM_needAt_82 : decode cM_needAt 82 = .ok (.iload_n 1, 1) := by decide +kernel
theorem dM_needAt_83 : decode cM_needAt 83 = .ok (.invokevirtual 93, 3) := by decide +kernel
theorem dM_needAt_86 : decode cM_needAt 86 = .ok (.ifCond .eq 7, 3) := by decide +kernel
theorem dM_needAt_89 : decode cM_needAt 89 = .ok (.iconst 1, 1) := by decide +kernel
theorem dM_needAt_90 : decode cM_needAt 90 = .ok (.goto 4, 3) := by decide +kernel
theorem dM_needAt_93 : decode cM_needAt 93 = .ok (.iconst 0, 1) := by decide +kernel
theorem dM_needAt_94 : decode cM_needAt 94 = .ok (.ireturn, 1) := by decide +kernel
theorem dM_fills_0 : decode cM_fills 0 = .ok (.aload_n 0, 1) := by decide +kernel
theorem dM_fills_1 : decode cM_fills 1 = .ok (.aload_n 0, 1) := by decide +kernel
theorem dM_fills_2 : decode cM_fills 2 = .ok (.iload_n 1, 1) := by decide +kernel
theorem dM_fills_3 : decode cM_fills 3 = .ok (.invokevirtual 78, 3) := by decide +kernel
theorem dM_fills_6 : decode cM_fills 6 = .ok (.ifCond .ne 7, 3) := by decide +kernel
theorem dM_fills_9 : decode cM_fills 9 = .ok (.iconst 1, 1) := by decide +kernel
theorem dM_fills_10 : decode cM_fills 10 = .ok (.goto 4, 3) := by decide +kernel
theorem dM_fills_13 : decode cM_fills 13 = .ok (.iconst 0, 1) := by decide +kernel
theorem dM_fills_14 : decode cM_fills 14 = .ok (.iconst 0, 1) := by decide +kernel
theorem dM_fills_15 : decode cM_fills 15 = .ok (.iconst 0, 1) := by decide +kernel
theorem dM_fills_16 : decode cM_fills 16 = .ok (.iconst 0, 1) := by decide +kernel
theorem dM_fills_17 : decode cM_fills 17 = .ok (.invokevirtual 67, 3) := by decide +kernel
theorem dM_fills_20 : decode cM_fills 20 = .ok (.ifCond .eq 5, 3) := by decide +kernel
theorem dM_fills_23 : decode cM_fills 23 = .ok (.iconst 0, 1) := by decide +kernel
theorem dM_fills_24 : decode cM_fills 24 = .ok (.ireturn, 1) := by decide +kernel
theorem dM_fills_25 : decode cM_fills 25 = .ok (.aload_n 0, 1) := by decide +kernel
theorem dM_fills_26 : decode cM_fills 26 = .ok (.iload_n 1, 1) := by decide +kernel
theorem dM_fills_27 : decode cM_fills 27 = .ok (.invokevirtual 85, 3) := by decide +kernel
theorem dM_fills_30 : decode cM_fills 30 = .ok (.ireturn, 1) := by decide +kernel
theorem dM_sum_0 : decode cM_sum 0 = .ok (.aload_n 0, 1) := by decide +kernel
theorem dM_sum_1 : decode cM_sum 1 = .ok (.iload_n 1, 1) := by decide +kernel
theorem dM_sum_2 : decode cM_sum 2 = .ok (.iconst 0, 1) := by decide +kernel
theorem dM_sum_3 : decode cM_sum 3 = .ok (.iconst 1, 1) := by decide +kernel
theorem dM_sum_4 : decode cM_sum 4 = .ok (.invokestatic 59, 3) := by decide +kernel
theorem dM_sum_7 : decode cM_sum 7 = .ok (.ifCond .ne 7, 3) := by decide +kernel
theorem dM_sum_10 : decode cM_sum 10 = .ok (.iconst 1, 1) := by decide +kernel
theorem dM_sum_11 : decode cM_sum 11 = .ok (.goto 4, 3) := by decide +kernel
theorem dM_sum_14 : decode cM_sum 14 = .ok (.iconst 0, 1) := by decide +kernel
theorem dM_sum_15 : decode cM_sum 15 = .ok (.iconst 0, 1) := by decide +kernel
theorem dM_sum_16 : decode cM_sum 16 = .ok (.iconst 0, 1) := by decide +kernel
theorem dM_sum_17 : decode cM_sum 17 = .ok (.iconst 0, 1) := by decide +kernel
theorem dM_sum_18 : decode cM_sum 18 = .ok (.invokevirtual 67, 3) := by decide +kernel
theorem dM_sum_21 : decode cM_sum 21 = .ok (.ifCond .eq 5, 3) := by decide +kernel
theorem dM_sum_24 : decode cM_sum 24 = .ok (.iconst 0, 1) := by decide +kernel
theorem dM_sum_25 : decode cM_sum 25 = .ok (.ireturn, 1) := by decide +kernel
theorem dM_sum_26 : decode cM_sum 26 = .ok (.iconst 0, 1) := by decide +kernel
theorem dM_sum_27 : decode cM_sum 27 = .ok (.istore_n 2, 1) := by decide +kernel
theorem dM_sum_28 : decode cM_sum 28 = .ok (.iconst 0, 1) := by decide +kernel
theorem dM_sum_29 : decode cM_sum 29 = .ok (.istore_n 3, 1) := by decide +kernel
theorem dM_sum_30 : decode cM_sum 30 = .ok (.iload_n 3, 1) := by decide +kernel
theorem dM_sum_31 : decode cM_sum 31 = .ok (.aload_n 0, 1) := by decide +kernel
theorem dM_sum_32 : decode cM_sum 32 = .ok (.getfield 75, 3) := by decide +kernel
theorem dM_sum_35 : decode cM_sum 35 = .ok (.if_icmp .ge 104, 3) := by decide +kernel
theorem dM_sum_38 : decode cM_sum 38 = .ok (.aload_n 0, 1) := by decide +kernel
theorem dM_sum_39 : decode cM_sum 39 = .ok (.getfield 32, 3) := by decide +kernel
theorem dM_sum_42 : decode cM_sum 42 = .ok (.iload_n 3, 1) := by decide +kernel
theorem dM_sum_43 : decode cM_sum 43 = .ok (.iaload, 1) := by decide +kernel
theorem dM_sum_44 : decode cM_sum 44 = .ok (.istore 4, 2) := by decide +kernel
theorem dM_sum_46 : decode cM_sum 46 = .ok (.iload 4, 2) := by decide +kernel
theorem dM_sum_48 : decode cM_sum 48 = .ok (.ifCond .lt 23, 3) := by decide +kernel
theorem dM_sum_51 : decode cM_sum 51 = .ok (.aload_n 0, 1) := by decide +kernel
theorem dM_sum_52 : decode cM_sum 52 = .ok (.getfield 17, 3) := by decide +kernel
theorem dM_sum_55 : decode cM_sum 55 = .ok (.bipush 6, 2) := by decide +kernel
theorem dM_sum_57 : decode cM_sum 57 = .ok (.iload 4, 2) := by decide +kernel
theorem dM_sum_59 : decode cM_sum 59 = .ok (.imul, 1) := by decide +kernel
theorem dM_sum_60 : decode cM_sum 60 = .ok (.aload_n 0, 1) := by decide +kernel
theorem dM_sum_61 : decode cM_sum 61 = .ok (.getfield 26, 3) := by decide +kernel
theorem dM_sum_64 : decode cM_sum 64 = .ok (.iload_n 3, 1) := by decide +kernel
theorem dM_sum_65 : decode cM_sum 65 = .ok (.iaload, 1) := by decide +kernel
theorem dM_sum_66 : decode cM_sum 66 = .ok (.iadd, 1) := by decide +kernel
theorem dM_sum_67 : decode cM_sum 67 = .ok (.iaload, 1) := by decide +kernel
theorem dM_sum_68 : decode cM_sum 68 = .ok (.goto 4, 3) := by decide +kernel
theorem dM_sum_71 : decode cM_sum 71 = .ok (.iconst 0, 1) := by decide +kernel
theorem dM_sum_72 : decode cM_sum 72 = .ok (.istore 5, 2) := by decide +kernel
theorem dM_sum_74 : decode cM_sum 74 = .ok (.aload_n 0, 1) := by decide +kernel
theorem dM_sum_75 : decode cM_sum 75 = .ok (.iload_n 3, 1) := by decide +kernel
theorem dM_sum_76 : decode cM_sum 76 = .ok (.invokevirtual 93, 3) := by decide +kernel
theorem dM_sum_79 : decode cM_sum 79 = .ok (.ifCond .eq 20, 3) := by decide +kernel
theorem dM_sum_82 : decode cM_sum 82 = .ok (.iload_n 1, 1) := by decide +kernel
theorem dM_sum_83 : decode cM_sum 83 = .ok (.ifCond .ne 16, 3) := by decide +kernel
theorem dM_sum_86 : decode cM_sum 86 = .ok (.iload 4, 2) := by decide +kernel
theorem dM_sum_88 : decode cM_sum 88 = .ok (.ifCond .ge 11, 3) := by decide +kernel
theorem dM_sum_91 : decode cM_sum 91 = .ok (.iload_n 2, 1) := by decide +kernel
theorem dM_sum_92 : decode cM_sum 92 = .ok (.aload_n 0, 1) := by decide +kernel
theorem dM_sum_93 : decode cM_sum 93 = .ok (.iload_n 3, 1) := by decide +kernel
theorem dM_sum_94 : decode cM_sum 94 = .ok (.invokevirtual 106, 3) := by decide +kernel
theorem dM_sum_97 : decode cM_sum 97 = .ok (.iadd, 1) := by decide +kernel
theorem dM_sum_98 : decode cM_sum 98 = .ok (.istore_n 2, 1) := by decide +kernel
theorem dM_sum_99 : decode cM_sum 99 = .ok (.aload_n 0, 1) := by decide +kernel
theorem dM_sum_100 : decode cM_sum 100 = .ok (.iload_n 3, 1) := by decide +kernel
theorem dM_sum_101 : decode cM_sum 101 = .ok (.invokevirtual 93, 3) := by decide +kernel
theorem dM_sum_104 : decode cM_sum 104 = .ok (.ifCond .eq 29, 3) := by decide +kernel
theorem dM_sum_107 : decode cM_sum 107 = .ok (.iload_n 1, 1) := by decide +kernel
theorem dM_sum_108 : decode cM_sum 108 = .ok (.iconst 1, 1) := by decide +kernel
theorem dM_sum_109 : decode cM_sum 109 = .ok (.if_icmp .ne 24, 3) := by decide +kernel
theorem dM_sum_112 : decode cM_sum 112 = .ok (.iload 4, 2) := by decide +kernel
theorem dM_sum_114 : decode cM_sum 114 = .ok (.ifCond .lt 19, 3) := by decide +kernel
theorem dM_sum_117 : decode cM_sum 117 = .ok (.iload 5, 2) := by decide +kernel
theorem dM_sum_119 : decode cM_sum 119 = .ok (.ifCond .le 14, 3) := by decide +kernel
theorem dM_sum_122 : decode cM_sum 122 = .ok (.iload_n 2, 1) := by decide +kernel
theorem dM_sum_123 : decode cM_sum 123 = .ok (.aload_n 0, 1) := by decide +kernel
theorem dM_sum_124 : decode cM_sum 124 = .ok (.iload_n 3, 1) := by decide +kernel
theorem dM_sum_125 : decode cM_sum 125 = .ok (.invokevirtual 106, 3) := by decide +kernel
theorem dM_sum_128 : decode cM_sum 128 = .ok (.iload 5, 2) := by decide +kernel
theorem dM_sum_130 : decode cM_sum 130 = .ok (.imul, 1) := by decide +kernel
theorem dM_sum_131 : decode cM_sum 131 = .ok (.iadd, 1) := by decide +kernel
theorem dM_sum_132 : decode cM_sum 132 = .ok (.istore_n 2, 1) := by decide +kernel
theorem dM_sum_133 : decode cM_sum 133 = .ok (.iinc 3 1, 3) := by decide +kernel
theorem dM_sum_136 : decode cM_sum 136 = .ok (.goto (-106), 3) := by decide +kernel
theorem dM_sum_139 : decode cM_sum 139 = .ok (.iload_n 2, 1) := by decide +kernel
theorem dM_sum_140 : decode cM_sum 140 = .ok (.ireturn, 1) := by decide +kernel
theorem dM_alternative_0 : decode cM_alternative 0 = .ok (.iload_n 1, 1) := by decide +kernel
theorem dM_alternative_1 : decode cM_alternative 1 = .ok (.iconst 0, 1) := by decide +kernel
theorem dM_alternative_2 : decode cM_alternative 2 = .ok (.aload_n 0, 1) := by decide +kernel
theorem dM_alternative_3 : decode cM_alternative 3 = .ok (.getfield 75, 3) := by decide +kernel
theorem dM_alternative_6 : decode cM_alternative 6 = .ok (.iconst 1, 1) := by decide +kernel
theorem dM_alternative_7 : decode cM_alternative 7 = .ok (.isub, 1) := by decide +kernel
theorem dM_alternative_8 : decode cM_alternative 8 = .ok (.invokestatic 59, 3) := by decide +kernel
theorem dM_alternative_11 : decode cM_alternative 11 = .ok (.ifCond .ne 7, 3) := by decide +kernel
theorem dM_alternative_14 : decode cM_alternative 14 = .ok (.iconst 1, 1) := by decide +kernel
theorem dM_alternative_15 : decode cM_alternative 15 = .ok (.goto 4, 3) := by decide +kernel
theorem dM_alternative_18 : decode cM_alternative 18 = .ok (.iconst 0, 1) := by decide +kernel
theorem dM_alternative_19 : decode cM_alternative 19 = .ok (.istore_n 2, 1) := by decide +kernel
theorem dM_alternative_20 : decode cM_alternative 20 = .ok (.aload_n 0, 1) := by decide +kernel
theorem dM_alternative_21 : decode cM_alternative 21 = .ok (.iload_n 2, 1) := by decide +kernel
theorem dM_alternative_22 : decode cM_alternative 22 = .ok (.iload_n 2, 1) := by decide +kernel
theorem dM_alternative_23 : decode cM_alternative 23 = .ok (.ifCond .ne 15, 3) := by decide +kernel
theorem dM_alternative_26 : decode cM_alternative 26 = .ok (.aload_n 0, 1) := by decide +kernel
theorem dM_alternative_27 : decode cM_alternative 27 = .ok (.iload_n 1, 1) := by decide +kernel
theorem dM_alternative_28 : decode cM_alternative 28 = .ok (.invokevirtual 93, 3) := by decide +kernel
theorem dM_alternative_31 : decode cM_alternative 31 = .ok (.ifCond .ne 7, 3) := by decide +kernel
theorem dM_alternative_34 : decode cM_alternative 34 = .ok (.iconst 1, 1) := by decide +kernel
theorem dM_alternative_35 : decode cM_alternative 35 = .ok (.goto 4, 3) := by decide +kernel
theorem dM_alternative_38 : decode cM_alternative 38 = .ok (.iconst 0, 1) := by decide +kernel
theorem dM_alternative_39 : decode cM_alternative 39 = .ok (.iconst 0, 1) := by decide +kernel
theorem dM_alternative_40 : decode cM_alternative 40 = .ok (.iconst 0, 1) := by decide +kernel
theorem dM_alternative_41 : decode cM_alternative 41 = .ok (.invokevirtual 67, 3) := by decide +kernel
theorem dM_alternative_44 : decode cM_alternative 44 = .ok (.ifCond .eq 5, 3) := by decide +kernel
theorem dM_alternative_47 : decode cM_alternative 47 = .ok (.iconst 0, 1) := by decide +kernel
theorem dM_alternative_48 : decode cM_alternative 48 = .ok (.ireturn, 1) := by decide +kernel
theorem dM_alternative_49 : decode cM_alternative 49 = .ok (.iconst (-1), 1) := by decide +kernel
theorem dM_alternative_50 : decode cM_alternative 50 = .ok (.istore_n 3, 1) := by decide +kernel
theorem dM_alternative_51 : decode cM_alternative 51 = .ok (.iconst 0, 1) := by decide +kernel
theorem dM_alternative_52 : decode cM_alternative 52 = .ok (.istore 4, 2) := by decide +kernel
theorem dM_alternative_54 : decode cM_alternative 54 = .ok (.iload 4, 2) := by decide +kernel
theorem dM_alternative_56 : decode cM_alternative 56 = .ok (.aload_n 0, 1) := by decide +kernel
theorem dM_alternative_57 : decode cM_alternative 57 = .ok (.getfield 56, 3) := by decide +kernel
theorem dM_alternative_60 : decode cM_alternative 60 = .ok (.if_icmp .ge 83, 3) := by decide +kernel
theorem dM_alternative_63 : decode cM_alternative 63 = .ok (.aload_n 0, 1) := by decide +kernel
theorem dM_alternative_64 : decode cM_alternative 64 = .ok (.iload 4, 2) := by decide +kernel
theorem dM_alternative_66 : decode cM_alternative 66 = .ok (.iload_n 1, 1) := by decide +kernel
theorem dM_alternative_67 : decode cM_alternative 67 = .ok (.invokevirtual 96, 3) := by decide +kernel
theorem dM_alternative_70 : decode cM_alternative 70 = .ok (.ifCond .eq 16, 3) := by decide +kernel
theorem dM_alternative_73 : decode cM_alternative 73 = .ok (.aload_n 0, 1) := by decide +kernel
theorem dM_alternative_74 : decode cM_alternative 74 = .ok (.iload 4, 2) := by decide +kernel
theorem dM_alternative_76 : decode cM_alternative 76 = .ok (.invokevirtual 85, 3) := by decide +kernel
theorem dM_alternative_79 : decode cM_alternative 79 = .ok (.ifCond .ge 7, 3) := by decide +kernel
theorem dM_alternative_82 : decode cM_alternative 82 = .ok (.iconst 1, 1) := by decide +kernel
theorem dM_alternative_83 : decode cM_alternative 83 = .ok (.goto 4, 3) := by decide +kernel
theorem dM_alternative_86 : decode cM_alternative 86 = .ok (.iconst 0, 1) := by decide +kernel
theorem dM_alternative_87 : decode cM_alternative 87 = .ok (.istore 5, 2) := by decide +kernel
theorem dM_alternative_89 : decode cM_alternative 89 = .ok (.iload 5, 2) := by decide +kernel
theorem dM_alternative_91 : decode cM_alternative 91 = .ok (.ifCond .eq 46, 3) := by decide +kernel
theorem dM_alternative_94 : decode cM_alternative 94 = .ok (.iload_n 3, 1) := by decide +kernel
theorem dM_alternative_95 : decode cM_alternative 95 = .ok (.ifCond .lt 39, 3) := by decide +kernel
theorem dM_alternative_98 : decode cM_alternative 98 = .ok (.aload_n 0, 1) := by decide +kernel
theorem dM_alternative_99 : decode cM_alternative 99 = .ok (.getfield 17, 3) := by decide +kernel
theorem dM_alternative_102 : decode cM_alternative 102 = .ok (.bipush 6, 2) := by decide +kernel
theorem dM_alternative_104 : decode cM_alternative 104 = .ok (.iload 4, 2) := by decide +kernel
theorem dM_alternative_106 : decode cM_alternative 106 = .ok (.imul, 1) := by decide +kernel
theorem dM_alternative_107 : decode cM_alternative 107 = .ok (.aload_n 0, 1) := by decide +kernel
theorem dM_alternative_108 : decode cM_alternative 108 = .ok (.getfield 26, 3) := by decide +kernel
theorem dM_alternative_111 : decode cM_alternative 111 = .ok (.iload_n 1, 1) := by decide +kernel
theorem dM_alternative_112 : decode cM_alternative 112 = .ok (.iaload, 1) := by decide +kernel
theorem dM_alternative_113 : decode cM_alternative 113 = .ok (.iadd, 1) := by decide +kernel
theorem dM_alternative_114 : decode cM_alternative 114 = .ok (.iaload, 1) := by decide +kernel
theorem dM_alternative_115 : decode cM_alternative 115 = .ok (.aload_n 0, 1) := by decide +kernel
theorem dM_alternative_116 : decode cM_alternative 116 = .ok (.getfield 17, 3) := by decide +kernel
theorem dM_alternative_119 : decode cM_alternative 119 = .ok (.bipush 6, 2) := by decide +kernel
theorem dM_alternative_121 : decode cM_alternative 121 = .ok (.iload_n 3, 1) := by decide +kernel
theorem dM_alternative_122 : decode cM_alternative 122 = .ok (.imul, 1) := by decide +kernel
theorem dM_alternative_123 : decode cM_alternative 123 = .ok (.aload_n 0, 1) := by decide +kernel
theorem dM_alternative_124 : decode cM_alternative 124 = .ok (.getfield 26, 3) := by decide +kernel
theorem dM_alternative_127 : decode cM_alternative 127 = .ok (.iload_n 1, 1) := by decide +kernel
theorem dM_alternative_128 : decode cM_alternative 128 = .ok (.iaload, 1) := by decide +kernel
theorem dM_alternative_129 : decode cM_alternative 129 = .ok (.iadd, 1) := by decide +kernel
theorem dM_alternative_130 : decode cM_alternative 130 = .ok (.iaload, 1) := by decide +kernel
theorem dM_alternative_131 : decode cM_alternative 131 = .ok (.if_icmp .ge 6, 3) := by decide +kernel
theorem dM_alternative_134 : decode cM_alternative 134 = .ok (.iload 4, 2) := by decide +kernel
theorem dM_alternative_136 : decode cM_alternative 136 = .ok (.istore_n 3, 1) := by decide +kernel
theorem dM_alternative_137 : decode cM_alternative 137 = .ok (.iinc 4 1, 3) := by decide +kernel
theorem dM_alternative_140 : decode cM_alternative 140 = .ok (.goto (-86), 3) := by decide +kernel
theorem dM_alternative_143 : decode cM_alternative 143 = .ok (.iload_n 3, 1) := by decide +kernel
theorem dM_alternative_144 : decode cM_alternative 144 = .ok (.ireturn, 1) := by decide +kernel
theorem dM_never_0 : decode cM_never 0 = .ok (.aload_n 0, 1) := by decide +kernel
theorem dM_never_1 : decode cM_never 1 = .ok (.iload_n 1, 1) := by decide +kernel
theorem dM_never_2 : decode cM_never 2 = .ok (.ifCond .ge 7, 3) := by decide +kernel
theorem dM_never_5 : decode cM_never 5 = .ok (.iconst 1, 1) := by decide +kernel
theorem dM_never_6 : decode cM_never 6 = .ok (.goto 4, 3) := by decide +kernel
theorem dM_never_9 : decode cM_never 9 = .ok (.iconst 0, 1) := by decide +kernel
theorem dM_never_10 : decode cM_never 10 = .ok (.iconst 0, 1) := by decide +kernel
theorem dM_never_11 : decode cM_never 11 = .ok (.iconst 0, 1) := by decide +kernel
theorem dM_never_12 : decode cM_never 12 = .ok (.iconst 0, 1) := by decide +kernel
theorem dM_never_13 : decode cM_never 13 = .ok (.invokevirtual 67, 3) := by decide +kernel
theorem dM_never_16 : decode cM_never 16 = .ok (.ifCond .eq 5, 3) := by decide +kernel
theorem dM_never_19 : decode cM_never 19 = .ok (.iconst 0, 1) := by decide +kernel
theorem dM_never_20 : decode cM_never 20 = .ok (.ireturn, 1) := by decide +kernel
theorem dM_never_21 : decode cM_never 21 = .ok (.iload_n 1, 1) := by decide +kernel
theorem dM_never_22 : decode cM_never 22 = .ok (.istore_n 2, 1) := by decide +kernel
theorem dM_never_23 : decode cM_never 23 = .ok (.iconst 0, 1) := by decide +kernel
theorem dM_never_24 : decode cM_never 24 = .ok (.istore_n 3, 1) := by decide +kernel
theorem dM_never_25 : decode cM_never 25 = .ok (.iload_n 3, 1) := by decide +kernel
theorem dM_never_26 : decode cM_never 26 = .ok (.aload_n 0, 1) := by decide +kernel
theorem dM_never_27 : decode cM_never 27 = .ok (.getfield 75, 3) := by decide +kernel
theorem dM_never_30 : decode cM_never 30 = .ok (.if_icmp .ge 88, 3) := by decide +kernel
theorem dM_never_33 : decode cM_never 33 = .ok (.aload_n 0, 1) := by decide +kernel
theorem dM_never_34 : decode cM_never 34 = .ok (.iload_n 3, 1) := by decide +kernel
theorem dM_never_35 : decode cM_never 35 = .ok (.invokevirtual 93, 3) := by decide +kernel
theorem dM_never_38 : decode cM_never 38 = .ok (.ifCond .ne 7, 3) := by decide +kernel
theorem dM_never_41 : decode cM_never 41 = .ok (.iconst 1, 1) := by decide +kernel
theorem dM_never_42 : decode cM_never 42 = .ok (.goto 4, 3) := by decide +kernel
theorem dM_never_45 : decode cM_never 45 = .ok (.iconst 0, 1) := by decide +kernel
theorem dM_never_46 : decode cM_never 46 = .ok (.istore 4, 2) := by decide +kernel
theorem dM_never_48 : decode cM_never 48 = .ok (.iconst 0, 1) := by decide +kernel
theorem dM_never_49 : decode cM_never 49 = .ok (.istore 5, 2) := by decide +kernel
theorem dM_never_51 : decode cM_never 51 = .ok (.iload 5, 2) := by decide +kernel
theorem dM_never_53 : decode cM_never 53 = .ok (.aload_n 0, 1) := by decide +kernel
theorem dM_never_54 : decode cM_never 54 = .ok (.getfield 56, 3) := by decide +kernel
theorem dM_never_57 : decode cM_never 57 = .ok (.if_icmp .ge 31, 3) := by decide +kernel
theorem dM_never_60 : decode cM_never 60 = .ok (.iload 4, 2) := by decide +kernel
theorem dM_never_62 : decode cM_never 62 = .ok (.ifCond .ne 13, 3) := by decide +kernel
theorem dM_never_65 : decode cM_never 65 = .ok (.aload_n 0, 1) := by decide +kernel
theorem dM_never_66 : decode cM_never 66 = .ok (.iload 5, 2) := by decide +kernel
theorem dM_never_68 : decode cM_never 68 = .ok (.iload_n 3, 1) := by decide +kernel
theorem dM_never_69 : decode cM_never 69 = .ok (.invokevirtual 96, 3) := by decide +kernel
theorem dM_never_72 : decode cM_never 72 = .ok (.ifCond .eq 7, 3) := by decide +kernel
theorem dM_never_75 : decode cM_never 75 = .ok (.iconst 1, 1) := by decide +kernel
theorem dM_never_76 : decode cM_never 76 = .ok (.goto 4, 3) := by decide +kernel
theorem dM_never_79 : decode cM_never 79 = .ok (.iconst 0, 1) := by decide +kernel
theorem dM_never_80 : decode cM_never 80 = .ok (.istore 4, 2) := by decide +kernel
theorem dM_never_82 : decode cM_never 82 = .ok (.iinc 5 1, 3) := by decide +kernel
theorem dM_never_85 : decode cM_never 85 = .ok (.goto (-34), 3) := by decide +kernel
theorem dM_never_88 : decode cM_never 88 = .ok (.iload 4, 2) := by decide +kernel
theorem dM_never_90 : decode cM_never 90 = .ok (.ifCond .ne 9, 3) := by decide +kernel
theorem dM_never_93 : decode cM_never 93 = .ok (.iload_n 2, 1) := by decide +kernel
theorem dM_never_94 : decode cM_never 94 = .ok (.ifCond .ne 5, 3) := by decide +kernel
theorem dM_never_97 : decode cM_never 97 = .ok (.iload_n 3, 1) := by decide +kernel
theorem dM_never_98 : decode cM_never 98 = .ok (.ireturn, 1) := by decide +kernel
theorem dM_never_99 : decode cM_never 99 = .ok (.iload_n 2, 1) := by decide +kernel
theorem dM_never_100 : decode cM_never 100 = .ok (.iload 4, 2) := by decide +kernel
theorem dM_never_102 : decode cM_never 102 = .ok (.ifCond .eq 7, 3) := by decide +kernel
theorem dM_never_105 : decode cM_never 105 = .ok (.iconst 0, 1) := by decide +kernel
theorem dM_never_106 : decode cM_never 106 = .ok (.goto 4, 3) := by decide +kernel
theorem dM_never_109 : decode cM_never 109 = .ok (.iconst 1, 1) := by decide +kernel
theorem dM_never_110 : decode cM_never 110 = .ok (.isub, 1) := by decide +kernel
theorem dM_never_111 : decode cM_never 111 = .ok (.istore_n 2, 1) := by decide +kernel
theorem dM_never_112 : decode cM_never 112 = .ok (.iinc 3 1, 3) := by decide +kernel
theorem dM_never_115 : decode cM_never 115 = .ok (.goto (-90), 3) := by decide +kernel
theorem dM_never_118 : decode cM_never 118 = .ok (.iconst (-1), 1) := by decide +kernel
theorem dM_never_119 : decode cM_never 119 = .ok (.ireturn, 1) := by decide +kernel
