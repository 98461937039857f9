theorem dS_init_0 : decode cS_init 0 = .ok (.aload_n 0, 1) := by decide +kernel
theorem dS_init_1 : decode cS_init 1 = .ok (.invokespecial 1, 3) := by decide +kernel
theorem dS_init_4 : decode cS_init 4 = .ok (.aload_n 0, 1) := by decide +kernel
theorem dS_init_5 : decode cS_init 5 = .ok (.bipush 12, 2) := by decide +kernel
theorem dS_init_7 : decode cS_init 7 = .ok (.newarray .int, 2) := by decide +kernel
theorem dS_init_9 : decode cS_init 9 = .ok (.putfield 9, 3) := by decide +kernel
theorem dS_init_12 : decode cS_init 12 = .ok (.aload_n 0, 1) := by decide +kernel
theorem dS_init_13 : decode cS_init 13 = .ok (.bipush 12, 2) := by decide +kernel
theorem dS_init_15 : decode cS_init 15 = .ok (.newarray .boolean, 2) := by decide +kernel
theorem dS_init_17 : decode cS_init 17 = .ok (.putfield 13, 3) := by decide +kernel
theorem dS_init_20 : decode cS_init 20 = .ok (.aload_n 0, 1) := by decide +kernel
theorem dS_init_21 : decode cS_init 21 = .ok (.bipush 12, 2) := by decide +kernel
theorem dS_init_23 : decode cS_init 23 = .ok (.newarray .boolean, 2) := by decide +kernel
theorem dS_init_25 : decode cS_init 25 = .ok (.putfield 17, 3) := by decide +kernel
theorem dS_init_28 : decode cS_init 28 = .ok (.aload_n 0, 1) := by decide +kernel
theorem dS_init_29 : decode cS_init 29 = .ok (.bipush 12, 2) := by decide +kernel
theorem dS_init_31 : decode cS_init 31 = .ok (.newarray .int, 2) := by decide +kernel
theorem dS_init_33 : decode cS_init 33 = .ok (.putfield 20, 3) := by decide +kernel
theorem dS_init_36 : decode cS_init 36 = .ok (.aload_n 0, 1) := by decide +kernel
theorem dS_init_37 : decode cS_init 37 = .ok (.bipush 12, 2) := by decide +kernel
theorem dS_init_39 : decode cS_init 39 = .ok (.bipush 6, 2) := by decide +kernel
theorem dS_init_41 : decode cS_init 41 = .ok (.multianewarray 23 2, 4) := by decide +kernel
theorem dS_init_45 : decode cS_init 45 = .ok (.putfield 25, 3) := by decide +kernel
theorem dS_init_48 : decode cS_init 48 = .ok (.aload_n 0, 1) := by decide +kernel
theorem dS_init_49 : decode cS_init 49 = .ok (.bipush 6, 2) := by decide +kernel
theorem dS_init_51 : decode cS_init 51 = .ok (.newarray .int, 2) := by decide +kernel
theorem dS_init_53 : decode cS_init 53 = .ok (.putfield 28, 3) := by decide +kernel
theorem dS_init_56 : decode cS_init 56 = .ok (.aload_n 0, 1) := by decide +kernel
theorem dS_init_57 : decode cS_init 57 = .ok (.bipush 6, 2) := by decide +kernel
theorem dS_init_59 : decode cS_init 59 = .ok (.newarray .boolean, 2) := by decide +kernel
theorem dS_init_61 : decode cS_init 61 = .ok (.putfield 31, 3) := by decide +kernel
theorem dS_init_64 : decode cS_init 64 = .ok (.aload_n 0, 1) := by decide +kernel
theorem dS_init_65 : decode cS_init 65 = .ok (.bipush 10, 2) := by decide +kernel
theorem dS_init_67 : decode cS_init 67 = .ok (.newarray .int, 2) := by decide +kernel
theorem dS_init_69 : decode cS_init 69 = .ok (.putfield 34, 3) := by decide +kernel
theorem dS_init_72 : decode cS_init 72 = .ok (.aload_n 0, 1) := by decide +kernel
theorem dS_init_73 : decode cS_init 73 = .ok (.bipush 10, 2) := by decide +kernel
theorem dS_init_75 : decode cS_init 75 = .ok (.newarray .int, 2) := by decide +kernel
theorem dS_init_77 : decode cS_init 77 = .ok (.putfield 37, 3) := by decide +kernel
theorem dS_init_80 : decode cS_init 80 = .ok (.aload_n 0, 1) := by decide +kernel
theorem dS_init_81 : decode cS_init 81 = .ok (.bipush 10, 2) := by decide +kernel
theorem dS_init_83 : decode cS_init 83 = .ok (.newarray .int, 2) := by decide +kernel
theorem dS_init_85 : decode cS_init 85 = .ok (.putfield 40, 3) := by decide +kernel
theorem dS_init_88 : decode cS_init 88 = .ok (.aload_n 0, 1) := by decide +kernel
theorem dS_init_89 : decode cS_init 89 = .ok (.bipush 16, 2) := by decide +kernel
theorem dS_init_91 : decode cS_init 91 = .ok (.newarray .int, 2) := by decide +kernel
theorem dS_init_93 : decode cS_init 93 = .ok (.putfield 43, 3) := by decide +kernel
theorem dS_init_96 : decode cS_init 96 = .ok (.aload_n 0, 1) := by decide +kernel
theorem dS_init_97 : decode cS_init 97 = .ok (.iconst 0, 1) := by decide +kernel
theorem dS_init_98 : decode cS_init 98 = .ok (.putfield 46, 3) := by decide +kernel
theorem dS_init_101 : decode cS_init 101 = .ok (.aload_n 0, 1) := by decide +kernel
theorem dS_init_102 : decode cS_init 102 = .ok (.bipush 10, 2) := by decide +kernel
theorem dS_init_104 : decode cS_init 104 = .ok (.putfield 50, 3) := by decide +kernel
theorem dS_init_107 : decode cS_init 107 = .ok (.aload_n 0, 1) := by decide +kernel
theorem dS_init_108 : decode cS_init 108 = .ok (.new 53, 3) := by decide +kernel
theorem dS_init_111 : decode cS_init 111 = .ok (.dup, 1) := by decide +kernel
theorem dS_init_112 : decode cS_init 112 = .ok (.invokespecial 55, 3) := by decide +kernel
theorem dS_init_115 : decode cS_init 115 = .ok (.putfield 56, 3) := by decide +kernel
theorem dS_init_118 : decode cS_init 118 = .ok (.aload_n 0, 1) := by decide +kernel
theorem dS_init_119 : decode cS_init 119 = .ok (.getfield 20, 3) := by decide +kernel
theorem dS_init_122 : decode cS_init 122 = .ok (.iconst (-1), 1) := by decide +kernel
theorem dS_init_123 : decode cS_init 123 = .ok (.invokestatic 60, 3) := by decide +kernel
theorem dS_init_126 : decode cS_init 126 = .ok (.aload_n 0, 1) := by decide +kernel
theorem dS_init_127 : decode cS_init 127 = .ok (.getfield 40, 3) := by decide +kernel
theorem dS_init_130 : decode cS_init 130 = .ok (.iconst (-1), 1) := by decide +kernel
theorem dS_init_131 : decode cS_init 131 = .ok (.invokestatic 60, 3) := by decide +kernel
theorem dS_init_134 : decode cS_init 134 = .ok (.aload_n 0, 1) := by decide +kernel
theorem dS_init_135 : decode cS_init 135 = .ok (.getfield 43, 3) := by decide +kernel
theorem dS_init_138 : decode cS_init 138 = .ok (.iconst (-1), 1) := by decide +kernel
theorem dS_init_139 : decode cS_init 139 = .ok (.invokestatic 60, 3) := by decide +kernel
theorem dS_init_142 : decode cS_init 142 = .ok (.iconst 0, 1) := by decide +kernel
theorem dS_init_143 : decode cS_init 143 = .ok (.istore_n 1, 1) := by decide +kernel
theorem dS_init_144 : decode cS_init 144 = .ok (.iload_n 1, 1) := by decide +kernel
theorem dS_init_145 : decode cS_init 145 = .ok (.bipush 12, 2) := by decide +kernel
theorem dS_init_147 : decode cS_init 147 = .ok (.if_icmp .ge 19, 3) := by decide +kernel
theorem dS_init_150 : decode cS_init 150 = .ok (.aload_n 0, 1) := by decide +kernel
theorem dS_init_151 : decode cS_init 151 = .ok (.getfield 25, 3) := by decide +kernel
theorem dS_init_154 : decode cS_init 154 = .ok (.iload_n 1, 1) := by decide +kernel
theorem dS_init_155 : decode cS_init 155 = .ok (.aaload, 1) := by decide +kernel
theorem dS_init_156 : decode cS_init 156 = .ok (.iconst (-1), 1) := by decide +kernel
theorem dS_init_157 : decode cS_init 157 = .ok (.invokestatic 60, 3) := by decide +kernel
theorem dS_init_160 : decode cS_init 160 = .ok (.iinc 1 1, 3) := by decide +kernel
theorem dS_init_163 : decode cS_init 163 = .ok (.goto (-19), 3) := by decide +kernel
theorem dS_init_166 : decode cS_init 166 = .ok (.return_, 1) := by decide +kernel
theorem dS_unit_0 : decode cS_unit 0 = .ok (.iload_n 1, 1) := by decide +kernel
theorem dS_unit_1 : decode cS_unit 1 = .ok (.ifCond .lt 9, 3) := by decide +kernel
theorem dS_unit_4 : decode cS_unit 4 = .ok (.iload_n 1, 1) := by decide +kernel
theorem dS_unit_5 : decode cS_unit 5 = .ok (.ldc 66, 2) := by decide +kernel
theorem dS_unit_7 : decode cS_unit 7 = .ok (.if_icmp .lt 13, 3) := by decide +kernel
theorem dS_unit_10 : decode cS_unit 10 = .ok (.new 67, 3) := by decide +kernel
theorem dS_unit_13 : decode cS_unit 13 = .ok (.dup, 1) := by decide +kernel
theorem dS_unit_14 : decode cS_unit 14 = .ok (.ldc 69, 2) := by decide +kernel
theorem dS_unit_16 : decode cS_unit 16 = .ok (.invokespecial 71, 3) := by decide +kernel
theorem dS_unit_19 : decode cS_unit 19 = .ok (.athrow, 1) := by decide +kernel
theorem dS_unit_20 : decode cS_unit 20 = .ok (.aload_n 0, 1) := by decide +kernel
theorem dS_unit_21 : decode cS_unit 21 = .ok (.getfield 74, 3) := by decide +kernel
theorem dS_unit_24 : decode cS_unit 24 = .ok (.bipush 12, 2) := by decide +kernel
theorem dS_unit_26 : decode cS_unit 26 = .ok (.if_icmp .lt 13, 3) := by decide +kernel
theorem dS_unit_29 : decode cS_unit 29 = .ok (.new 77, 3) := by decide +kernel
theorem dS_unit_32 : decode cS_unit 32 = .ok (.dup, 1) := by decide +kernel
theorem dS_unit_33 : decode cS_unit 33 = .ok (.ldc 79, 2) := by decide +kernel
theorem dS_unit_35 : decode cS_unit 35 = .ok (.invokespecial 81, 3) := by decide +kernel
theorem dS_unit_38 : decode cS_unit 38 = .ok (.athrow, 1) := by decide +kernel
theorem dS_unit_39 : decode cS_unit 39 = .ok (.aload_n 0, 1) := by decide +kernel
theorem dS_unit_40 : decode cS_unit 40 = .ok (.getfield 9, 3) := by decide +kernel
theorem dS_unit_43 : decode cS_unit 43 = .ok (.aload_n 0, 1) := by decide +kernel
theorem dS_unit_44 : decode cS_unit 44 = .ok (.getfield 74, 3) := by decide +kernel
theorem dS_unit_47 : decode cS_unit 47 = .ok (.iload_n 1, 1) := by decide +kernel
theorem dS_unit_48 : decode cS_unit 48 = .ok (.iastore, 1) := by decide +kernel
theorem dS_unit_49 : decode cS_unit 49 = .ok (.aload_n 0, 1) := by decide +kernel
theorem dS_unit_50 : decode cS_unit 50 = .ok (.dup, 1) := by decide +kernel
theorem dS_unit_51 : decode cS_unit 51 = .ok (.getfield 74, 3) := by decide +kernel
theorem dS_unit_54 : decode cS_unit 54 = .ok (.iconst 1, 1) := by decide +kernel
theorem dS_unit_55 : decode cS_unit 55 = .ok (.iadd, 1) := by decide +kernel
theorem dS_unit_56 : decode cS_unit 56 = .ok (.putfield 74, 3) := by decide +kernel
theorem dS_unit_59 : decode cS_unit 59 = .ok (.aload_n 0, 1) := by decide +kernel
theorem dS_unit_60 : decode cS_unit 60 = .ok (.getfield 74, 3) := by decide +kernel
theorem dS_unit_63 : decode cS_unit 63 = .ok (.iconst 1, 1) := by decide +kernel
theorem dS_unit_64 : decode cS_unit 64 = .ok (.isub, 1) := by decide +kernel
theorem dS_unit_65 : decode cS_unit 65 = .ok (.ireturn, 1) := by decide +kernel
theorem dS_incident_0 : decode cS_incident 0 = .ok (.iload_n 1, 1) := by decide +kernel
theorem dS_incident_1 : decode cS_incident 1 = .ok (.invokestatic 82, 3) := by decide +kernel
theorem dS_incident_4 : decode cS_incident 4 = .ok (.aload_n 0, 1) := by decide +kernel
theorem dS_incident_5 : decode cS_incident 5 = .ok (.getfield 86, 3) := by decide +kernel
theorem dS_incident_8 : decode cS_incident 8 = .ok (.bipush 6, 2) := by decide +kernel
theorem dS_incident_10 : decode cS_incident 10 = .ok (.if_icmp .lt 13, 3) := by decide +kernel
theorem dS_incident_13 : decode cS_incident 13 = .ok (.new 77, 3) := by decide +kernel
theorem dS_incident_16 : decode cS_incident 16 = .ok (.dup, 1) := by decide +kernel
theorem dS_incident_17 : decode cS_incident 17 = .ok (.ldc 89, 2) := by decide +kernel
theorem dS_incident_19 : decode cS_incident 19 = .ok (.invokespecial 81, 3) := by decide +kernel
theorem dS_incident_22 : decode cS_incident 22 = .ok (.athrow, 1) := by decide +kernel
theorem dS_incident_23 : decode cS_incident 23 = .ok (.aload_n 0, 1) := by decide +kernel
theorem dS_incident_24 : decode cS_incident 24 = .ok (.getfield 28, 3) := by decide +kernel
theorem dS_incident_27 : decode cS_incident 27 = .ok (.aload_n 0, 1) := by decide +kernel
theorem dS_incident_28 : decode cS_incident 28 = .ok (.getfield 86, 3) := by decide +kernel
theorem dS_incident_31 : decode cS_incident 31 = .ok (.iload_n 1, 1) := by decide +kernel
theorem dS_incident_32 : decode cS_incident 32 = .ok (.iastore, 1) := by decide +kernel
theorem dS_incident_33 : decode cS_incident 33 = .ok (.aload_n 0, 1) := by decide +kernel
theorem dS_incident_34 : decode cS_incident 34 = .ok (.getfield 31, 3) := by decide +kernel
theorem dS_incident_37 : decode cS_incident 37 = .ok (.aload_n 0, 1) := by decide +kernel
theorem dS_incident_38 : decode cS_incident 38 = .ok (.getfield 86, 3) := by decide +kernel
theorem dS_incident_41 : decode cS_incident 41 = .ok (.iconst 1, 1) := by decide +kernel
theorem dS_incident_42 : decode cS_incident 42 = .ok (.bastore, 1) := by decide +kernel
theorem dS_incident_43 : decode cS_incident 43 = .ok (.aload_n 0, 1) := by decide +kernel
theorem dS_incident_44 : decode cS_incident 44 = .ok (.dup, 1) := by decide +kernel
theorem dS_incident_45 : decode cS_incident 45 = .ok (.getfield 86, 3) := by decide +kernel
theorem dS_incident_48 : decode cS_incident 48 = .ok (.iconst 1, 1) := by decide +kernel
theorem dS_incident_49 : decode cS_incident 49 = .ok (.iadd, 1) := by decide +kernel
theorem dS_incident_50 : decode cS_incident 50 = .ok (.putfield 86, 3) := by decide +kernel
theorem dS_incident_53 : decode cS_incident 53 = .ok (.aload_n 0, 1) := by decide +kernel
theorem dS_incident_54 : decode cS_incident 54 = .ok (.getfield 86, 3) := by decide +kernel
theorem dS_incident_57 : decode cS_incident 57 = .ok (.iconst 1, 1) := by decide +kernel
theorem dS_incident_58 : decode cS_incident 58 = .ok (.isub, 1) := by decide +kernel
theorem dS_incident_59 : decode cS_incident 59 = .ok (.ireturn, 1) := by decide +kernel
theorem dS_rank_0 : decode cS_rank 0 = .ok (.aload_n 0, 1) := by decide +kernel
theorem dS_rank_1 : decode cS_rank 1 = .ok (.iload_n 1, 1) := by decide +kernel
theorem dS_rank_2 : decode cS_rank 2 = .ok (.invokevirtual 91, 3) := by decide +kernel
theorem dS_rank_5 : decode cS_rank 5 = .ok (.iload_n 2, 1) := by decide +kernel
theorem dS_rank_6 : decode cS_rank 6 = .ok (.invokestatic 82, 3) := by decide +kernel
theorem dS_rank_9 : decode cS_rank 9 = .ok (.aload_n 0, 1) := by decide +kernel
theorem dS_rank_10 : decode cS_rank 10 = .ok (.iload_n 1, 1) := by decide +kernel
theorem dS_rank_11 : decode cS_rank 11 = .ok (.invokevirtual 94, 3) := by decide +kernel
theorem dS_rank_14 : decode cS_rank 14 = .ok (.aload_n 0, 1) := by decide +kernel
theorem dS_rank_15 : decode cS_rank 15 = .ok (.getfield 28, 3) := by decide +kernel
theorem dS_rank_18 : decode cS_rank 18 = .ok (.iload_n 1, 1) := by decide +kernel
theorem dS_rank_19 : decode cS_rank 19 = .ok (.iload_n 2, 1) := by decide +kernel
theorem dS_rank_20 : decode cS_rank 20 = .ok (.iastore, 1) := by decide +kernel
theorem dS_rank_21 : decode cS_rank 21 = .ok (.return_, 1) := by decide +kernel
theorem dS_need_0 : decode cS_need 0 = .ok (.aload_n 0, 1) := by decide +kernel
theorem dS_need_1 : decode cS_need 1 = .ok (.iload_n 1, 1) := by decide +kernel
theorem dS_need_2 : decode cS_need 2 = .ok (.invokevirtual 91, 3) := by decide +kernel
theorem dS_need_5 : decode cS_need 5 = .ok (.iload_n 2, 1) := by decide +kernel
theorem dS_need_6 : decode cS_need 6 = .ok (.invokestatic 97, 3) := by decide +kernel
theorem dS_need_9 : decode cS_need 9 = .ok (.iload_n 3, 1) := by decide +kernel
theorem dS_need_10 : decode cS_need 10 = .ok (.ifCond .lt 9, 3) := by decide +kernel
theorem dS_need_13 : decode cS_need 13 = .ok (.iload_n 3, 1) := by decide +kernel
theorem dS_need_14 : decode cS_need 14 = .ok (.bipush 10, 2) := by decide +kernel
theorem dS_need_16 : decode cS_need 16 = .ok (.if_icmp .le 13, 3) := by decide +kernel
theorem dS_need_19 : decode cS_need 19 = .ok (.new 67, 3) := by decide +kernel
theorem dS_need_22 : decode cS_need 22 = .ok (.dup, 1) := by decide +kernel
theorem dS_need_23 : decode cS_need 23 = .ok (.ldc 100, 2) := by decide +kernel
theorem dS_need_25 : decode cS_need 25 = .ok (.invokespecial 71, 3) := by decide +kernel
theorem dS_need_28 : decode cS_need 28 = .ok (.athrow, 1) := by decide +kernel
theorem dS_need_29 : decode cS_need 29 = .ok (.aload_n 0, 1) := by decide +kernel
theorem dS_need_30 : decode cS_need 30 = .ok (.iload_n 1, 1) := by decide +kernel
theorem dS_need_31 : decode cS_need 31 = .ok (.invokevirtual 94, 3) := by decide +kernel
theorem dS_need_34 : decode cS_need 34 = .ok (.aload_n 0, 1) := by decide +kernel
theorem dS_need_35 : decode cS_need 35 = .ok (.getfield 102, 3) := by decide +kernel
theorem dS_need_38 : decode cS_need 38 = .ok (.iload_n 3, 1) := by decide +kernel
theorem dS_need_39 : decode cS_need 39 = .ok (.iadd, 1) := by decide +kernel
theorem dS_need_40 : decode cS_need 40 = .ok (.bipush 10, 2) := by decide +kernel
theorem dS_need_42 : decode cS_need 42 = .ok (.if_icmp .le 13, 3) := by decide +kernel
theorem dS_need_45 : decode cS_need 45 = .ok (.new 77, 3) := by decide +kernel
theorem dS_need_48 : decode cS_need 48 = .ok (.dup, 1) := by decide +kernel
theorem dS_need_49 : decode cS_need 49 = .ok (.ldc 105, 2) := by decide +kernel
theorem dS_need_51 : decode cS_need 51 = .ok (.invokespecial 81, 3) := by decide +kernel
theorem dS_need_54 : decode cS_need 54 = .ok (.athrow, 1) := by decide +kernel
theorem dS_need_55 : decode cS_need 55 = .ok (.iconst 0, 1) := by decide +kernel
theorem dS_need_56 : decode cS_need 56 = .ok (.istore 4, 2) := by decide +kernel
theorem dS_need_58 : decode cS_need 58 = .ok (.iload 4, 2) := by decide +kernel
theorem dS_need_60 : decode cS_need 60 = .ok (.iload_n 3, 1) := by decide +kernel
theorem dS_need_61 : decode cS_need 61 = .ok (.if_icmp .ge 39, 3) := by decide +kernel
theorem dS_need_64 : decode cS_need 64 = .ok (.aload_n 0, 1) := by decide +kernel
theorem dS_need_65 : decode cS_need 65 = .ok (.getfield 34, 3) := by decide +kernel
theorem dS_need_68 : decode cS_need 68 = .ok (.aload_n 0, 1) := by decide +kernel
theorem dS_need_69 : decode cS_need 69 = .ok (.getfield 102, 3) := by decide +kernel
theorem dS_need_72 : decode cS_need 72 = .ok (.iload_n 1, 1) := by decide +kernel
theorem dS_need_73 : decode cS_need 73 = .ok (.iastore, 1) := by decide +kernel
theorem dS_need_74 : decode cS_need 74 = .ok (.aload_n 0, 1) := by decide +kernel
theorem dS_need_75 : decode cS_need 75 = .ok (.getfield 37, 3) := by decide +kernel
theorem dS_need_78 : decode cS_need 78 = .ok (.aload_n 0, 1) := by decide +kernel
theorem dS_need_79 : decode cS_need 79 = .ok (.getfield 102, 3) := by decide +kernel
theorem dS_need_82 : decode cS_need 82 = .ok (.iload_n 2, 1) := by decide +kernel
theorem dS_need_83 : decode cS_need 83 = .ok (.iastore, 1) := by decide +kernel
theorem dS_need_84 : decode cS_need 84 = .ok (.aload_n 0, 1) := by decide +kernel
theorem dS_need_85 : decode cS_need 85 = .ok (.dup, 1) := by decide +kernel
theorem dS_need_86 : decode cS_need 86 = .ok (.getfield 102, 3) := by decide +kernel
theorem dS_need_89 : decode cS_need 89 = .ok (.iconst 1, 1) := by decide +kernel
theorem dS_need_90 : decode cS_need 90 = .ok (.iadd, 1) := by decide +kernel
theorem dS_need_91 : decode cS_need 91 = .ok (.putfield 102, 3) := by decide +kernel
theorem dS_need_94 : decode cS_need 94 = .ok (.iinc 4 1, 3) := by decide +kernel
theorem dS_need_97 : decode cS_need 97 = .ok (.goto (-39), 3) := by decide +kernel
theorem dS_need_100 : decode cS_need 100 = .ok (.aload_n 0, 1) := by decide +kernel
theorem dS_need_101 : decode cS_need 101 = .ok (.getfield 102, 3) := by decide +kernel
theorem dS_need_104 : decode cS_need 104 = .ok (.ireturn, 1) := by decide +kernel
theorem dS_seconds_0 : decode cS_seconds 0 = .ok (.aload_n 0, 1) := by decide +kernel
theorem dS_seconds_1 : decode cS_seconds 1 = .ok (.iload_n 1, 1) := by decide +kernel
theorem dS_seconds_2 : decode cS_seconds 2 = .ok (.invokevirtual 107, 3) := by decide +kernel
theorem dS_seconds_5 : decode cS_seconds 5 = .ok (.aload_n 0, 1) := by decide +kernel
theorem dS_seconds_6 : decode cS_seconds 6 = .ok (.iload_n 2, 1) := by decide +kernel
theorem dS_seconds_7 : decode cS_seconds 7 = .ok (.invokevirtual 91, 3) := by decide +kernel
theorem dS_seconds_10 : decode cS_seconds 10 = .ok (.iload_n 3, 1) := by decide +kernel
theorem dS_seconds_11 : decode cS_seconds 11 = .ok (.invokestatic 110, 3) := by decide +kernel
theorem dS_seconds_14 : decode cS_seconds 14 = .ok (.aload_n 0, 1) := by decide +kernel
theorem dS_seconds_15 : decode cS_seconds 15 = .ok (.getfield 25, 3) := by decide +kernel
theorem dS_seconds_18 : decode cS_seconds 18 = .ok (.iload_n 1, 1) := by decide +kernel
theorem dS_seconds_19 : decode cS_seconds 19 = .ok (.aaload, 1) := by decide +kernel
theorem dS_seconds_20 : decode cS_seconds 20 = .ok (.iload_n 2, 1) := by decide +kernel
theorem dS_seconds_21 : decode cS_seconds 21 = .ok (.iload_n 3, 1) := by decide +kernel
theorem dS_seconds_22 : decode cS_seconds 22 = .ok (.iastore, 1) := by decide +kernel
theorem dS_seconds_23 : decode cS_seconds 23 = .ok (.return_, 1) := by decide +kernel
theorem dS_limit_0 : decode cS_limit 0 = .ok (.iload_n 1, 1) := by decide +kernel
theorem dS_limit_1 : decode cS_limit 1 = .ok (.invokestatic 97, 3) := by decide +kernel
theorem dS_limit_4 : decode cS_limit 4 = .ok (.iload_n 2, 1) := by decide +kernel
theorem dS_limit_5 : decode cS_limit 5 = .ok (.invokestatic 110, 3) := by decide +kernel
theorem dS_limit_8 : decode cS_limit 8 = .ok (.aload_n 0, 1) := by decide +kernel
theorem dS_limit_9 : decode cS_limit 9 = .ok (.getfield 43, 3) := by decide +kernel
theorem dS_limit_12 : decode cS_limit 12 = .ok (.iload_n 1, 1) := by decide +kernel
theorem dS_limit_13 : decode cS_limit 13 = .ok (.iload_n 2, 1) := by decide +kernel
theorem dS_limit_14 : decode cS_limit 14 = .ok (.iastore, 1) := by decide +kernel
theorem dS_limit_15 : decode cS_limit 15 = .ok (.return_, 1) := by decide +kernel
theorem dS_reserve_0 : decode cS_reserve 0 = .ok (.iload_n 1, 1) := by decide +kernel
theorem dS_reserve_1 : decode cS_reserve 1 = .ok (.ifCond .lt 9, 3) := by decide +kernel
theorem dS_reserve_4 : decode cS_reserve 4 = .ok (.iload_n 1, 1) := by decide +kernel
theorem dS_reserve_5 : decode cS_reserve 5 = .ok (.bipush 12, 2) := by decide +kernel
theorem dS_reserve_7 : decode cS_reserve 7 = .ok (.if_icmp .le 13, 3) := by decide +kernel
theorem dS_reserve_10 : decode cS_reserve 10 = .ok (.new 67, 3) := by decide +kernel
theorem dS_reserve_13 : decode cS_reserve 13 = .ok (.dup, 1) := by decide +kernel
theorem dS_reserve_14 : decode cS_reserve 14 = .ok (.ldc 113, 2) := by decide +kernel
theorem dS_reserve_16 : decode cS_reserve 16 = .ok (.invokespecial 71, 3) := by decide +kernel
theorem dS_reserve_19 : decode cS_reserve 19 = .ok (.athrow, 1) := by decide +kernel
theorem dS_reserve_20 : decode cS_reserve 20 = .ok (.iload_n 2, 1) := by decide +kernel
theorem dS_reserve_21 : decode cS_reserve 21 = .ok (.iconst 1, 1) := by decide +kernel
theorem dS_reserve_22 : decode cS_reserve 22 = .ok (.if_icmp .lt 9, 3) := by decide +kernel
theorem dS_reserve_25 : decode cS_reserve 25 = .ok (.iload_n 2, 1) := by decide +kernel
theorem dS_reserve_26 : decode cS_reserve 26 = .ok (.bipush 10, 2) := by decide +kernel
theorem dS_reserve_28 : decode cS_reserve 28 = .ok (.if_icmp .le 13, 3) := by decide +kernel
theorem dS_reserve_31 : decode cS_reserve 31 = .ok (.new 67, 3) := by decide +kernel
theorem dS_reserve_34 : decode cS_reserve 34 = .ok (.dup, 1) := by decide +kernel
theorem dS_reserve_35 : decode cS_reserve 35 = .ok (.ldc 115, 2) := by decide +kernel
theorem dS_reserve_37 : decode cS_reserve 37 = .ok (.invokespecial 71, 3) := by decide +kernel
theorem dS_reserve_40 : decode cS_reserve 40 = .ok (.athrow, 1) := by decide +kernel
theorem dS_reserve_41 : decode cS_reserve 41 = .ok (.aload_n 0, 1) := by decide +kernel
theorem dS_reserve_42 : decode cS_reserve 42 = .ok (.iload_n 1, 1) := by decide +kernel
theorem dS_reserve_43 : decode cS_reserve 43 = .ok (.putfield 46, 3) := by decide +kernel
theorem dS_reserve_46 : decode cS_reserve 46 = .ok (.aload_n 0, 1) := by decide +kernel
theorem dS_reserve_47 : decode cS_reserve 47 = .ok (.iload_n 2, 1) := by decide +kernel
theorem dS_reserve_48 : decode cS_reserve 48 = .ok (.putfield 50, 3) := by decide +kernel
theorem dS_reserve_51 : decode cS_reserve 51 = .ok (.return_, 1) := by decide +kernel
theorem dS_broken_0 : decode cS_broken 0 = .ok (.aload_n 0, 1) := by decide +kernel
theorem dS_broken_1 : decode cS_broken 1 = .ok (.iload_n 1, 1) := by decide +kernel
theorem dS_broken_2 : decode cS_broken 2 = .ok (.invokevirtual 107, 3) := by decide +kernel
theorem dS_broken_5 : decode cS_broken 5 = .ok (.aload_n 0, 1) := by decide +kernel
theorem dS_broken_6 : decode cS_broken 6 = .ok (.getfield 13, 3) := by decide +kernel
theorem dS_broken_9 : decode cS_broken 9 = .ok (.iload_n 1, 1) := by decide +kernel
theorem dS_broken_10 : decode cS_broken 10 = .ok (.baload, 1) := by decide +kernel
theorem dS_broken_11 : decode cS_broken 11 = .ok (.iload_n 2, 1) := by decide +kernel
theorem dS_broken_12 : decode cS_broken 12 = .ok (.if_icmp .ne 13, 3) := by decide +kernel
theorem dS_broken_15 : decode cS_broken 15 = .ok (.new 117, 3) := by decide +kernel
theorem dS_broken_18 : decode cS_broken 18 = .ok (.dup, 1) := by decide +kernel
theorem dS_broken_19 : decode cS_broken 19 = .ok (.ldc 119, 2) := by decide +kernel
theorem dS_broken_21 : decode cS_broken 21 = .ok (.invokespecial 121, 3) := by decide +kernel
theorem dS_broken_24 : decode cS_broken 24 = .ok (.athrow, 1) := by decide +kernel
theorem dS_broken_25 : decode cS_broken 25 = .ok (.aload_n 0, 1) := by decide +kernel
theorem dS_broken_26 : decode cS_broken 26 = .ok (.getfield 13, 3) := by decide +kernel
theorem dS_broken_29 : decode cS_broken 29 = .ok (.iload_n 1, 1) := by decide +kernel
theorem dS_broken_30 : decode cS_broken 30 = .ok (.iload_n 2, 1) := by decide +kernel
theorem dS_broken_31 : decode cS_broken 31 = .ok (.bastore, 1) := by decide +kernel
theorem dS_broken_32 : decode cS_broken 32 = .ok (.iload_n 2, 1) := by decide +kernel
theorem dS_broken_33 : decode cS_broken 33 = .ok (.ifCond .eq 8, 3) := by decide +kernel
theorem dS_broken_36 : decode cS_broken 36 = .ok (.aload_n 0, 1) := by decide +kernel
theorem dS_broken_37 : decode cS_broken 37 = .ok (.iload_n 1, 1) := by decide +kernel
theorem dS_broken_38 : decode cS_broken 38 = .ok (.invokevirtual 122, 3) := by decide +kernel
theorem dS_broken_41 : decode cS_broken 41 = .ok (.return_, 1) := by decide +kernel
theorem dS_send_0 : decode cS_send 0 = .ok (.iload_n 1, 1) := by decide +kernel
theorem dS_send_1 : decode cS_send 1 = .ok (.ifCond .lt 9, 3) := by decide +kernel
theorem dS_send_4 : decode cS_send 4 = .ok (.iload_n 1, 1) := by decide +kernel
theorem dS_send_5 : decode cS_send 5 = .ok (.ldc 125, 2) := by decide +kernel
theorem dS_send_7 : decode cS_send 7 = .ok (.if_icmp .le 13, 3) := by decide +kernel
theorem dS_send_10 : decode cS_send 10 = .ok (.new 67, 3) := by decide +kernel
theorem dS_send_13 : decode cS_send 13 = .ok (.dup, 1) := by decide +kernel
theorem dS_send_14 : decode cS_send 14 = .ok (.ldc 126, 2) := by decide +kernel
theorem dS_send_16 : decode cS_send 16 = .ok (.invokespecial 71, 3) := by decide +kernel
theorem dS_send_19 : decode cS_send 19 = .ok (.athrow, 1) := by decide +kernel
theorem dS_send_20 : decode cS_send 20 = .ok (.aload_n 0, 1) := by decide +kernel
theorem dS_send_21 : decode cS_send 21 = .ok (.invokevirtual 128, 3) := by decide +kernel
theorem dS_send_24 : decode cS_send 24 = .ok (.aload_n 0, 1) := by decide +kernel
theorem dS_send_25 : decode cS_send 25 = .ok (.invokevirtual 131, 3) := by decide +kernel
theorem dS_send_28 : decode cS_send 28 = .ok (.istore_n 2, 1) := by decide +kernel
theorem dS_send_29 : decode cS_send 29 = .ok (.aload_n 0, 1) := by decide +kernel
theorem dS_send_30 : decode cS_send 30 = .ok (.getfield 56, 3) := by decide +kernel
theorem dS_send_33 : decode cS_send 33 = .ok (.iload_n 2, 1) := by decide +kernel
theorem dS_send_34 : decode cS_send 34 = .ok (.invokevirtual 135, 3) := by decide +kernel
theorem dS_send_37 : decode cS_send 37 = .ok (.aload_n 0, 1) := by decide +kernel
theorem dS_send_38 : decode cS_send 38 = .ok (.iload_n 2, 1) := by decide +kernel
theorem dS_send_39 : decode cS_send 39 = .ok (.iload_n 1, 1) := by decide +kernel
theorem dS_send_40 : decode cS_send 40 = .ok (.iconst 1, 1) := by decide +kernel
theorem dS_send_41 : decode cS_send 41 = .ok (.invokestatic 138, 3) := by decide +kernel
theorem dS_send_44 : decode cS_send 44 = .ok (.invokevirtual 144, 3) := by decide +kernel
theorem dS_send_47 : decode cS_send 47 = .ok (.ifCond .ne 7, 3) := by decide +kernel
theorem dS_send_50 : decode cS_send 50 = .ok (.aload_n 0, 1) := by decide +kernel
theorem dS_send_51 : decode cS_send 51 = .ok (.invokevirtual 148, 3) := by decide +kernel
theorem dS_send_54 : decode cS_send 54 = .ok (.aload_n 0, 1) := by decide +kernel
theorem dS_send_55 : decode cS_send 55 = .ok (.invokevirtual 151, 3) := by decide +kernel
theorem dS_send_58 : decode cS_send 58 = .ok (.ireturn, 1) := by decide +kernel
theorem dS_stay_0 : decode cS_stay 0 = .ok (.aload_n 0, 1) := by decide +kernel
theorem dS_stay_1 : decode cS_stay 1 = .ok (.iload_n 1, 1) := by decide +kernel
theorem dS_stay_2 : decode cS_stay 2 = .ok (.invokevirtual 107, 3) := by decide +kernel
theorem dS_stay_5 : decode cS_stay 5 = .ok (.aload_n 0, 1) := by decide +kernel
theorem dS_stay_6 : decode cS_stay 6 = .ok (.iload_n 1, 1) := by decide +kernel
theorem dS_stay_7 : decode cS_stay 7 = .ok (.invokevirtual 154, 3) := by decide +kernel
theorem dS_stay_10 : decode cS_stay 10 = .ok (.aload_n 0, 1) := by decide +kernel
theorem dS_stay_11 : decode cS_stay 11 = .ok (.getfield 17, 3) := by decide +kernel
theorem dS_stay_14 : decode cS_stay 14 = .ok (.iload_n 1, 1) := by decide +kernel
theorem dS_stay_15 : decode cS_stay 15 = .ok (.baload, 1) := by decide +kernel
theorem dS_stay_16 : decode cS_stay 16 = .ok (.iload_n 2, 1) := by decide +kernel
theorem dS_stay_17 : decode cS_stay 17 = .ok (.if_icmp .ne 13, 3) := by decide +kernel
theorem dS_stay_20 : decode cS_stay 20 = .ok (.new 117, 3) := by decide +kernel
theorem dS_stay_23 : decode cS_stay 23 = .ok (.dup, 1) := by decide +kernel
theorem dS_stay_24 : decode cS_stay 24 = .ok (.ldc 119, 2) := by decide +kernel
theorem dS_stay_26 : decode cS_stay 26 = .ok (.invokespecial 121, 3) := by decide +kernel
theorem dS_stay_29 : decode cS_stay 29 = .ok (.athrow, 1) := by decide +kernel
theorem dS_stay_30 : decode cS_stay 30 = .ok (.aload_n 0, 1) := by decide +kernel
theorem dS_stay_31 : decode cS_stay 31 = .ok (.getfield 17, 3) := by decide +kernel
theorem dS_stay_34 : decode cS_stay 34 = .ok (.iload_n 1, 1) := by decide +kernel
theorem dS_stay_35 : decode cS_stay 35 = .ok (.iload_n 2, 1) := by decide +kernel
theorem dS_stay_36 : decode cS_stay 36 = .ok (.bastore, 1) := by decide +kernel
theorem dS_stay_37 : decode cS_stay 37 = .ok (.return_, 1) := by decide +kernel
theorem dS_recall_0 : decode cS_recall 0 = .ok (.aload_n 0, 1) := by decide +kernel
theorem dS_recall_1 : decode cS_recall 1 = .ok (.iload_n 1, 1) := by decide +kernel
theorem dS_recall_2 : decode cS_recall 2 = .ok (.invokevirtual 107, 3) := by decide +kernel
theorem dS_recall_5 : decode cS_recall 5 = .ok (.aload_n 0, 1) := by decide +kernel
theorem dS_recall_6 : decode cS_recall 6 = .ok (.iload_n 1, 1) := by decide +kernel
theorem dS_recall_7 : decode cS_recall 7 = .ok (.invokevirtual 154, 3) := by decide +kernel
theorem dS_recall_10 : decode cS_recall 10 = .ok (.aload_n 0, 1) := by decide +kernel
theorem dS_recall_11 : decode cS_recall 11 = .ok (.iload_n 1, 1) := by decide +kernel
theorem dS_recall_12 : decode cS_recall 12 = .ok (.invokevirtual 122, 3) := by decide +kernel
theorem dS_recall_15 : decode cS_recall 15 = .ok (.return_, 1) := by decide +kernel
theorem dS_close_0 : decode cS_close 0 = .ok (.aload_n 0, 1) := by decide +kernel
theorem dS_close_1 : decode cS_close 1 = .ok (.iload_n 1, 1) := by decide +kernel
theorem dS_close_2 : decode cS_close 2 = .ok (.invokevirtual 91, 3) := by decide +kernel
theorem dS_close_5 : decode cS_close 5 = .ok (.aload_n 0, 1) := by decide +kernel
theorem dS_close_6 : decode cS_close 6 = .ok (.iload_n 1, 1) := by decide +kernel
theorem dS_close_7 : decode cS_close 7 = .ok (.invokevirtual 94, 3) := by decide +kernel
theorem dS_close_10 : decode cS_close 10 = .ok (.aload_n 0, 1) := by decide +kernel
theorem dS_close_11 : decode cS_close 11 = .ok (.getfield 31, 3) := by decide +kernel
theorem dS_close_14 : decode cS_close 14 = .ok (.iload_n 1, 1) := by decide +kernel
theorem dS_close_15 : decode cS_close 15 = .ok (.iconst 0, 1) := by decide +kernel
theorem dS_close_16 : decode cS_close 16 = .ok (.bastore, 1) := by decide +kernel
theorem dS_close_17 : decode cS_close 17 = .ok (.iconst 0, 1) := by decide +kernel
theorem dS_close_18 : decode cS_close 18 = .ok (.istore_n 2, 1) := by decide +kernel
theorem dS_close_19 : decode cS_close 19 = .ok (.iload_n 2, 1) := by decide +kernel
theorem dS_close_20 : decode cS_close 20 = .ok (.aload_n 0, 1) := by decide +kernel
theorem dS_close_21 : decode cS_close 21 = .ok (.getfield 102, 3) := by decide +kernel
theorem dS_close_24 : decode cS_close 24 = .ok (.if_icmp .ge 39, 3) := by decide +kernel
theorem dS_close_27 : decode cS_close 27 = .ok (.aload_n 0, 1) := by decide +kernel
theorem dS_close_28 : decode cS_close 28 = .ok (.getfield 34, 3) := by decide +kernel
theorem dS_close_31 : decode cS_close 31 = .ok (.iload_n 2, 1) := by decide +kernel
theorem dS_close_32 : decode cS_close 32 = .ok (.iaload, 1) := by decide +kernel
theorem dS_close_33 : decode cS_close 33 = .ok (.iload_n 1, 1) := by decide +kernel
theorem dS_close_34 : decode cS_close 34 = .ok (.if_icmp .ne 23, 3) := by decide +kernel
theorem dS_close_37 : decode cS_close 37 = .ok (.aload_n 0, 1) := by decide +kernel
theorem dS_close_38 : decode cS_close 38 = .ok (.getfield 40, 3) := by decide +kernel
theorem dS_close_41 : decode cS_close 41 = .ok (.iload_n 2, 1) := by decide +kernel
theorem dS_close_42 : decode cS_close 42 = .ok (.iaload, 1) := by decide +kernel
theorem dS_close_43 : decode cS_close 43 = .ok (.iconst (-1), 1) := by decide +kernel
theorem dS_close_44 : decode cS_close 44 = .ok (.if_icmp .eq 13, 3) := by decide +kernel
theorem dS_close_47 : decode cS_close 47 = .ok (.aload_n 0, 1) := by decide +kernel
theorem dS_close_48 : decode cS_close 48 = .ok (.aload_n 0, 1) := by decide +kernel
theorem dS_close_49 : decode cS_close 49 = .ok (.getfield 40, 3) := by decide +kernel
theorem dS_close_52 : decode cS_close 52 = .ok (.iload_n 2, 1) := by decide +kernel
theorem dS_close_53 : decode cS_close 53 = .ok (.iaload, 1) := by decide +kernel
theorem dS_close_54 : decode cS_close 54 = .ok (.invokevirtual 122, 3) := by decide +kernel
theorem dS_close_57 : decode cS_close 57 = .ok (.iinc 2 1, 3) := by decide +kernel
theorem dS_close_60 : decode cS_close 60 = .ok (.goto (-41), 3) := by decide +kernel
theorem dS_close_63 : decode cS_close 63 = .ok (.return_, 1) := by decide +kernel
theorem dS_needAt_0 : decode cS_needAt 0 = .ok (.aload_n 0, 1) := by decide +kernel
theorem dS_needAt_1 : decode cS_needAt 1 = .ok (.iload_n 1, 1) := by decide +kernel
theorem dS_needAt_2 : decode cS_needAt 2 = .ok (.invokevirtual 157, 3) := by decide +kernel
theorem dS_needAt_5 : decode cS_needAt 5 = .ok (.iload_n 2, 1) := by decide +kernel
theorem dS_needAt_6 : decode cS_needAt 6 = .ok (.tableswitch 65 0 3 #[30, 37, 44, 51], 30) := by decide +kernel
theorem dS_needAt_36 : decode cS_needAt 36 = .ok (.aload_n 0, 1) := by decide +kernel
theorem dS_needAt_37 : decode cS_needAt 37 = .ok (.getfield 34, 3) := by decide +kernel
theorem dS_needAt_40 : decode cS_needAt 40 = .ok (.iload_n 1, 1) := by decide +kernel
theorem dS_needAt_41 : decode cS_needAt 41 = .ok (.iaload, 1) := by decide +kernel
theorem dS_needAt_42 : decode cS_needAt 42 = .ok (.ireturn, 1) := by decide +kernel
theorem dS_needAt_43 : decode cS_needAt 43 = .ok (.aload_n 0, 1) := by decide +kernel
theorem dS_needAt_44 : decode cS_needAt 44 = .ok (.getfield 37, 3) := by decide +kernel
theorem dS_needAt_47 : decode cS_needAt 47 = .ok (.iload_n 1, 1) := by decide +kernel
theorem dS_needAt_48 : decode cS_needAt 48 = .ok (.iaload, 1) := by decide +kernel
theorem dS_needAt_49 : decode cS_needAt 49 = .ok (.ireturn, 1) := by decide +kernel
theorem dS_needAt_50 : decode cS_needAt 50 = .ok (.aload_n 0, 1) := by decide +kernel
theorem dS_needAt_51 : decode cS_needAt 51 = .ok (.getfield 40, 3) := by decide +kernel
theorem dS_needAt_54 : decode cS_needAt 54 = .ok (.iload_n 1, 1) := by decide +kernel
theorem dS_needAt_55 : decode cS_needAt 55 = .ok (.iaload, 1) := by decide +kernel
theorem dS_needAt_56 : decode cS_needAt 56 = .ok (.ireturn, 1) := by decide +kernel
theorem dS_needAt_57 : decode cS_needAt 57 = .ok (.aload_n 0, 1) := by decide +kernel
theorem dS_needAt_58 : decode cS_needAt 58 = .ok (.iload_n 1, 1) := by decide +kernel
theorem dS_needAt_59 : decode cS_needAt 59 = .ok (.invokevirtual 160, 3) := by decide +kernel
theorem dS_needAt_62 : decode cS_needAt 62 = .ok (.ifCond .eq 7, 3) := by decide +kernel
theorem dS_needAt_65 : decode cS_needAt 65 = .ok (.iconst 1, 1) := by decide +kernel
theorem dS_needAt_66 : decode cS_needAt 66 = .ok (.goto 4, 3) := by decide +kernel
theorem dS_needAt_69 : decode cS_needAt 69 = .ok (.iconst 0, 1) := by decide +kernel
theorem dS_needAt_70 : decode cS_needAt 70 = .ok (.ireturn, 1) := by decide +kernel
theorem dS_needAt_71 : decode cS_needAt 71 = .ok (.new 164, 3) := by decide +kernel
theorem dS_needAt_74 : decode cS_needAt 74 = .ok (.dup, 1) := by decide +kernel
theorem dS_needAt_75 : decode cS_needAt 75 = .ok (.ldc 166, 2) := by decide +kernel
theorem dS_needAt_77 : decode cS_needAt 77 = .ok (.invokespecial 168, 3) := by decide +kernel
theorem dS_needAt_80 : decode cS_needAt 80 = .ok (.athrow, 1) := by decide +kernel
theorem dS_fills_0 : decode cS_fills 0 = .ok (.aload_n 0, 1) := by decide +kernel
theorem dS_fills_1 : decode cS_fills 1 = .ok (.iload_n 1, 1) := by decide +kernel
theorem dS_fills_2 : decode cS_fills 2 = .ok (.invokevirtual 107, 3) := by decide +kernel
theorem dS_fills_5 : decode cS_fills 5 = .ok (.aload_n 0, 1) := by decide +kernel
theorem dS_fills_6 : decode cS_fills 6 = .ok (.getfield 20, 3) := by decide +kernel
theorem dS_fills_9 : decode cS_fills 9 = .ok (.iload_n 1, 1) := by decide +kernel
theorem dS_fills_10 : decode cS_fills 10 = .ok (.iaload, 1) := by decide +kernel
theorem dS_fills_11 : decode cS_fills 11 = .ok (.ireturn, 1) := by decide +kernel
theorem dS_sum_0 : decode cS_sum 0 = .ok (.iload_n 1, 1) := by decide +kernel
theorem dS_sum_1 : decode cS_sum 1 = .ok (.ifCond .eq 18, 3) := by decide +kernel
theorem dS_sum_4 : decode cS_sum 4 = .ok (.iload_n 1, 1) := by decide +kernel
theorem dS_sum_5 : decode cS_sum 5 = .ok (.iconst 1, 1) := by decide +kernel
theorem dS_sum_6 : decode cS_sum 6 = .ok (.if_icmp .eq 13, 3) := by decide +kernel
theorem dS_sum_9 : decode cS_sum 9 = .ok (.new 164, 3) := by decide +kernel
theorem dS_sum_12 : decode cS_sum 12 = .ok (.dup, 1) := by decide +kernel
theorem dS_sum_13 : decode cS_sum 13 = .ok (.ldc 169, 2) := by decide +kernel
theorem dS_sum_15 : decode cS_sum 15 = .ok (.invokespecial 168, 3) := by decide +kernel
theorem dS_sum_18 : decode cS_sum 18 = .ok (.athrow, 1) := by decide +kernel
theorem dS_sum_19 : decode cS_sum 19 = .ok (.iconst 0, 1) := by decide +kernel
theorem dS_sum_20 : decode cS_sum 20 = .ok (.istore_n 2, 1) := by decide +kernel
theorem dS_sum_21 : decode cS_sum 21 = .ok (.iconst 0, 1) := by decide +kernel
theorem dS_sum_22 : decode cS_sum 22 = .ok (.istore_n 3, 1) := by decide +kernel
theorem dS_sum_23 : decode cS_sum 23 = .ok (.iload_n 3, 1) := by decide +kernel
theorem dS_sum_24 : decode cS_sum 24 = .ok (.aload_n 0, 1) := by decide +kernel
theorem dS_sum_25 : decode cS_sum 25 = .ok (.getfield 102, 3) := by decide +kernel
theorem dS_sum_28 : decode cS_sum 28 = .ok (.if_icmp .ge 37, 3) := by decide +kernel
theorem dS_sum_31 : decode cS_sum 31 = .ok (.aload_n 0, 1) := by decide +kernel
theorem dS_sum_32 : decode cS_sum 32 = .ok (.iload_n 3, 1) := by decide +kernel
theorem dS_sum_33 : decode cS_sum 33 = .ok (.invokevirtual 160, 3) := by decide +kernel
theorem dS_sum_36 : decode cS_sum 36 = .ok (.ifCond .eq 23, 3) := by decide +kernel
theorem dS_sum_39 : decode cS_sum 39 = .ok (.iload_n 2, 1) := by decide +kernel
theorem dS_sum_40 : decode cS_sum 40 = .ok (.iload_n 1, 1) := by decide +kernel
theorem dS_sum_41 : decode cS_sum 41 = .ok (.ifCond .ne 11, 3) := by decide +kernel
theorem dS_sum_44 : decode cS_sum 44 = .ok (.aload_n 0, 1) := by decide +kernel
theorem dS_sum_45 : decode cS_sum 45 = .ok (.iload_n 3, 1) := by decide +kernel
theorem dS_sum_46 : decode cS_sum 46 = .ok (.invokevirtual 171, 3) := by decide +kernel
theorem dS_sum_49 : decode cS_sum 49 = .ok (.goto 8, 3) := by decide +kernel
theorem dS_sum_52 : decode cS_sum 52 = .ok (.aload_n 0, 1) := by decide +kernel
theorem dS_sum_53 : decode cS_sum 53 = .ok (.iload_n 3, 1) := by decide +kernel
theorem dS_sum_54 : decode cS_sum 54 = .ok (.invokevirtual 175, 3) := by decide +kernel
theorem dS_sum_57 : decode cS_sum 57 = .ok (.iadd, 1) := by decide +kernel
theorem dS_sum_58 : decode cS_sum 58 = .ok (.istore_n 2, 1) := by decide +kernel
theorem dS_sum_59 : decode cS_sum 59 = .ok (.iinc 3 1, 3) := by decide +kernel
theorem dS_sum_62 : decode cS_sum 62 = .ok (.goto (-39), 3) := by decide +kernel
theorem dS_sum_65 : decode cS_sum 65 = .ok (.iload_n 2, 1) := by decide +kernel
theorem dS_sum_66 : decode cS_sum 66 = .ok (.ireturn, 1) := by decide +kernel
theorem dS_alternative_0 : decode cS_alternative 0 = .ok (.aload_n 0, 1) := by decide +kernel
theorem dS_alternative_1 : decode cS_alternative 1 = .ok (.iload_n 1, 1) := by decide +kernel
theorem dS_alternative_2 : decode cS_alternative 2 = .ok (.invokevirtual 157, 3) := by decide +kernel
theorem dS_alternative_5 : decode cS_alternative 5 = .ok (.aload_n 0, 1) := by decide +kernel
theorem dS_alternative_6 : decode cS_alternative 6 = .ok (.aload_n 0, 1) := by decide +kernel
theorem dS_alternative_7 : decode cS_alternative 7 = .ok (.getfield 34, 3) := by decide +kernel
theorem dS_alternative_10 : decode cS_alternative 10 = .ok (.iload_n 1, 1) := by decide +kernel
theorem dS_alternative_11 : decode cS_alternative 11 = .ok (.iaload, 1) := by decide +kernel
theorem dS_alternative_12 : decode cS_alternative 12 = .ok (.invokevirtual 94, 3) := by decide +kernel
theorem dS_alternative_15 : decode cS_alternative 15 = .ok (.iconst (-1), 1) := by decide +kernel
theorem dS_alternative_16 : decode cS_alternative 16 = .ok (.istore_n 2, 1) := by decide +kernel
theorem dS_alternative_17 : decode cS_alternative 17 = .ok (.iconst 0, 1) := by decide +kernel
theorem dS_alternative_18 : decode cS_alternative 18 = .ok (.istore_n 3, 1) := by decide +kernel
theorem dS_alternative_19 : decode cS_alternative 19 = .ok (.iload_n 3, 1) := by decide +kernel
theorem dS_alternative_20 : decode cS_alternative 20 = .ok (.aload_n 0, 1) := by decide +kernel
theorem dS_alternative_21 : decode cS_alternative 21 = .ok (.getfield 74, 3) := by decide +kernel
theorem dS_alternative_24 : decode cS_alternative 24 = .ok (.if_icmp .ge 50, 3) := by decide +kernel
theorem dS_alternative_27 : decode cS_alternative 27 = .ok (.aload_n 0, 1) := by decide +kernel
theorem dS_alternative_28 : decode cS_alternative 28 = .ok (.getfield 20, 3) := by decide +kernel
theorem dS_alternative_31 : decode cS_alternative 31 = .ok (.iload_n 3, 1) := by decide +kernel
theorem dS_alternative_32 : decode cS_alternative 32 = .ok (.iaload, 1) := by decide +kernel
theorem dS_alternative_33 : decode cS_alternative 33 = .ok (.iconst (-1), 1) := by decide +kernel
theorem dS_alternative_34 : decode cS_alternative 34 = .ok (.if_icmp .ne 34, 3) := by decide +kernel
theorem dS_alternative_37 : decode cS_alternative 37 = .ok (.aload_n 0, 1) := by decide +kernel
theorem dS_alternative_38 : decode cS_alternative 38 = .ok (.iload_n 3, 1) := by decide +kernel
theorem dS_alternative_39 : decode cS_alternative 39 = .ok (.iload_n 1, 1) := by decide +kernel
theorem dS_alternative_40 : decode cS_alternative 40 = .ok (.invokevirtual 178, 3) := by decide +kernel
theorem dS_alternative_43 : decode cS_alternative 43 = .ok (.ifCond .eq 25, 3) := by decide +kernel
theorem dS_alternative_46 : decode cS_alternative 46 = .ok (.iload_n 2, 1) := by decide +kernel
theorem dS_alternative_47 : decode cS_alternative 47 = .ok (.iconst (-1), 1) := by decide +kernel
theorem dS_alternative_48 : decode cS_alternative 48 = .ok (.if_icmp .eq 18, 3) := by decide +kernel
theorem dS_alternative_51 : decode cS_alternative 51 = .ok (.aload_n 0, 1) := by decide +kernel
theorem dS_alternative_52 : decode cS_alternative 52 = .ok (.iload_n 3, 1) := by decide +kernel
theorem dS_alternative_53 : decode cS_alternative 53 = .ok (.iload_n 1, 1) := by decide +kernel
theorem dS_alternative_54 : decode cS_alternative 54 = .ok (.invokevirtual 181, 3) := by decide +kernel
theorem dS_alternative_57 : decode cS_alternative 57 = .ok (.aload_n 0, 1) := by decide +kernel
theorem dS_alternative_58 : decode cS_alternative 58 = .ok (.iload_n 2, 1) := by decide +kernel
theorem dS_alternative_59 : decode cS_alternative 59 = .ok (.iload_n 1, 1) := by decide +kernel
theorem dS_alternative_60 : decode cS_alternative 60 = .ok (.invokevirtual 181, 3) := by decide +kernel
theorem dS_alternative_63 : decode cS_alternative 63 = .ok (.if_icmp .ge 5, 3) := by decide +kernel
theorem dS_alternative_66 : decode cS_alternative 66 = .ok (.iload_n 3, 1) := by decide +kernel
theorem dS_alternative_67 : decode cS_alternative 67 = .ok (.istore_n 2, 1) := by decide +kernel
theorem dS_alternative_68 : decode cS_alternative 68 = .ok (.iinc 3 1, 3) := by decide +kernel
theorem dS_alternative_71 : decode cS_alternative 71 = .ok (.goto (-52), 3) := by decide +kernel
theorem dS_alternative_74 : decode cS_alternative 74 = .ok (.iload_n 2, 1) := by decide +kernel
theorem dS_alternative_75 : decode cS_alternative 75 = .ok (.ireturn, 1) := by decide +kernel
theorem dS_never_0 : decode cS_never 0 = .ok (.iload_n 1, 1) := by decide +kernel
theorem dS_never_1 : decode cS_never 1 = .ok (.ifCond .ge 13, 3) := by decide +kernel
theorem dS_never_4 : decode cS_never 4 = .ok (.new 67, 3) := by decide +kernel
theorem dS_never_7 : decode cS_never 7 = .ok (.dup, 1) := by decide +kernel
theorem dS_never_8 : decode cS_never 8 = .ok (.ldc 184, 2) := by decide +kernel
theorem dS_never_10 : decode cS_never 10 = .ok (.invokespecial 71, 3) := by decide +kernel
theorem dS_never_13 : decode cS_never 13 = .ok (.athrow, 1) := by decide +kernel
theorem dS_never_14 : decode cS_never 14 = .ok (.iconst 0, 1) := by decide +kernel
theorem dS_never_15 : decode cS_never 15 = .ok (.istore_n 2, 1) := by decide +kernel
theorem dS_never_16 : decode cS_never 16 = .ok (.iconst 0, 1) := by decide +kernel
theorem dS_never_17 : decode cS_never 17 = .ok (.istore_n 3, 1) := by decide +kernel
theorem dS_never_18 : decode cS_never 18 = .ok (.iload_n 3, 1) := by decide +kernel
theorem dS_never_19 : decode cS_never 19 = .ok (.aload_n 0, 1) := by decide +kernel
theorem dS_never_20 : decode cS_never 20 = .ok (.getfield 102, 3) := by decide +kernel
theorem dS_never_23 : decode cS_never 23 = .ok (.if_icmp .ge 35, 3) := by decide +kernel
theorem dS_never_26 : decode cS_never 26 = .ok (.aload_n 0, 1) := by decide +kernel
theorem dS_never_27 : decode cS_never 27 = .ok (.iload_n 3, 1) := by decide +kernel
theorem dS_never_28 : decode cS_never 28 = .ok (.invokevirtual 160, 3) := by decide +kernel
theorem dS_never_31 : decode cS_never 31 = .ok (.ifCond .eq 21, 3) := by decide +kernel
theorem dS_never_34 : decode cS_never 34 = .ok (.aload_n 0, 1) := by decide +kernel
theorem dS_never_35 : decode cS_never 35 = .ok (.iload_n 3, 1) := by decide +kernel
theorem dS_never_36 : decode cS_never 36 = .ok (.invokevirtual 186, 3) := by decide +kernel
theorem dS_never_39 : decode cS_never 39 = .ok (.ifCond .ne 13, 3) := by decide +kernel
theorem dS_never_42 : decode cS_never 42 = .ok (.iload_n 2, 1) := by decide +kernel
theorem dS_never_43 : decode cS_never 43 = .ok (.iload_n 1, 1) := by decide +kernel
theorem dS_never_44 : decode cS_never 44 = .ok (.if_icmp .ne 5, 3) := by decide +kernel
theorem dS_never_47 : decode cS_never 47 = .ok (.iload_n 3, 1) := by decide +kernel
theorem dS_never_48 : decode cS_never 48 = .ok (.ireturn, 1) := by decide +kernel
theorem dS_never_49 : decode cS_never 49 = .ok (.iinc 2 1, 3) := by decide +kernel
theorem dS_never_52 : decode cS_never 52 = .ok (.iinc 3 1, 3) := by decide +kernel
theorem dS_never_55 : decode cS_never 55 = .ok (.goto (-37), 3) := by decide +kernel
theorem dS_never_58 : decode cS_never 58 = .ok (.iconst (-1), 1) := by decide +kernel
theorem dS_never_59 : decode cS_never 59 = .ok (.ireturn, 1) := by decide +kernel
theorem dS_checkUnit_0 : decode cS_checkUnit 0 = .ok (.iload_n 1, 1) := by decide +kernel
theorem dS_checkUnit_1 : decode cS_checkUnit 1 = .ok (.ifCond .lt 11, 3) := by decide +kernel
theorem dS_checkUnit_4 : decode cS_checkUnit 4 = .ok (.iload_n 1, 1) := by decide +kernel
theorem dS_checkUnit_5 : decode cS_checkUnit 5 = .ok (.aload_n 0, 1) := by decide +kernel
theorem dS_checkUnit_6 : decode cS_checkUnit 6 = .ok (.getfield 74, 3) := by decide +kernel
theorem dS_checkUnit_9 : decode cS_checkUnit 9 = .ok (.if_icmp .lt 13, 3) := by decide +kernel
theorem dS_checkUnit_12 : decode cS_checkUnit 12 = .ok (.new 164, 3) := by decide +kernel
theorem dS_checkUnit_15 : decode cS_checkUnit 15 = .ok (.dup, 1) := by decide +kernel
theorem dS_checkUnit_16 : decode cS_checkUnit 16 = .ok (.ldc 189, 2) := by decide +kernel
theorem dS_checkUnit_18 : decode cS_checkUnit 18 = .ok (.invokespecial 168, 3) := by decide +kernel
theorem dS_checkUnit_21 : decode cS_checkUnit 21 = .ok (.athrow, 1) := by decide +kernel
theorem dS_checkUnit_22 : decode cS_checkUnit 22 = .ok (.return_, 1) := by decide +kernel
theorem dS_checkIncident_0 : decode cS_checkIncident 0 = .ok (.iload_n 1, 1) := by decide +kernel
theorem dS_checkIncident_1 : decode cS_checkIncident 1 = .ok (.ifCond .lt 11, 3) := by decide +kernel
theorem dS_checkIncident_4 : decode cS_checkIncident 4 = .ok (.iload_n 1, 1) := by decide +kernel
theorem dS_checkIncident_5 : decode cS_checkIncident 5 = .ok (.aload_n 0, 1) := by decide +kernel
theorem dS_checkIncident_6 : decode cS_checkIncident 6 = .ok (.getfield 86, 3) := by decide +kernel
theorem dS_checkIncident_9 : decode cS_checkIncident 9 = .ok (.if_icmp .lt 13, 3) := by decide +kernel
theorem dS_checkIncident_12 : decode cS_checkIncident 12 = .ok (.new 164, 3) := by decide +kernel
theorem dS_checkIncident_15 : decode cS_checkIncident 15 = .ok (.dup, 1) := by decide +kernel
theorem dS_checkIncident_16 : decode cS_checkIncident 16 = .ok (.ldc 191, 2) := by decide +kernel
theorem dS_checkIncident_18 : decode cS_checkIncident 18 = .ok (.invokespecial 168, 3) := by decide +kernel
theorem dS_checkIncident_21 : decode cS_checkIncident 21 = .ok (.athrow, 1) := by decide +kernel
theorem dS_checkIncident_22 : decode cS_checkIncident 22 = .ok (.return_, 1) := by decide +kernel
theorem dS_checkNeed_0 : decode cS_checkNeed 0 = .ok (.iload_n 1, 1) := by decide +kernel
theorem dS_checkNeed_1 : decode cS_checkNeed 1 = .ok (.ifCond .lt 11, 3) := by decide +kernel
theorem dS_checkNeed_4 : decode cS_checkNeed 4 = .ok (.iload_n 1, 1) := by decide +kernel
theorem dS_checkNeed_5 : decode cS_checkNeed 5 = .ok (.aload_n 0, 1) := by decide +kernel
theorem dS_checkNeed_6 : decode cS_checkNeed 6 = .ok (.getfield 102, 3) := by decide +kernel
theorem dS_checkNeed_9 : decode cS_checkNeed 9 = .ok (.if_icmp .lt 13, 3) := by decide +kernel
theorem dS_checkNeed_12 : decode cS_checkNeed 12 = .ok (.new 164, 3) := by decide +kernel
theorem dS_checkNeed_15 : decode cS_checkNeed 15 = .ok (.dup, 1) := by decide +kernel
theorem dS_checkNeed_16 : decode cS_checkNeed 16 = .ok (.ldc 193, 2) := by decide +kernel
theorem dS_checkNeed_18 : decode cS_checkNeed 18 = .ok (.invokespecial 168, 3) := by decide +kernel
theorem dS_checkNeed_21 : decode cS_checkNeed 21 = .ok (.athrow, 1) := by decide +kernel
theorem dS_checkNeed_22 : decode cS_checkNeed 22 = .ok (.return_, 1) := by decide +kernel
theorem dS_checkSkill_0 : decode cS_checkSkill 0 = .ok (.iload_n 0, 1) := by decide +kernel
theorem dS_checkSkill_1 : decode cS_checkSkill 1 = .ok (.ifCond .lt 9, 3) := by decide +kernel
theorem dS_checkSkill_4 : decode cS_checkSkill 4 = .ok (.iload_n 0, 1) := by decide +kernel
theorem dS_checkSkill_5 : decode cS_checkSkill 5 = .ok (.bipush 16, 2) := by decide +kernel
theorem dS_checkSkill_7 : decode cS_checkSkill 7 = .ok (.if_icmp .lt 13, 3) := by decide +kernel
theorem dS_checkSkill_10 : decode cS_checkSkill 10 = .ok (.new 164, 3) := by decide +kernel
theorem dS_checkSkill_13 : decode cS_checkSkill 13 = .ok (.dup, 1) := by decide +kernel
theorem dS_checkSkill_14 : decode cS_checkSkill 14 = .ok (.ldc 195, 2) := by decide +kernel
theorem dS_checkSkill_16 : decode cS_checkSkill 16 = .ok (.invokespecial 168, 3) := by decide +kernel
theorem dS_checkSkill_19 : decode cS_checkSkill 19 = .ok (.athrow, 1) := by decide +kernel
theorem dS_checkSkill_20 : decode cS_checkSkill 20 = .ok (.return_, 1) := by decide +kernel
theorem dS_checkRank_0 : decode cS_checkRank 0 = .ok (.iload_n 0, 1) := by decide +kernel
theorem dS_checkRank_1 : decode cS_checkRank 1 = .ok (.iconst 1, 1) := by decide +kernel
theorem dS_checkRank_2 : decode cS_checkRank 2 = .ok (.if_icmp .lt 9, 3) := by decide +kernel
theorem dS_checkRank_5 : decode cS_checkRank 5 = .ok (.iload_n 0, 1) := by decide +kernel
theorem dS_checkRank_6 : decode cS_checkRank 6 = .ok (.bipush 9, 2) := by decide +kernel
theorem dS_checkRank_8 : decode cS_checkRank 8 = .ok (.if_icmp .le 13, 3) := by decide +kernel
theorem dS_checkRank_11 : decode cS_checkRank 11 = .ok (.new 67, 3) := by decide +kernel
theorem dS_checkRank_14 : decode cS_checkRank 14 = .ok (.dup, 1) := by decide +kernel
theorem dS_checkRank_15 : decode cS_checkRank 15 = .ok (.ldc 197, 2) := by decide +kernel
theorem dS_checkRank_17 : decode cS_checkRank 17 = .ok (.invokespecial 71, 3) := by decide +kernel
theorem dS_checkRank_20 : decode cS_checkRank 20 = .ok (.athrow, 1) := by decide +kernel
theorem dS_checkRank_21 : decode cS_checkRank 21 = .ok (.return_, 1) := by decide +kernel
theorem dS_checkSeconds_0 : decode cS_checkSeconds 0 = .ok (.iload_n 0, 1) := by decide +kernel
theorem dS_checkSeconds_1 : decode cS_checkSeconds 1 = .ok (.iconst (-1), 1) := by decide +kernel
theorem dS_checkSeconds_2 : decode cS_checkSeconds 2 = .ok (.if_icmp .lt 9, 3) := by decide +kernel
theorem dS_checkSeconds_5 : decode cS_checkSeconds 5 = .ok (.iload_n 0, 1) := by decide +kernel
theorem dS_checkSeconds_6 : decode cS_checkSeconds 6 = .ok (.ldc 199, 2) := by decide +kernel
theorem dS_checkSeconds_8 : decode cS_checkSeconds 8 = .ok (.if_icmp .le 13, 3) := by decide +kernel
theorem dS_checkSeconds_11 : decode cS_checkSeconds 11 = .ok (.new 67, 3) := by decide +kernel
theorem dS_checkSeconds_14 : decode cS_checkSeconds 14 = .ok (.dup, 1) := by decide +kernel
theorem dS_checkSeconds_15 : decode cS_checkSeconds 15 = .ok (.ldc 200, 2) := by decide +kernel
theorem dS_checkSeconds_17 : decode cS_checkSeconds 17 = .ok (.invokespecial 71, 3) := by decide +kernel
theorem dS_checkSeconds_20 : decode cS_checkSeconds 20 = .ok (.athrow, 1) := by decide +kernel
theorem dS_checkSeconds_21 : decode cS_checkSeconds 21 = .ok (.return_, 1) := by decide +kernel
theorem dS_checkOpen_0 : decode cS_checkOpen 0 = .ok (.aload_n 0, 1) := by decide +kernel
theorem dS_checkOpen_1 : decode cS_checkOpen 1 = .ok (.getfield 31, 3) := by decide +kernel
theorem dS_checkOpen_4 : decode cS_checkOpen 4 = .ok (.iload_n 1, 1) := by decide +kernel
theorem dS_checkOpen_5 : decode cS_checkOpen 5 = .ok (.baload, 1) := by decide +kernel
theorem dS_checkOpen_6 : decode cS_checkOpen 6 = .ok (.ifCond .ne 13, 3) := by decide +kernel
theorem dS_checkOpen_9 : decode cS_checkOpen 9 = .ok (.new 117, 3) := by decide +kernel
theorem dS_checkOpen_12 : decode cS_checkOpen 12 = .ok (.dup, 1) := by decide +kernel
theorem dS_checkOpen_13 : decode cS_checkOpen 13 = .ok (.ldc 202, 2) := by decide +kernel
theorem dS_checkOpen_15 : decode cS_checkOpen 15 = .ok (.invokespecial 121, 3) := by decide +kernel
theorem dS_checkOpen_18 : decode cS_checkOpen 18 = .ok (.athrow, 1) := by decide +kernel
theorem dS_checkOpen_19 : decode cS_checkOpen 19 = .ok (.return_, 1) := by decide +kernel
theorem dS_checkSent_0 : decode cS_checkSent 0 = .ok (.aload_n 0, 1) := by decide +kernel
theorem dS_checkSent_1 : decode cS_checkSent 1 = .ok (.getfield 20, 3) := by decide +kernel
theorem dS_checkSent_4 : decode cS_checkSent 4 = .ok (.iload_n 1, 1) := by decide +kernel
theorem dS_checkSent_5 : decode cS_checkSent 5 = .ok (.iaload, 1) := by decide +kernel
theorem dS_checkSent_6 : decode cS_checkSent 6 = .ok (.iconst (-1), 1) := by decide +kernel
theorem dS_checkSent_7 : decode cS_checkSent 7 = .ok (.if_icmp .ne 13, 3) := by decide +kernel
theorem dS_checkSent_10 : decode cS_checkSent 10 = .ok (.new 117, 3) := by decide +kernel
theorem dS_checkSent_13 : decode cS_checkSent 13 = .ok (.dup, 1) := by decide +kernel
theorem dS_checkSent_14 : decode cS_checkSent 14 = .ok (.ldc 204, 2) := by decide +kernel
theorem dS_checkSent_16 : decode cS_checkSent 16 = .ok (.invokespecial 121, 3) := by decide +kernel
theorem dS_checkSent_19 : decode cS_checkSent 19 = .ok (.athrow, 1) := by decide +kernel
theorem dS_checkSent_20 : decode cS_checkSent 20 = .ok (.return_, 1) := by decide +kernel
theorem dS_isOpenNeed_0 : decode cS_isOpenNeed 0 = .ok (.aload_n 0, 1) := by decide +kernel
theorem dS_isOpenNeed_1 : decode cS_isOpenNeed 1 = .ok (.getfield 31, 3) := by decide +kernel
theorem dS_isOpenNeed_4 : decode cS_isOpenNeed 4 = .ok (.aload_n 0, 1) := by decide +kernel
theorem dS_isOpenNeed_5 : decode cS_isOpenNeed 5 = .ok (.getfield 34, 3) := by decide +kernel
theorem dS_isOpenNeed_8 : decode cS_isOpenNeed 8 = .ok (.iload_n 1, 1) := by decide +kernel
theorem dS_isOpenNeed_9 : decode cS_isOpenNeed 9 = .ok (.iaload, 1) := by decide +kernel
theorem dS_isOpenNeed_10 : decode cS_isOpenNeed 10 = .ok (.baload, 1) := by decide +kernel
theorem dS_isOpenNeed_11 : decode cS_isOpenNeed 11 = .ok (.ireturn, 1) := by decide +kernel
theorem dS_rankOfNeed_0 : decode cS_rankOfNeed 0 = .ok (.aload_n 0, 1) := by decide +kernel
theorem dS_rankOfNeed_1 : decode cS_rankOfNeed 1 = .ok (.getfield 28, 3) := by decide +kernel
theorem dS_rankOfNeed_4 : decode cS_rankOfNeed 4 = .ok (.aload_n 0, 1) := by decide +kernel
theorem dS_rankOfNeed_5 : decode cS_rankOfNeed 5 = .ok (.getfield 34, 3) := by decide +kernel
theorem dS_rankOfNeed_8 : decode cS_rankOfNeed 8 = .ok (.iload_n 1, 1) := by decide +kernel
theorem dS_rankOfNeed_9 : decode cS_rankOfNeed 9 = .ok (.iaload, 1) := by decide +kernel
theorem dS_rankOfNeed_10 : decode cS_rankOfNeed 10 = .ok (.iaload, 1) := by decide +kernel
theorem dS_rankOfNeed_11 : decode cS_rankOfNeed 11 = .ok (.ireturn, 1) := by decide +kernel
theorem dS_secondsTo_0 : decode cS_secondsTo 0 = .ok (.aload_n 0, 1) := by decide +kernel
theorem dS_secondsTo_1 : decode cS_secondsTo 1 = .ok (.getfield 25, 3) := by decide +kernel
theorem dS_secondsTo_4 : decode cS_secondsTo 4 = .ok (.iload_n 1, 1) := by decide +kernel
theorem dS_secondsTo_5 : decode cS_secondsTo 5 = .ok (.aaload, 1) := by decide +kernel
theorem dS_secondsTo_6 : decode cS_secondsTo 6 = .ok (.aload_n 0, 1) := by decide +kernel
theorem dS_secondsTo_7 : decode cS_secondsTo 7 = .ok (.getfield 34, 3) := by decide +kernel
theorem dS_secondsTo_10 : decode cS_secondsTo 10 = .ok (.iload_n 2, 1) := by decide +kernel
theorem dS_secondsTo_11 : decode cS_secondsTo 11 = .ok (.iaload, 1) := by decide +kernel
theorem dS_secondsTo_12 : decode cS_secondsTo 12 = .ok (.iaload, 1) := by decide +kernel
theorem dS_secondsTo_13 : decode cS_secondsTo 13 = .ok (.ireturn, 1) := by decide +kernel
theorem dS_canFill_0 : decode cS_canFill 0 = .ok (.aload_n 0, 1) := by decide +kernel
theorem dS_canFill_1 : decode cS_canFill 1 = .ok (.getfield 37, 3) := by decide +kernel
theorem dS_canFill_4 : decode cS_canFill 4 = .ok (.iload_n 2, 1) := by decide +kernel
theorem dS_canFill_5 : decode cS_canFill 5 = .ok (.iaload, 1) := by decide +kernel
theorem dS_canFill_6 : decode cS_canFill 6 = .ok (.istore_n 3, 1) := by decide +kernel
theorem dS_canFill_7 : decode cS_canFill 7 = .ok (.aload_n 0, 1) := by decide +kernel
theorem dS_canFill_8 : decode cS_canFill 8 = .ok (.getfield 13, 3) := by decide +kernel
theorem dS_canFill_11 : decode cS_canFill 11 = .ok (.iload_n 1, 1) := by decide +kernel
theorem dS_canFill_12 : decode cS_canFill 12 = .ok (.baload, 1) := by decide +kernel
theorem dS_canFill_13 : decode cS_canFill 13 = .ok (.ifCond .ne 16, 3) := by decide +kernel
theorem dS_canFill_16 : decode cS_canFill 16 = .ok (.aload_n 0, 1) := by decide +kernel
theorem dS_canFill_17 : decode cS_canFill 17 = .ok (.getfield 9, 3) := by decide +kernel
theorem dS_canFill_20 : decode cS_canFill 20 = .ok (.iload_n 1, 1) := by decide +kernel
theorem dS_canFill_21 : decode cS_canFill 21 = .ok (.iaload, 1) := by decide +kernel
theorem dS_canFill_22 : decode cS_canFill 22 = .ok (.iload_n 3, 1) := by decide +kernel
theorem dS_canFill_23 : decode cS_canFill 23 = .ok (.ishr, 1) := by decide +kernel
theorem dS_canFill_24 : decode cS_canFill 24 = .ok (.iconst 1, 1) := by decide +kernel
theorem dS_canFill_25 : decode cS_canFill 25 = .ok (.iand, 1) := by decide +kernel
theorem dS_canFill_26 : decode cS_canFill 26 = .ok (.ifCond .ne 5, 3) := by decide +kernel
theorem dS_canFill_29 : decode cS_canFill 29 = .ok (.iconst 0, 1) := by decide +kernel
theorem dS_canFill_30 : decode cS_canFill 30 = .ok (.ireturn, 1) := by decide +kernel
theorem dS_canFill_31 : decode cS_canFill 31 = .ok (.aload_n 0, 1) := by decide +kernel
theorem dS_canFill_32 : decode cS_canFill 32 = .ok (.iload_n 1, 1) := by decide +kernel
theorem dS_canFill_33 : decode cS_canFill 33 = .ok (.iload_n 2, 1) := by decide +kernel
theorem dS_canFill_34 : decode cS_canFill 34 = .ok (.invokevirtual 181, 3) := by decide +kernel
theorem dS_canFill_37 : decode cS_canFill 37 = .ok (.istore 4, 2) := by decide +kernel
theorem dS_canFill_39 : decode cS_canFill 39 = .ok (.iload 4, 2) := by decide +kernel
theorem dS_canFill_41 : decode cS_canFill 41 = .ok (.iconst (-1), 1) := by decide +kernel
theorem dS_canFill_42 : decode cS_canFill 42 = .ok (.if_icmp .eq 28, 3) := by decide +kernel
theorem dS_canFill_45 : decode cS_canFill 45 = .ok (.aload_n 0, 1) := by decide +kernel
theorem dS_canFill_46 : decode cS_canFill 46 = .ok (.getfield 43, 3) := by decide +kernel
theorem dS_canFill_49 : decode cS_canFill 49 = .ok (.iload_n 3, 1) := by decide +kernel
theorem dS_canFill_50 : decode cS_canFill 50 = .ok (.iaload, 1) := by decide +kernel
theorem dS_canFill_51 : decode cS_canFill 51 = .ok (.iconst (-1), 1) := by decide +kernel
theorem dS_canFill_52 : decode cS_canFill 52 = .ok (.if_icmp .eq 14, 3) := by decide +kernel
theorem dS_canFill_55 : decode cS_canFill 55 = .ok (.iload 4, 2) := by decide +kernel
theorem dS_canFill_57 : decode cS_canFill 57 = .ok (.aload_n 0, 1) := by decide +kernel
theorem dS_canFill_58 : decode cS_canFill 58 = .ok (.getfield 43, 3) := by decide +kernel
theorem dS_canFill_61 : decode cS_canFill 61 = .ok (.iload_n 3, 1) := by decide +kernel
theorem dS_canFill_62 : decode cS_canFill 62 = .ok (.iaload, 1) := by decide +kernel
theorem dS_canFill_63 : decode cS_canFill 63 = .ok (.if_icmp .gt 7, 3) := by decide +kernel
theorem dS_canFill_66 : decode cS_canFill 66 = .ok (.iconst 1, 1) := by decide +kernel
theorem dS_canFill_67 : decode cS_canFill 67 = .ok (.goto 4, 3) := by decide +kernel
theorem dS_canFill_70 : decode cS_canFill 70 = .ok (.iconst 0, 1) := by decide +kernel
theorem dS_canFill_71 : decode cS_canFill 71 = .ok (.ireturn, 1) := by decide +kernel
theorem dS_anyCanFill_0 : decode cS_anyCanFill 0 = .ok (.iconst 0, 1) := by decide +kernel
theorem dS_anyCanFill_1 : decode cS_anyCanFill 1 = .ok (.istore_n 2, 1) := by decide +kernel
theorem dS_anyCanFill_2 : decode cS_anyCanFill 2 = .ok (.iload_n 2, 1) := by decide +kernel
theorem dS_anyCanFill_3 : decode cS_anyCanFill 3 = .ok (.aload_n 0, 1) := by decide +kernel
theorem dS_anyCanFill_4 : decode cS_anyCanFill 4 = .ok (.getfield 74, 3) := by decide +kernel
theorem dS_anyCanFill_7 : decode cS_anyCanFill 7 = .ok (.if_icmp .ge 20, 3) := by decide +kernel
theorem dS_anyCanFill_10 : decode cS_anyCanFill 10 = .ok (.aload_n 0, 1) := by decide +kernel
theorem dS_anyCanFill_11 : decode cS_anyCanFill 11 = .ok (.iload_n 2, 1) := by decide +kernel
theorem dS_anyCanFill_12 : decode cS_anyCanFill 12 = .ok (.iload_n 1, 1) := by decide +kernel
theorem dS_anyCanFill_13 : decode cS_anyCanFill 13 = .ok (.invokevirtual 178, 3) := by decide +kernel
theorem dS_anyCanFill_16 : decode cS_anyCanFill 16 = .ok (.ifCond .eq 5, 3) := by decide +kernel
theorem dS_anyCanFill_19 : decode cS_anyCanFill 19 = .ok (.iconst 1, 1) := by decide +kernel
theorem dS_anyCanFill_20 : decode cS_anyCanFill 20 = .ok (.ireturn, 1) := by decide +kernel
theorem dS_anyCanFill_21 : decode cS_anyCanFill 21 = .ok (.iinc 2 1, 3) := by decide +kernel
theorem dS_anyCanFill_24 : decode cS_anyCanFill 24 = .ok (.goto (-22), 3) := by decide +kernel
theorem dS_anyCanFill_27 : decode cS_anyCanFill 27 = .ok (.iconst 0, 1) := by decide +kernel
theorem dS_anyCanFill_28 : decode cS_anyCanFill 28 = .ok (.ireturn, 1) := by decide +kernel
theorem dS_isFixed_0 : decode cS_isFixed 0 = .ok (.aload_n 0, 1) := by decide +kernel
theorem dS_isFixed_1 : decode cS_isFixed 1 = .ok (.getfield 17, 3) := by decide +kernel
theorem dS_isFixed_4 : decode cS_isFixed 4 = .ok (.iload_n 1, 1) := by decide +kernel
theorem dS_isFixed_5 : decode cS_isFixed 5 = .ok (.baload, 1) := by decide +kernel
theorem dS_isFixed_6 : decode cS_isFixed 6 = .ok (.ifCond .eq 31, 3) := by decide +kernel
theorem dS_isFixed_9 : decode cS_isFixed 9 = .ok (.aload_n 0, 1) := by decide +kernel
theorem dS_isFixed_10 : decode cS_isFixed 10 = .ok (.getfield 20, 3) := by decide +kernel
theorem dS_isFixed_13 : decode cS_isFixed 13 = .ok (.iload_n 1, 1) := by decide +kernel
theorem dS_isFixed_14 : decode cS_isFixed 14 = .ok (.iaload, 1) := by decide +kernel
theorem dS_isFixed_15 : decode cS_isFixed 15 = .ok (.iconst (-1), 1) := by decide +kernel
theorem dS_isFixed_16 : decode cS_isFixed 16 = .ok (.if_icmp .eq 21, 3) := by decide +kernel
theorem dS_isFixed_19 : decode cS_isFixed 19 = .ok (.aload_n 0, 1) := by decide +kernel
theorem dS_isFixed_20 : decode cS_isFixed 20 = .ok (.iload_n 1, 1) := by decide +kernel
theorem dS_isFixed_21 : decode cS_isFixed 21 = .ok (.aload_n 0, 1) := by decide +kernel
theorem dS_isFixed_22 : decode cS_isFixed 22 = .ok (.getfield 20, 3) := by decide +kernel
theorem dS_isFixed_25 : decode cS_isFixed 25 = .ok (.iload_n 1, 1) := by decide +kernel
theorem dS_isFixed_26 : decode cS_isFixed 26 = .ok (.iaload, 1) := by decide +kernel
theorem dS_isFixed_27 : decode cS_isFixed 27 = .ok (.invokevirtual 178, 3) := by decide +kernel
theorem dS_isFixed_30 : decode cS_isFixed 30 = .ok (.ifCond .eq 7, 3) := by decide +kernel
theorem dS_isFixed_33 : decode cS_isFixed 33 = .ok (.iconst 1, 1) := by decide +kernel
theorem dS_isFixed_34 : decode cS_isFixed 34 = .ok (.goto 4, 3) := by decide +kernel
theorem dS_isFixed_37 : decode cS_isFixed 37 = .ok (.iconst 0, 1) := by decide +kernel
theorem dS_isFixed_38 : decode cS_isFixed 38 = .ok (.ireturn, 1) := by decide +kernel
theorem dS_hasFixedUnit_0 : decode cS_hasFixedUnit 0 = .ok (.aload_n 0, 1) := by decide +kernel
theorem dS_hasFixedUnit_1 : decode cS_hasFixedUnit 1 = .ok (.getfield 40, 3) := by decide +kernel
theorem dS_hasFixedUnit_4 : decode cS_hasFixedUnit 4 = .ok (.iload_n 1, 1) := by decide +kernel
theorem dS_hasFixedUnit_5 : decode cS_hasFixedUnit 5 = .ok (.iaload, 1) := by decide +kernel
theorem dS_hasFixedUnit_6 : decode cS_hasFixedUnit 6 = .ok (.iconst (-1), 1) := by decide +kernel
theorem dS_hasFixedUnit_7 : decode cS_hasFixedUnit 7 = .ok (.if_icmp .eq 20, 3) := by decide +kernel
theorem dS_hasFixedUnit_10 : decode cS_hasFixedUnit 10 = .ok (.aload_n 0, 1) := by decide +kernel
theorem dS_hasFixedUnit_11 : decode cS_hasFixedUnit 11 = .ok (.aload_n 0, 1) := by decide +kernel
theorem dS_hasFixedUnit_12 : decode cS_hasFixedUnit 12 = .ok (.getfield 40, 3) := by decide +kernel
theorem dS_hasFixedUnit_15 : decode cS_hasFixedUnit 15 = .ok (.iload_n 1, 1) := by decide +kernel
theorem dS_hasFixedUnit_16 : decode cS_hasFixedUnit 16 = .ok (.iaload, 1) := by decide +kernel
theorem dS_hasFixedUnit_17 : decode cS_hasFixedUnit 17 = .ok (.invokevirtual 206, 3) := by decide +kernel
theorem dS_hasFixedUnit_20 : decode cS_hasFixedUnit 20 = .ok (.ifCond .eq 7, 3) := by decide +kernel
theorem dS_hasFixedUnit_23 : decode cS_hasFixedUnit 23 = .ok (.iconst 1, 1) := by decide +kernel
theorem dS_hasFixedUnit_24 : decode cS_hasFixedUnit 24 = .ok (.goto 4, 3) := by decide +kernel
theorem dS_hasFixedUnit_27 : decode cS_hasFixedUnit 27 = .ok (.iconst 0, 1) := by decide +kernel
theorem dS_hasFixedUnit_28 : decode cS_hasFixedUnit 28 = .ok (.ireturn, 1) := by decide +kernel
theorem dS_ranksLacking_0 : decode cS_ranksLacking 0 = .ok (.aload_n 0, 1) := by decide +kernel
theorem dS_ranksLacking_1 : decode cS_ranksLacking 1 = .ok (.getfield 40, 3) := by decide +kernel
theorem dS_ranksLacking_4 : decode cS_ranksLacking 4 = .ok (.iload_n 1, 1) := by decide +kernel
theorem dS_ranksLacking_5 : decode cS_ranksLacking 5 = .ok (.iaload, 1) := by decide +kernel
theorem dS_ranksLacking_6 : decode cS_ranksLacking 6 = .ok (.iconst (-1), 1) := by decide +kernel
theorem dS_ranksLacking_7 : decode cS_ranksLacking 7 = .ok (.if_icmp .ne 11, 3) := by decide +kernel
theorem dS_ranksLacking_10 : decode cS_ranksLacking 10 = .ok (.aload_n 0, 1) := by decide +kernel
theorem dS_ranksLacking_11 : decode cS_ranksLacking 11 = .ok (.iload_n 1, 1) := by decide +kernel
theorem dS_ranksLacking_12 : decode cS_ranksLacking 12 = .ok (.invokevirtual 209, 3) := by decide +kernel
theorem dS_ranksLacking_15 : decode cS_ranksLacking 15 = .ok (.goto 4, 3) := by decide +kernel
theorem dS_ranksLacking_18 : decode cS_ranksLacking 18 = .ok (.iconst 0, 1) := by decide +kernel
theorem dS_ranksLacking_19 : decode cS_ranksLacking 19 = .ok (.ireturn, 1) := by decide +kernel
theorem dS_weightedSeconds_0 : decode cS_weightedSeconds 0 = .ok (.aload_n 0, 1) := by decide +kernel
theorem dS_weightedSeconds_1 : decode cS_weightedSeconds 1 = .ok (.getfield 40, 3) := by decide +kernel
theorem dS_weightedSeconds_4 : decode cS_weightedSeconds 4 = .ok (.iload_n 1, 1) := by decide +kernel
theorem dS_weightedSeconds_5 : decode cS_weightedSeconds 5 = .ok (.iaload, 1) := by decide +kernel
theorem dS_weightedSeconds_6 : decode cS_weightedSeconds 6 = .ok (.iconst (-1), 1) := by decide +kernel
theorem dS_weightedSeconds_7 : decode cS_weightedSeconds 7 = .ok (.if_icmp .ne 7, 3) := by decide +kernel
theorem dS_weightedSeconds_10 : decode cS_weightedSeconds 10 = .ok (.iconst 0, 1) := by decide +kernel
theorem dS_weightedSeconds_11 : decode cS_weightedSeconds 11 = .ok (.goto 24, 3) := by decide +kernel
theorem dS_weightedSeconds_14 : decode cS_weightedSeconds 14 = .ok (.aload_n 0, 1) := by decide +kernel
theorem dS_weightedSeconds_15 : decode cS_weightedSeconds 15 = .ok (.iload_n 1, 1) := by decide +kernel
theorem dS_weightedSeconds_16 : decode cS_weightedSeconds 16 = .ok (.invokevirtual 209, 3) := by decide +kernel
theorem dS_weightedSeconds_19 : decode cS_weightedSeconds 19 = .ok (.aload_n 0, 1) := by decide +kernel
theorem dS_weightedSeconds_20 : decode cS_weightedSeconds 20 = .ok (.aload_n 0, 1) := by decide +kernel
theorem dS_weightedSeconds_21 : decode cS_weightedSeconds 21 = .ok (.getfield 40, 3) := by decide +kernel
theorem dS_weightedSeconds_24 : decode cS_weightedSeconds 24 = .ok (.iload_n 1, 1) := by decide +kernel
theorem dS_weightedSeconds_25 : decode cS_weightedSeconds 25 = .ok (.iaload, 1) := by decide +kernel
theorem dS_weightedSeconds_26 : decode cS_weightedSeconds 26 = .ok (.iload_n 1, 1) := by decide +kernel
theorem dS_weightedSeconds_27 : decode cS_weightedSeconds 27 = .ok (.invokevirtual 181, 3) := by decide +kernel
theorem dS_weightedSeconds_30 : decode cS_weightedSeconds 30 = .ok (.iconst 0, 1) := by decide +kernel
theorem dS_weightedSeconds_31 : decode cS_weightedSeconds 31 = .ok (.invokestatic 138, 3) := by decide +kernel
theorem dS_weightedSeconds_34 : decode cS_weightedSeconds 34 = .ok (.imul, 1) := by decide +kernel
theorem dS_weightedSeconds_35 : decode cS_weightedSeconds 35 = .ok (.ireturn, 1) := by decide +kernel
theorem dS_countFilled_0 : decode cS_countFilled 0 = .ok (.iconst 0, 1) := by decide +kernel
theorem dS_countFilled_1 : decode cS_countFilled 1 = .ok (.istore_n 1, 1) := by decide +kernel
theorem dS_countFilled_2 : decode cS_countFilled 2 = .ok (.iconst 0, 1) := by decide +kernel
theorem dS_countFilled_3 : decode cS_countFilled 3 = .ok (.istore_n 2, 1) := by decide +kernel
theorem dS_countFilled_4 : decode cS_countFilled 4 = .ok (.iload_n 2, 1) := by decide +kernel
theorem dS_countFilled_5 : decode cS_countFilled 5 = .ok (.aload_n 0, 1) := by decide +kernel
theorem dS_countFilled_6 : decode cS_countFilled 6 = .ok (.getfield 102, 3) := by decide +kernel
theorem dS_countFilled_9 : decode cS_countFilled 9 = .ok (.if_icmp .ge 22, 3) := by decide +kernel
theorem dS_countFilled_12 : decode cS_countFilled 12 = .ok (.aload_n 0, 1) := by decide +kernel
theorem dS_countFilled_13 : decode cS_countFilled 13 = .ok (.getfield 40, 3) := by decide +kernel
theorem dS_countFilled_16 : decode cS_countFilled 16 = .ok (.iload_n 2, 1) := by decide +kernel
theorem dS_countFilled_17 : decode cS_countFilled 17 = .ok (.iaload, 1) := by decide +kernel
theorem dS_countFilled_18 : decode cS_countFilled 18 = .ok (.iconst (-1), 1) := by decide +kernel
theorem dS_countFilled_19 : decode cS_countFilled 19 = .ok (.if_icmp .eq 6, 3) := by decide +kernel
theorem dS_countFilled_22 : decode cS_countFilled 22 = .ok (.iinc 1 1, 3) := by decide +kernel
theorem dS_countFilled_25 : decode cS_countFilled 25 = .ok (.iinc 2 1, 3) := by decide +kernel
theorem dS_countFilled_28 : decode cS_countFilled 28 = .ok (.goto (-24), 3) := by decide +kernel
theorem dS_countFilled_31 : decode cS_countFilled 31 = .ok (.iload_n 1, 1) := by decide +kernel
theorem dS_countFilled_32 : decode cS_countFilled 32 = .ok (.ireturn, 1) := by decide +kernel
theorem dS_free_0 : decode cS_free 0 = .ok (.aload_n 0, 1) := by decide +kernel
theorem dS_free_1 : decode cS_free 1 = .ok (.getfield 20, 3) := by decide +kernel
theorem dS_free_4 : decode cS_free 4 = .ok (.iload_n 1, 1) := by decide +kernel
theorem dS_free_5 : decode cS_free 5 = .ok (.iaload, 1) := by decide +kernel
theorem dS_free_6 : decode cS_free 6 = .ok (.iconst (-1), 1) := by decide +kernel
theorem dS_free_7 : decode cS_free 7 = .ok (.if_icmp .eq 15, 3) := by decide +kernel
theorem dS_free_10 : decode cS_free 10 = .ok (.aload_n 0, 1) := by decide +kernel
theorem dS_free_11 : decode cS_free 11 = .ok (.getfield 40, 3) := by decide +kernel
theorem dS_free_14 : decode cS_free 14 = .ok (.aload_n 0, 1) := by decide +kernel
