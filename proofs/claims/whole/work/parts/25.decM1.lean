theorem dM_init_0 : decode cM_init 0 = .ok (.aload_n 0, 1) := by decide +kernel
theorem dM_init_1 : decode cM_init 1 = .ok (.invokespecial 1, 3) := by decide +kernel
theorem dM_init_4 : decode cM_init 4 = .ok (.aload_n 0, 1) := by decide +kernel
theorem dM_init_5 : decode cM_init 5 = .ok (.bipush 12, 2) := by decide +kernel
theorem dM_init_7 : decode cM_init 7 = .ok (.newarray .int, 2) := by decide +kernel
theorem dM_init_9 : decode cM_init 9 = .ok (.putfield 7, 3) := by decide +kernel
theorem dM_init_12 : decode cM_init 12 = .ok (.aload_n 0, 1) := by decide +kernel
theorem dM_init_13 : decode cM_init 13 = .ok (.bipush 12, 2) := by decide +kernel
theorem dM_init_15 : decode cM_init 15 = .ok (.newarray .boolean, 2) := by decide +kernel
theorem dM_init_17 : decode cM_init 17 = .ok (.putfield 13, 3) := by decide +kernel
theorem dM_init_20 : decode cM_init 20 = .ok (.aload_n 0, 1) := by decide +kernel
theorem dM_init_21 : decode cM_init 21 = .ok (.bipush 72, 2) := by decide +kernel
theorem dM_init_23 : decode cM_init 23 = .ok (.newarray .int, 2) := by decide +kernel
theorem dM_init_25 : decode cM_init 25 = .ok (.putfield 17, 3) := by decide +kernel
theorem dM_init_28 : decode cM_init 28 = .ok (.aload_n 0, 1) := by decide +kernel
theorem dM_init_29 : decode cM_init 29 = .ok (.bipush 6, 2) := by decide +kernel
theorem dM_init_31 : decode cM_init 31 = .ok (.newarray .int, 2) := by decide +kernel
theorem dM_init_33 : decode cM_init 33 = .ok (.putfield 20, 3) := by decide +kernel
theorem dM_init_36 : decode cM_init 36 = .ok (.aload_n 0, 1) := by decide +kernel
theorem dM_init_37 : decode cM_init 37 = .ok (.bipush 6, 2) := by decide +kernel
theorem dM_init_39 : decode cM_init 39 = .ok (.newarray .boolean, 2) := by decide +kernel
theorem dM_init_41 : decode cM_init 41 = .ok (.putfield 23, 3) := by decide +kernel
theorem dM_init_44 : decode cM_init 44 = .ok (.aload_n 0, 1) := by decide +kernel
theorem dM_init_45 : decode cM_init 45 = .ok (.bipush 10, 2) := by decide +kernel
theorem dM_init_47 : decode cM_init 47 = .ok (.newarray .int, 2) := by decide +kernel
theorem dM_init_49 : decode cM_init 49 = .ok (.putfield 26, 3) := by decide +kernel
theorem dM_init_52 : decode cM_init 52 = .ok (.aload_n 0, 1) := by decide +kernel
theorem dM_init_53 : decode cM_init 53 = .ok (.bipush 10, 2) := by decide +kernel
theorem dM_init_55 : decode cM_init 55 = .ok (.newarray .int, 2) := by decide +kernel
theorem dM_init_57 : decode cM_init 57 = .ok (.putfield 29, 3) := by decide +kernel
theorem dM_init_60 : decode cM_init 60 = .ok (.aload_n 0, 1) := by decide +kernel
theorem dM_init_61 : decode cM_init 61 = .ok (.bipush 10, 2) := by decide +kernel
theorem dM_init_63 : decode cM_init 63 = .ok (.newarray .int, 2) := by decide +kernel
theorem dM_init_65 : decode cM_init 65 = .ok (.putfield 32, 3) := by decide +kernel
theorem dM_init_68 : decode cM_init 68 = .ok (.aload_n 0, 1) := by decide +kernel
theorem dM_init_69 : decode cM_init 69 = .ok (.bipush 10, 2) := by decide +kernel
theorem dM_init_71 : decode cM_init 71 = .ok (.newarray .boolean, 2) := by decide +kernel
theorem dM_init_73 : decode cM_init 73 = .ok (.putfield 35, 3) := by decide +kernel
theorem dM_init_76 : decode cM_init 76 = .ok (.aload_n 0, 1) := by decide +kernel
theorem dM_init_77 : decode cM_init 77 = .ok (.bipush 16, 2) := by decide +kernel
theorem dM_init_79 : decode cM_init 79 = .ok (.newarray .int, 2) := by decide +kernel
theorem dM_init_81 : decode cM_init 81 = .ok (.putfield 38, 3) := by decide +kernel
theorem dM_init_84 : decode cM_init 84 = .ok (.aload_n 0, 1) := by decide +kernel
theorem dM_init_85 : decode cM_init 85 = .ok (.bipush 10, 2) := by decide +kernel
theorem dM_init_87 : decode cM_init 87 = .ok (.putfield 41, 3) := by decide +kernel
theorem dM_init_90 : decode cM_init 90 = .ok (.aload_n 0, 1) := by decide +kernel
theorem dM_init_91 : decode cM_init 91 = .ok (.bipush 10, 2) := by decide +kernel
theorem dM_init_93 : decode cM_init 93 = .ok (.newarray .int, 2) := by decide +kernel
theorem dM_init_95 : decode cM_init 95 = .ok (.putfield 45, 3) := by decide +kernel
theorem dM_init_98 : decode cM_init 98 = .ok (.aload_n 0, 1) := by decide +kernel
theorem dM_init_99 : decode cM_init 99 = .ok (.ldc 48, 2) := by decide +kernel
theorem dM_init_101 : decode cM_init 101 = .ok (.newarray .long, 2) := by decide +kernel
theorem dM_init_103 : decode cM_init 103 = .ok (.putfield 49, 3) := by decide +kernel
theorem dM_init_106 : decode cM_init 106 = .ok (.iconst 0, 1) := by decide +kernel
theorem dM_init_107 : decode cM_init 107 = .ok (.istore_n 1, 1) := by decide +kernel
theorem dM_init_108 : decode cM_init 108 = .ok (.iload_n 1, 1) := by decide +kernel
theorem dM_init_109 : decode cM_init 109 = .ok (.bipush 72, 2) := by decide +kernel
theorem dM_init_111 : decode cM_init 111 = .ok (.if_icmp .ge 16, 3) := by decide +kernel
theorem dM_init_114 : decode cM_init 114 = .ok (.aload_n 0, 1) := by decide +kernel
theorem dM_init_115 : decode cM_init 115 = .ok (.getfield 17, 3) := by decide +kernel
theorem dM_init_118 : decode cM_init 118 = .ok (.iload_n 1, 1) := by decide +kernel
theorem dM_init_119 : decode cM_init 119 = .ok (.iconst (-1), 1) := by decide +kernel
theorem dM_init_120 : decode cM_init 120 = .ok (.iastore, 1) := by decide +kernel
theorem dM_init_121 : decode cM_init 121 = .ok (.iinc 1 1, 3) := by decide +kernel
theorem dM_init_124 : decode cM_init 124 = .ok (.goto (-16), 3) := by decide +kernel
theorem dM_init_127 : decode cM_init 127 = .ok (.iconst 0, 1) := by decide +kernel
theorem dM_init_128 : decode cM_init 128 = .ok (.istore_n 1, 1) := by decide +kernel
theorem dM_init_129 : decode cM_init 129 = .ok (.iload_n 1, 1) := by decide +kernel
theorem dM_init_130 : decode cM_init 130 = .ok (.bipush 16, 2) := by decide +kernel
theorem dM_init_132 : decode cM_init 132 = .ok (.if_icmp .ge 16, 3) := by decide +kernel
theorem dM_init_135 : decode cM_init 135 = .ok (.aload_n 0, 1) := by decide +kernel
theorem dM_init_136 : decode cM_init 136 = .ok (.getfield 38, 3) := by decide +kernel
theorem dM_init_139 : decode cM_init 139 = .ok (.iload_n 1, 1) := by decide +kernel
theorem dM_init_140 : decode cM_init 140 = .ok (.iconst (-1), 1) := by decide +kernel
theorem dM_init_141 : decode cM_init 141 = .ok (.iastore, 1) := by decide +kernel
theorem dM_init_142 : decode cM_init 142 = .ok (.iinc 1 1, 3) := by decide +kernel
theorem dM_init_145 : decode cM_init 145 = .ok (.goto (-16), 3) := by decide +kernel
theorem dM_init_148 : decode cM_init 148 = .ok (.return_, 1) := by decide +kernel
theorem dM_thrown_0 : decode cM_thrown 0 = .ok (.aload_n 0, 1) := by decide +kernel
theorem dM_thrown_1 : decode cM_thrown 1 = .ok (.getfield 53, 3) := by decide +kernel
theorem dM_thrown_4 : decode cM_thrown 4 = .ok (.ireturn, 1) := by decide +kernel
theorem dM_throwing_0 : decode cM_throwing 0 = .ok (.aload_n 0, 1) := by decide +kernel
theorem dM_throwing_1 : decode cM_throwing 1 = .ok (.iload_n 1, 1) := by decide +kernel
theorem dM_throwing_2 : decode cM_throwing 2 = .ok (.ifCond .eq 7, 3) := by decide +kernel
theorem dM_throwing_5 : decode cM_throwing 5 = .ok (.iconst 1, 1) := by decide +kernel
theorem dM_throwing_6 : decode cM_throwing 6 = .ok (.goto 29, 3) := by decide +kernel
theorem dM_throwing_9 : decode cM_throwing 9 = .ok (.iload_n 2, 1) := by decide +kernel
theorem dM_throwing_10 : decode cM_throwing 10 = .ok (.ifCond .eq 7, 3) := by decide +kernel
theorem dM_throwing_13 : decode cM_throwing 13 = .ok (.iconst 2, 1) := by decide +kernel
theorem dM_throwing_14 : decode cM_throwing 14 = .ok (.goto 21, 3) := by decide +kernel
theorem dM_throwing_17 : decode cM_throwing 17 = .ok (.iload_n 3, 1) := by decide +kernel
theorem dM_throwing_18 : decode cM_throwing 18 = .ok (.ifCond .eq 7, 3) := by decide +kernel
theorem dM_throwing_21 : decode cM_throwing 21 = .ok (.iconst 3, 1) := by decide +kernel
theorem dM_throwing_22 : decode cM_throwing 22 = .ok (.goto 13, 3) := by decide +kernel
theorem dM_throwing_25 : decode cM_throwing 25 = .ok (.iload 4, 2) := by decide +kernel
theorem dM_throwing_27 : decode cM_throwing 27 = .ok (.ifCond .eq 7, 3) := by decide +kernel
theorem dM_throwing_30 : decode cM_throwing 30 = .ok (.iconst 4, 1) := by decide +kernel
theorem dM_throwing_31 : decode cM_throwing 31 = .ok (.goto 4, 3) := by decide +kernel
theorem dM_throwing_34 : decode cM_throwing 34 = .ok (.iconst 0, 1) := by decide +kernel
theorem dM_throwing_35 : decode cM_throwing 35 = .ok (.putfield 53, 3) := by decide +kernel
theorem dM_throwing_38 : decode cM_throwing 38 = .ok (.aload_n 0, 1) := by decide +kernel
theorem dM_throwing_39 : decode cM_throwing 39 = .ok (.getfield 53, 3) := by decide +kernel
theorem dM_throwing_42 : decode cM_throwing 42 = .ok (.ifCond .le 7, 3) := by decide +kernel
theorem dM_throwing_45 : decode cM_throwing 45 = .ok (.iconst 1, 1) := by decide +kernel
theorem dM_throwing_46 : decode cM_throwing 46 = .ok (.goto 4, 3) := by decide +kernel
theorem dM_throwing_49 : decode cM_throwing 49 = .ok (.iconst 0, 1) := by decide +kernel
theorem dM_throwing_50 : decode cM_throwing 50 = .ok (.ireturn, 1) := by decide +kernel
theorem dM_in_0 : decode cM_in 0 = .ok (.iload_n 0, 1) := by decide +kernel
theorem dM_in_1 : decode cM_in 1 = .ok (.iload_n 1, 1) := by decide +kernel
theorem dM_in_2 : decode cM_in 2 = .ok (.if_icmp .lt 12, 3) := by decide +kernel
theorem dM_in_5 : decode cM_in 5 = .ok (.iload_n 0, 1) := by decide +kernel
theorem dM_in_6 : decode cM_in 6 = .ok (.iload_n 2, 1) := by decide +kernel
theorem dM_in_7 : decode cM_in 7 = .ok (.if_icmp .gt 7, 3) := by decide +kernel
theorem dM_in_10 : decode cM_in 10 = .ok (.iconst 1, 1) := by decide +kernel
theorem dM_in_11 : decode cM_in 11 = .ok (.goto 4, 3) := by decide +kernel
theorem dM_in_14 : decode cM_in 14 = .ok (.iconst 0, 1) := by decide +kernel
theorem dM_in_15 : decode cM_in 15 = .ok (.ireturn, 1) := by decide +kernel
theorem dM_isUnit_0 : decode cM_isUnit 0 = .ok (.iload_n 1, 1) := by decide +kernel
theorem dM_isUnit_1 : decode cM_isUnit 1 = .ok (.iconst 0, 1) := by decide +kernel
theorem dM_isUnit_2 : decode cM_isUnit 2 = .ok (.aload_n 0, 1) := by decide +kernel
theorem dM_isUnit_3 : decode cM_isUnit 3 = .ok (.getfield 56, 3) := by decide +kernel
theorem dM_isUnit_6 : decode cM_isUnit 6 = .ok (.iconst 1, 1) := by decide +kernel
theorem dM_isUnit_7 : decode cM_isUnit 7 = .ok (.isub, 1) := by decide +kernel
theorem dM_isUnit_8 : decode cM_isUnit 8 = .ok (.invokestatic 59, 3) := by decide +kernel
theorem dM_isUnit_11 : decode cM_isUnit 11 = .ok (.ireturn, 1) := by decide +kernel
theorem dM_isIncident_0 : decode cM_isIncident 0 = .ok (.iload_n 1, 1) := by decide +kernel
theorem dM_isIncident_1 : decode cM_isIncident 1 = .ok (.iconst 0, 1) := by decide +kernel
theorem dM_isIncident_2 : decode cM_isIncident 2 = .ok (.aload_n 0, 1) := by decide +kernel
theorem dM_isIncident_3 : decode cM_isIncident 3 = .ok (.getfield 63, 3) := by decide +kernel
theorem dM_isIncident_6 : decode cM_isIncident 6 = .ok (.iconst 1, 1) := by decide +kernel
theorem dM_isIncident_7 : decode cM_isIncident 7 = .ok (.isub, 1) := by decide +kernel
theorem dM_isIncident_8 : decode cM_isIncident 8 = .ok (.invokestatic 59, 3) := by decide +kernel
theorem dM_isIncident_11 : decode cM_isIncident 11 = .ok (.ireturn, 1) := by decide +kernel
theorem dM_unit_0 : decode cM_unit 0 = .ok (.aload_n 0, 1) := by decide +kernel
theorem dM_unit_1 : decode cM_unit 1 = .ok (.iload_n 1, 1) := by decide +kernel
theorem dM_unit_2 : decode cM_unit 2 = .ok (.iconst 0, 1) := by decide +kernel
theorem dM_unit_3 : decode cM_unit 3 = .ok (.ldc 66, 2) := by decide +kernel
theorem dM_unit_5 : decode cM_unit 5 = .ok (.invokestatic 59, 3) := by decide +kernel
theorem dM_unit_8 : decode cM_unit 8 = .ok (.ifCond .ne 7, 3) := by decide +kernel
theorem dM_unit_11 : decode cM_unit 11 = .ok (.iconst 1, 1) := by decide +kernel
theorem dM_unit_12 : decode cM_unit 12 = .ok (.goto 4, 3) := by decide +kernel
theorem dM_unit_15 : decode cM_unit 15 = .ok (.iconst 0, 1) := by decide +kernel
theorem dM_unit_16 : decode cM_unit 16 = .ok (.aload_n 0, 1) := by decide +kernel
theorem dM_unit_17 : decode cM_unit 17 = .ok (.getfield 56, 3) := by decide +kernel
theorem dM_unit_20 : decode cM_unit 20 = .ok (.bipush 12, 2) := by decide +kernel
theorem dM_unit_22 : decode cM_unit 22 = .ok (.if_icmp .ne 7, 3) := by decide +kernel
theorem dM_unit_25 : decode cM_unit 25 = .ok (.iconst 1, 1) := by decide +kernel
theorem dM_unit_26 : decode cM_unit 26 = .ok (.goto 4, 3) := by decide +kernel
theorem dM_unit_29 : decode cM_unit 29 = .ok (.iconst 0, 1) := by decide +kernel
theorem dM_unit_30 : decode cM_unit 30 = .ok (.iconst 0, 1) := by decide +kernel
theorem dM_unit_31 : decode cM_unit 31 = .ok (.iconst 0, 1) := by decide +kernel
theorem dM_unit_32 : decode cM_unit 32 = .ok (.invokevirtual 67, 3) := by decide +kernel
theorem dM_unit_35 : decode cM_unit 35 = .ok (.ifCond .eq 5, 3) := by decide +kernel
theorem dM_unit_38 : decode cM_unit 38 = .ok (.iconst 0, 1) := by decide +kernel
theorem dM_unit_39 : decode cM_unit 39 = .ok (.ireturn, 1) := by decide +kernel
theorem dM_unit_40 : decode cM_unit 40 = .ok (.aload_n 0, 1) := by decide +kernel
theorem dM_unit_41 : decode cM_unit 41 = .ok (.getfield 7, 3) := by decide +kernel
theorem dM_unit_44 : decode cM_unit 44 = .ok (.aload_n 0, 1) := by decide +kernel
theorem dM_unit_45 : decode cM_unit 45 = .ok (.getfield 56, 3) := by decide +kernel
theorem dM_unit_48 : decode cM_unit 48 = .ok (.iload_n 1, 1) := by decide +kernel
theorem dM_unit_49 : decode cM_unit 49 = .ok (.iastore, 1) := by decide +kernel
theorem dM_unit_50 : decode cM_unit 50 = .ok (.aload_n 0, 1) := by decide +kernel
theorem dM_unit_51 : decode cM_unit 51 = .ok (.dup, 1) := by decide +kernel
theorem dM_unit_52 : decode cM_unit 52 = .ok (.getfield 56, 3) := by decide +kernel
theorem dM_unit_55 : decode cM_unit 55 = .ok (.iconst 1, 1) := by decide +kernel
theorem dM_unit_56 : decode cM_unit 56 = .ok (.iadd, 1) := by decide +kernel
theorem dM_unit_57 : decode cM_unit 57 = .ok (.putfield 56, 3) := by decide +kernel
theorem dM_unit_60 : decode cM_unit 60 = .ok (.aload_n 0, 1) := by decide +kernel
theorem dM_unit_61 : decode cM_unit 61 = .ok (.getfield 56, 3) := by decide +kernel
theorem dM_unit_64 : decode cM_unit 64 = .ok (.iconst 1, 1) := by decide +kernel
theorem dM_unit_65 : decode cM_unit 65 = .ok (.isub, 1) := by decide +kernel
theorem dM_unit_66 : decode cM_unit 66 = .ok (.ireturn, 1) := by decide +kernel
theorem dM_incident_0 : decode cM_incident 0 = .ok (.aload_n 0, 1) := by decide +kernel
theorem dM_incident_1 : decode cM_incident 1 = .ok (.iload_n 1, 1) := by decide +kernel
theorem dM_incident_2 : decode cM_incident 2 = .ok (.iconst 1, 1) := by decide +kernel
theorem dM_incident_3 : decode cM_incident 3 = .ok (.bipush 9, 2) := by decide +kernel
theorem dM_incident_5 : decode cM_incident 5 = .ok (.invokestatic 59, 3) := by decide +kernel
theorem dM_incident_8 : decode cM_incident 8 = .ok (.ifCond .ne 7, 3) := by decide +kernel
theorem dM_incident_11 : decode cM_incident 11 = .ok (.iconst 1, 1) := by decide +kernel
theorem dM_incident_12 : decode cM_incident 12 = .ok (.goto 4, 3) := by decide +kernel
theorem dM_incident_15 : decode cM_incident 15 = .ok (.iconst 0, 1) := by decide +kernel
theorem dM_incident_16 : decode cM_incident 16 = .ok (.aload_n 0, 1) := by decide +kernel
theorem dM_incident_17 : decode cM_incident 17 = .ok (.getfield 63, 3) := by decide +kernel
theorem dM_incident_20 : decode cM_incident 20 = .ok (.bipush 6, 2) := by decide +kernel
theorem dM_incident_22 : decode cM_incident 22 = .ok (.if_icmp .ne 7, 3) := by decide +kernel
theorem dM_incident_25 : decode cM_incident 25 = .ok (.iconst 1, 1) := by decide +kernel
theorem dM_incident_26 : decode cM_incident 26 = .ok (.goto 4, 3) := by decide +kernel
theorem dM_incident_29 : decode cM_incident 29 = .ok (.iconst 0, 1) := by decide +kernel
theorem dM_incident_30 : decode cM_incident 30 = .ok (.iconst 0, 1) := by decide +kernel
theorem dM_incident_31 : decode cM_incident 31 = .ok (.iconst 0, 1) := by decide +kernel
theorem dM_incident_32 : decode cM_incident 32 = .ok (.invokevirtual 67, 3) := by decide +kernel
theorem dM_incident_35 : decode cM_incident 35 = .ok (.ifCond .eq 5, 3) := by decide +kernel
theorem dM_incident_38 : decode cM_incident 38 = .ok (.iconst 0, 1) := by decide +kernel
theorem dM_incident_39 : decode cM_incident 39 = .ok (.ireturn, 1) := by decide +kernel
theorem dM_incident_40 : decode cM_incident 40 = .ok (.aload_n 0, 1) := by decide +kernel
theorem dM_incident_41 : decode cM_incident 41 = .ok (.getfield 20, 3) := by decide +kernel
theorem dM_incident_44 : decode cM_incident 44 = .ok (.aload_n 0, 1) := by decide +kernel
theorem dM_incident_45 : decode cM_incident 45 = .ok (.getfield 63, 3) := by decide +kernel
theorem dM_incident_48 : decode cM_incident 48 = .ok (.iload_n 1, 1) := by decide +kernel
theorem dM_incident_49 : decode cM_incident 49 = .ok (.iastore, 1) := by decide +kernel
theorem dM_incident_50 : decode cM_incident 50 = .ok (.aload_n 0, 1) := by decide +kernel
theorem dM_incident_51 : decode cM_incident 51 = .ok (.dup, 1) := by decide +kernel
theorem dM_incident_52 : decode cM_incident 52 = .ok (.getfield 63, 3) := by decide +kernel
theorem dM_incident_55 : decode cM_incident 55 = .ok (.iconst 1, 1) := by decide +kernel
theorem dM_incident_56 : decode cM_incident 56 = .ok (.iadd, 1) := by decide +kernel
theorem dM_incident_57 : decode cM_incident 57 = .ok (.putfield 63, 3) := by decide +kernel
theorem dM_incident_60 : decode cM_incident 60 = .ok (.aload_n 0, 1) := by decide +kernel
theorem dM_incident_61 : decode cM_incident 61 = .ok (.getfield 63, 3) := by decide +kernel
theorem dM_incident_64 : decode cM_incident 64 = .ok (.iconst 1, 1) := by decide +kernel
theorem dM_incident_65 : decode cM_incident 65 = .ok (.isub, 1) := by decide +kernel
theorem dM_incident_66 : decode cM_incident 66 = .ok (.ireturn, 1) := by decide +kernel
theorem dM_rank_0 : decode cM_rank 0 = .ok (.aload_n 0, 1) := by decide +kernel
theorem dM_rank_1 : decode cM_rank 1 = .ok (.iload_n 1, 1) := by decide +kernel
theorem dM_rank_2 : decode cM_rank 2 = .ok (.invokevirtual 71, 3) := by decide +kernel
theorem dM_rank_5 : decode cM_rank 5 = .ok (.ifCond .ne 7, 3) := by decide +kernel
theorem dM_rank_8 : decode cM_rank 8 = .ok (.iconst 1, 1) := by decide +kernel
theorem dM_rank_9 : decode cM_rank 9 = .ok (.goto 4, 3) := by decide +kernel
theorem dM_rank_12 : decode cM_rank 12 = .ok (.iconst 0, 1) := by decide +kernel
theorem dM_rank_13 : decode cM_rank 13 = .ok (.istore_n 3, 1) := by decide +kernel
theorem dM_rank_14 : decode cM_rank 14 = .ok (.aload_n 0, 1) := by decide +kernel
theorem dM_rank_15 : decode cM_rank 15 = .ok (.iload_n 3, 1) := by decide +kernel
theorem dM_rank_16 : decode cM_rank 16 = .ok (.iload_n 2, 1) := by decide +kernel
theorem dM_rank_17 : decode cM_rank 17 = .ok (.iconst 1, 1) := by decide +kernel
theorem dM_rank_18 : decode cM_rank 18 = .ok (.bipush 9, 2) := by decide +kernel
theorem dM_rank_20 : decode cM_rank 20 = .ok (.invokestatic 59, 3) := by decide +kernel
theorem dM_rank_23 : decode cM_rank 23 = .ok (.ifCond .ne 7, 3) := by decide +kernel
theorem dM_rank_26 : decode cM_rank 26 = .ok (.iconst 1, 1) := by decide +kernel
theorem dM_rank_27 : decode cM_rank 27 = .ok (.goto 4, 3) := by decide +kernel
theorem dM_rank_30 : decode cM_rank 30 = .ok (.iconst 0, 1) := by decide +kernel
theorem dM_rank_31 : decode cM_rank 31 = .ok (.iload_n 3, 1) := by decide +kernel
theorem dM_rank_32 : decode cM_rank 32 = .ok (.ifCond .ne 16, 3) := by decide +kernel
theorem dM_rank_35 : decode cM_rank 35 = .ok (.aload_n 0, 1) := by decide +kernel
theorem dM_rank_36 : decode cM_rank 36 = .ok (.getfield 23, 3) := by decide +kernel
theorem dM_rank_39 : decode cM_rank 39 = .ok (.iload_n 1, 1) := by decide +kernel
theorem dM_rank_40 : decode cM_rank 40 = .ok (.baload, 1) := by decide +kernel
theorem dM_rank_41 : decode cM_rank 41 = .ok (.ifCond .eq 7, 3) := by decide +kernel
theorem dM_rank_44 : decode cM_rank 44 = .ok (.iconst 1, 1) := by decide +kernel
theorem dM_rank_45 : decode cM_rank 45 = .ok (.goto 4, 3) := by decide +kernel
theorem dM_rank_48 : decode cM_rank 48 = .ok (.iconst 0, 1) := by decide +kernel
theorem dM_rank_49 : decode cM_rank 49 = .ok (.iconst 0, 1) := by decide +kernel
theorem dM_rank_50 : decode cM_rank 50 = .ok (.invokevirtual 67, 3) := by decide +kernel
theorem dM_rank_53 : decode cM_rank 53 = .ok (.ifCond .eq 4, 3) := by decide +kernel
theorem dM_rank_56 : decode cM_rank 56 = .ok (.return_, 1) := by decide +kernel
theorem dM_rank_57 : decode cM_rank 57 = .ok (.aload_n 0, 1) := by decide +kernel
theorem dM_rank_58 : decode cM_rank 58 = .ok (.getfield 20, 3) := by decide +kernel
theorem dM_rank_61 : decode cM_rank 61 = .ok (.iload_n 1, 1) := by decide +kernel
theorem dM_rank_62 : decode cM_rank 62 = .ok (.iload_n 2, 1) := by decide +kernel
theorem dM_rank_63 : decode cM_rank 63 = .ok (.iastore, 1) := by decide +kernel
theorem dM_rank_64 : decode cM_rank 64 = .ok (.return_, 1) := by decide +kernel
theorem dM_need_0 : decode cM_need 0 = .ok (.aload_n 0, 1) := by decide +kernel
theorem dM_need_1 : decode cM_need 1 = .ok (.iload_n 1, 1) := by decide +kernel
theorem dM_need_2 : decode cM_need 2 = .ok (.invokevirtual 71, 3) := by decide +kernel
theorem dM_need_5 : decode cM_need 5 = .ok (.ifCond .eq 13, 3) := by decide +kernel
theorem dM_need_8 : decode cM_need 8 = .ok (.iload_n 2, 1) := by decide +kernel
theorem dM_need_9 : decode cM_need 9 = .ok (.iconst 0, 1) := by decide +kernel
theorem dM_need_10 : decode cM_need 10 = .ok (.bipush 15, 2) := by decide +kernel
theorem dM_need_12 : decode cM_need 12 = .ok (.invokestatic 59, 3) := by decide +kernel
theorem dM_need_15 : decode cM_need 15 = .ok (.ifCond .ne 7, 3) := by decide +kernel
theorem dM_need_18 : decode cM_need 18 = .ok (.iconst 1, 1) := by decide +kernel
theorem dM_need_19 : decode cM_need 19 = .ok (.goto 4, 3) := by decide +kernel
theorem dM_need_22 : decode cM_need 22 = .ok (.iconst 0, 1) := by decide +kernel
theorem dM_need_23 : decode cM_need 23 = .ok (.istore 4, 2) := by decide +kernel
theorem dM_need_25 : decode cM_need 25 = .ok (.iload_n 3, 1) := by decide +kernel
theorem dM_need_26 : decode cM_need 26 = .ok (.iconst 0, 1) := by decide +kernel
theorem dM_need_27 : decode cM_need 27 = .ok (.bipush 10, 2) := by decide +kernel
theorem dM_need_29 : decode cM_need 29 = .ok (.invokestatic 59, 3) := by decide +kernel
theorem dM_need_32 : decode cM_need 32 = .ok (.ifCond .ne 7, 3) := by decide +kernel
theorem dM_need_35 : decode cM_need 35 = .ok (.iconst 1, 1) := by decide +kernel
theorem dM_need_36 : decode cM_need 36 = .ok (.goto 4, 3) := by decide +kernel
theorem dM_need_39 : decode cM_need 39 = .ok (.iconst 0, 1) := by decide +kernel
theorem dM_need_40 : decode cM_need 40 = .ok (.istore 5, 2) := by decide +kernel
theorem dM_need_42 : decode cM_need 42 = .ok (.aload_n 0, 1) := by decide +kernel
theorem dM_need_43 : decode cM_need 43 = .ok (.iload 4, 2) := by decide +kernel
theorem dM_need_45 : decode cM_need 45 = .ok (.iload 5, 2) := by decide +kernel
theorem dM_need_47 : decode cM_need 47 = .ok (.iload 4, 2) := by decide +kernel
theorem dM_need_49 : decode cM_need 49 = .ok (.ifCond .ne 16, 3) := by decide +kernel
theorem dM_need_52 : decode cM_need 52 = .ok (.aload_n 0, 1) := by decide +kernel
theorem dM_need_53 : decode cM_need 53 = .ok (.getfield 23, 3) := by decide +kernel
theorem dM_need_56 : decode cM_need 56 = .ok (.iload_n 1, 1) := by decide +kernel
theorem dM_need_57 : decode cM_need 57 = .ok (.baload, 1) := by decide +kernel
theorem dM_need_58 : decode cM_need 58 = .ok (.ifCond .eq 7, 3) := by decide +kernel
theorem dM_need_61 : decode cM_need 61 = .ok (.iconst 1, 1) := by decide +kernel
theorem dM_need_62 : decode cM_need 62 = .ok (.goto 4, 3) := by decide +kernel
theorem dM_need_65 : decode cM_need 65 = .ok (.iconst 0, 1) := by decide +kernel
theorem dM_need_66 : decode cM_need 66 = .ok (.iload 5, 2) := by decide +kernel
theorem dM_need_68 : decode cM_need 68 = .ok (.ifCond .ne 18, 3) := by decide +kernel
theorem dM_need_71 : decode cM_need 71 = .ok (.aload_n 0, 1) := by decide +kernel
theorem dM_need_72 : decode cM_need 72 = .ok (.getfield 75, 3) := by decide +kernel
theorem dM_need_75 : decode cM_need 75 = .ok (.iload_n 3, 1) := by decide +kernel
theorem dM_need_76 : decode cM_need 76 = .ok (.iadd, 1) := by decide +kernel
theorem dM_need_77 : decode cM_need 77 = .ok (.bipush 10, 2) := by decide +kernel
theorem dM_need_79 : decode cM_need 79 = .ok (.if_icmp .le 7, 3) := by decide +kernel
theorem dM_need_82 : decode cM_need 82 = .ok (.iconst 1, 1) := by decide +kernel
theorem dM_need_83 : decode cM_need 83 = .ok (.goto 4, 3) := by decide +kernel
theorem dM_need_86 : decode cM_need 86 = .ok (.iconst 0, 1) := by decide +kernel
theorem dM_need_87 : decode cM_need 87 = .ok (.invokevirtual 67, 3) := by decide +kernel
theorem dM_need_90 : decode cM_need 90 = .ok (.ifCond .eq 5, 3) := by decide +kernel
theorem dM_need_93 : decode cM_need 93 = .ok (.iconst 0, 1) := by decide +kernel
theorem dM_need_94 : decode cM_need 94 = .ok (.ireturn, 1) := by decide +kernel
theorem dM_need_95 : decode cM_need 95 = .ok (.iconst 0, 1) := by decide +kernel
theorem dM_need_96 : decode cM_need 96 = .ok (.istore 6, 2) := by decide +kernel
theorem dM_need_98 : decode cM_need 98 = .ok (.iload 6, 2) := by decide +kernel
theorem dM_need_100 : decode cM_need 100 = .ok (.iload_n 3, 1) := by decide +kernel
theorem dM_need_101 : decode cM_need 101 = .ok (.if_icmp .ge 59, 3) := by decide +kernel
theorem dM_need_104 : decode cM_need 104 = .ok (.aload_n 0, 1) := by decide +kernel
theorem dM_need_105 : decode cM_need 105 = .ok (.getfield 26, 3) := by decide +kernel
theorem dM_need_108 : decode cM_need 108 = .ok (.aload_n 0, 1) := by decide +kernel
theorem dM_need_109 : decode cM_need 109 = .ok (.getfield 75, 3) := by decide +kernel
theorem dM_need_112 : decode cM_need 112 = .ok (.iload_n 1, 1) := by decide +kernel
theorem dM_need_113 : decode cM_need 113 = .ok (.iastore, 1) := by decide +kernel
theorem dM_need_114 : decode cM_need 114 = .ok (.aload_n 0, 1) := by decide +kernel
theorem dM_need_115 : decode cM_need 115 = .ok (.getfield 29, 3) := by decide +kernel
theorem dM_need_118 : decode cM_need 118 = .ok (.aload_n 0, 1) := by decide +kernel
theorem dM_need_119 : decode cM_need 119 = .ok (.getfield 75, 3) := by decide +kernel
theorem dM_need_122 : decode cM_need 122 = .ok (.iload_n 2, 1) := by decide +kernel
theorem dM_need_123 : decode cM_need 123 = .ok (.iastore, 1) := by decide +kernel
theorem dM_need_124 : decode cM_need 124 = .ok (.aload_n 0, 1) := by decide +kernel
theorem dM_need_125 : decode cM_need 125 = .ok (.getfield 32, 3) := by decide +kernel
theorem dM_need_128 : decode cM_need 128 = .ok (.aload_n 0, 1) := by decide +kernel
theorem dM_need_129 : decode cM_need 129 = .ok (.getfield 75, 3) := by decide +kernel
theorem dM_need_132 : decode cM_need 132 = .ok (.iconst (-1), 1) := by decide +kernel
theorem dM_need_133 : decode cM_need 133 = .ok (.iastore, 1) := by decide +kernel
theorem dM_need_134 : decode cM_need 134 = .ok (.aload_n 0, 1) := by decide +kernel
theorem dM_need_135 : decode cM_need 135 = .ok (.getfield 35, 3) := by decide +kernel
theorem dM_need_138 : decode cM_need 138 = .ok (.aload_n 0, 1) := by decide +kernel
theorem dM_need_139 : decode cM_need 139 = .ok (.getfield 75, 3) := by decide +kernel
theorem dM_need_142 : decode cM_need 142 = .ok (.iconst 0, 1) := by decide +kernel
theorem dM_need_143 : decode cM_need 143 = .ok (.bastore, 1) := by decide +kernel
theorem dM_need_144 : decode cM_need 144 = .ok (.aload_n 0, 1) := by decide +kernel
theorem dM_need_145 : decode cM_need 145 = .ok (.dup, 1) := by decide +kernel
theorem dM_need_146 : decode cM_need 146 = .ok (.getfield 75, 3) := by decide +kernel
theorem dM_need_149 : decode cM_need 149 = .ok (.iconst 1, 1) := by decide +kernel
theorem dM_need_150 : decode cM_need 150 = .ok (.iadd, 1) := by decide +kernel
theorem dM_need_151 : decode cM_need 151 = .ok (.putfield 75, 3) := by decide +kernel
theorem dM_need_154 : decode cM_need 154 = .ok (.iinc 6 1, 3) := by decide +kernel
theorem dM_need_157 : decode cM_need 157 = .ok (.goto (-59), 3) := by decide +kernel
theorem dM_need_160 : decode cM_need 160 = .ok (.aload_n 0, 1) := by decide +kernel
theorem dM_need_161 : decode cM_need 161 = .ok (.getfield 75, 3) := by decide +kernel
theorem dM_need_164 : decode cM_need 164 = .ok (.ireturn, 1) := by decide +kernel
theorem dM_seconds_0 : decode cM_seconds 0 = .ok (.aload_n 0, 1) := by decide +kernel
theorem dM_seconds_1 : decode cM_seconds 1 = .ok (.aload_n 0, 1) := by decide +kernel
theorem dM_seconds_2 : decode cM_seconds 2 = .ok (.iload_n 1, 1) := by decide +kernel
theorem dM_seconds_3 : decode cM_seconds 3 = .ok (.invokevirtual 78, 3) := by decide +kernel
theorem dM_seconds_6 : decode cM_seconds 6 = .ok (.ifCond .eq 11, 3) := by decide +kernel
theorem dM_seconds_9 : decode cM_seconds 9 = .ok (.aload_n 0, 1) := by decide +kernel
theorem dM_seconds_10 : decode cM_seconds 10 = .ok (.iload_n 2, 1) := by decide +kernel
theorem dM_seconds_11 : decode cM_seconds 11 = .ok (.invokevirtual 71, 3) := by decide +kernel
theorem dM_seconds_14 : decode cM_seconds 14 = .ok (.ifCond .ne 7, 3) := by decide +kernel
theorem dM_seconds_17 : decode cM_seconds 17 = .ok (.iconst 1, 1) := by decide +kernel
theorem dM_seconds_18 : decode cM_seconds 18 = .ok (.goto 4, 3) := by decide +kernel
theorem dM_seconds_21 : decode cM_seconds 21 = .ok (.iconst 0, 1) := by decide +kernel
theorem dM_seconds_22 : decode cM_seconds 22 = .ok (.iload_n 3, 1) := by decide +kernel
theorem dM_seconds_23 : decode cM_seconds 23 = .ok (.iconst (-1), 1) := by decide +kernel
theorem dM_seconds_24 : decode cM_seconds 24 = .ok (.ldc 81, 2) := by decide +kernel
theorem dM_seconds_26 : decode cM_seconds 26 = .ok (.invokestatic 59, 3) := by decide +kernel
theorem dM_seconds_29 : decode cM_seconds 29 = .ok (.ifCond .ne 7, 3) := by decide +kernel
theorem dM_seconds_32 : decode cM_seconds 32 = .ok (.iconst 1, 1) := by decide +kernel
theorem dM_seconds_33 : decode cM_seconds 33 = .ok (.goto 4, 3) := by decide +kernel
theorem dM_seconds_36 : decode cM_seconds 36 = .ok (.iconst 0, 1) := by decide +kernel
theorem dM_seconds_37 : decode cM_seconds 37 = .ok (.iconst 0, 1) := by decide +kernel
theorem dM_seconds_38 : decode cM_seconds 38 = .ok (.iconst 0, 1) := by decide +kernel
theorem dM_seconds_39 : decode cM_seconds 39 = .ok (.invokevirtual 67, 3) := by decide +kernel
theorem dM_seconds_42 : decode cM_seconds 42 = .ok (.ifCond .eq 4, 3) := by decide +kernel
theorem dM_seconds_45 : decode cM_seconds 45 = .ok (.return_, 1) := by decide +kernel
theorem dM_seconds_46 : decode cM_seconds 46 = .ok (.aload_n 0, 1) := by decide +kernel
theorem dM_seconds_47 : decode cM_seconds 47 = .ok (.getfield 17, 3) := by decide +kernel
theorem dM_seconds_50 : decode cM_seconds 50 = .ok (.bipush 6, 2) := by decide +kernel
theorem dM_seconds_52 : decode cM_seconds 52 = .ok (.iload_n 1, 1) := by decide +kernel
theorem dM_seconds_53 : decode cM_seconds 53 = .ok (.imul, 1) := by decide +kernel
theorem dM_seconds_54 : decode cM_seconds 54 = .ok (.iload_n 2, 1) := by decide +kernel
theorem dM_seconds_55 : decode cM_seconds 55 = .ok (.iadd, 1) := by decide +kernel
theorem dM_seconds_56 : decode cM_seconds 56 = .ok (.iload_n 3, 1) := by decide +kernel
theorem dM_seconds_57 : decode cM_seconds 57 = .ok (.iastore, 1) := by decide +kernel
theorem dM_seconds_58 : decode cM_seconds 58 = .ok (.return_, 1) := by decide +kernel
theorem dM_limit_0 : decode cM_limit 0 = .ok (.aload_n 0, 1) := by decide +kernel
theorem dM_limit_1 : decode cM_limit 1 = .ok (.iload_n 1, 1) := by decide +kernel
theorem dM_limit_2 : decode cM_limit 2 = .ok (.iconst 0, 1) := by decide +kernel
theorem dM_limit_3 : decode cM_limit 3 = .ok (.bipush 15, 2) := by decide +kernel
theorem dM_limit_5 : decode cM_limit 5 = .ok (.invokestatic 59, 3) := by decide +kernel
theorem dM_limit_8 : decode cM_limit 8 = .ok (.ifCond .ne 7, 3) := by decide +kernel
theorem dM_limit_11 : decode cM_limit 11 = .ok (.iconst 1, 1) := by decide +kernel
theorem dM_limit_12 : decode cM_limit 12 = .ok (.goto 4, 3) := by decide +kernel
theorem dM_limit_15 : decode cM_limit 15 = .ok (.iconst 0, 1) := by decide +kernel
theorem dM_limit_16 : decode cM_limit 16 = .ok (.iload_n 2, 1) := by decide +kernel
theorem dM_limit_17 : decode cM_limit 17 = .ok (.iconst (-1), 1) := by decide +kernel
theorem dM_limit_18 : decode cM_limit 18 = .ok (.ldc 81, 2) := by decide +kernel
theorem dM_limit_20 : decode cM_limit 20 = .ok (.invokestatic 59, 3) := by decide +kernel
theorem dM_limit_23 : decode cM_limit 23 = .ok (.ifCond .ne 7, 3) := by decide +kernel
theorem dM_limit_26 : decode cM_limit 26 = .ok (.iconst 1, 1) := by decide +kernel
theorem dM_limit_27 : decode cM_limit 27 = .ok (.goto 4, 3) := by decide +kernel
theorem dM_limit_30 : decode cM_limit 30 = .ok (.iconst 0, 1) := by decide +kernel
theorem dM_limit_31 : decode cM_limit 31 = .ok (.iconst 0, 1) := by decide +kernel
theorem dM_limit_32 : decode cM_limit 32 = .ok (.iconst 0, 1) := by decide +kernel
theorem dM_limit_33 : decode cM_limit 33 = .ok (.invokevirtual 67, 3) := by decide +kernel
theorem dM_limit_36 : decode cM_limit 36 = .ok (.ifCond .eq 4, 3) := by decide +kernel
theorem dM_limit_39 : decode cM_limit 39 = .ok (.return_, 1) := by decide +kernel
theorem dM_limit_40 : decode cM_limit 40 = .ok (.aload_n 0, 1) := by decide +kernel
theorem dM_limit_41 : decode cM_limit 41 = .ok (.getfield 38, 3) := by decide +kernel
theorem dM_limit_44 : decode cM_limit 44 = .ok (.iload_n 1, 1) := by decide +kernel
theorem dM_limit_45 : decode cM_limit 45 = .ok (.iload_n 2, 1) := by decide +kernel
theorem dM_limit_46 : decode cM_limit 46 = .ok (.iastore, 1) := by decide +kernel
theorem dM_limit_47 : decode cM_limit 47 = .ok (.return_, 1) := by decide +kernel
theorem dM_reserve_0 : decode cM_reserve 0 = .ok (.aload_n 0, 1) := by decide +kernel
theorem dM_reserve_1 : decode cM_reserve 1 = .ok (.iload_n 1, 1) := by decide +kernel
theorem dM_reserve_2 : decode cM_reserve 2 = .ok (.iconst 0, 1) := by decide +kernel
theorem dM_reserve_3 : decode cM_reserve 3 = .ok (.bipush 12, 2) := by decide +kernel
theorem dM_reserve_5 : decode cM_reserve 5 = .ok (.invokestatic 59, 3) := by decide +kernel
theorem dM_reserve_8 : decode cM_reserve 8 = .ok (.ifCond .eq 13, 3) := by decide +kernel
theorem dM_reserve_11 : decode cM_reserve 11 = .ok (.iload_n 2, 1) := by decide +kernel
theorem dM_reserve_12 : decode cM_reserve 12 = .ok (.iconst 1, 1) := by decide +kernel
theorem dM_reserve_13 : decode cM_reserve 13 = .ok (.bipush 10, 2) := by decide +kernel
theorem dM_reserve_15 : decode cM_reserve 15 = .ok (.invokestatic 59, 3) := by decide +kernel
theorem dM_reserve_18 : decode cM_reserve 18 = .ok (.ifCond .ne 7, 3) := by decide +kernel
theorem dM_reserve_21 : decode cM_reserve 21 = .ok (.iconst 1, 1) := by decide +kernel
theorem dM_reserve_22 : decode cM_reserve 22 = .ok (.goto 4, 3) := by decide +kernel
theorem dM_reserve_25 : decode cM_reserve 25 = .ok (.iconst 0, 1) := by decide +kernel
theorem dM_reserve_26 : decode cM_reserve 26 = .ok (.iconst 0, 1) := by decide +kernel
theorem dM_reserve_27 : decode cM_reserve 27 = .ok (.iconst 0, 1) := by decide +kernel
theorem dM_reserve_28 : decode cM_reserve 28 = .ok (.iconst 0, 1) := by decide +kernel
theorem dM_reserve_29 : decode cM_reserve 29 = .ok (.invokevirtual 67, 3) := by decide +kernel
theorem dM_reserve_32 : decode cM_reserve 32 = .ok (.ifCond .eq 4, 3) := by decide +kernel
theorem dM_reserve_35 : decode cM_reserve 35 = .ok (.return_, 1) := by decide +kernel
theorem dM_reserve_36 : decode cM_reserve 36 = .ok (.aload_n 0, 1) := by decide +kernel
theorem dM_reserve_37 : decode cM_reserve 37 = .ok (.iload_n 1, 1) := by decide +kernel
theorem dM_reserve_38 : decode cM_reserve 38 = .ok (.putfield 82, 3) := by decide +kernel
theorem dM_reserve_41 : decode cM_reserve 41 = .ok (.aload_n 0, 1) := by decide +kernel
theorem dM_reserve_42 : decode cM_reserve 42 = .ok (.iload_n 2, 1) := by decide +kernel
theorem dM_reserve_43 : decode cM_reserve 43 = .ok (.putfield 41, 3) := by decide +kernel
theorem dM_reserve_46 : decode cM_reserve 46 = .ok (.return_, 1) := by decide +kernel
theorem dM_needOf_0 : decode cM_needOf 0 = .ok (.iconst (-1), 1) := by decide +kernel
theorem dM_needOf_1 : decode cM_needOf 1 = .ok (.istore_n 2, 1) := by decide +kernel
theorem dM_needOf_2 : decode cM_needOf 2 = .ok (.iconst 0, 1) := by decide +kernel
theorem dM_needOf_3 : decode cM_needOf 3 = .ok (.istore_n 3, 1) := by decide +kernel
theorem dM_needOf_4 : decode cM_needOf 4 = .ok (.iload_n 3, 1) := by decide +kernel
theorem dM_needOf_5 : decode cM_needOf 5 = .ok (.aload_n 0, 1) := by decide +kernel
theorem dM_needOf_6 : decode cM_needOf 6 = .ok (.getfield 75, 3) := by decide +kernel
theorem dM_needOf_9 : decode cM_needOf 9 = .ok (.if_icmp .ge 25, 3) := by decide +kernel
theorem dM_needOf_12 : decode cM_needOf 12 = .ok (.aload_n 0, 1) := by decide +kernel
theorem dM_needOf_13 : decode cM_needOf 13 = .ok (.getfield 32, 3) := by decide +kernel
theorem dM_needOf_16 : decode cM_needOf 16 = .ok (.iload_n 3, 1) := by decide +kernel
theorem dM_needOf_17 : decode cM_needOf 17 = .ok (.iaload, 1) := by decide +kernel
theorem dM_needOf_18 : decode cM_needOf 18 = .ok (.iload_n 1, 1) := by decide +kernel
theorem dM_needOf_19 : decode cM_needOf 19 = .ok (.if_icmp .ne 7, 3) := by decide +kernel
theorem dM_needOf_22 : decode cM_needOf 22 = .ok (.iload_n 3, 1) := by decide +kernel
theorem dM_needOf_23 : decode cM_needOf 23 = .ok (.goto 4, 3) := by decide +kernel
theorem dM_needOf_26 : decode cM_needOf 26 = .ok (.iload_n 2, 1) := by decide +kernel
theorem dM_needOf_27 : decode cM_needOf 27 = .ok (.istore_n 2, 1) := by decide +kernel
theorem dM_needOf_28 : decode cM_needOf 28 = .ok (.iinc 3 1, 3) := by decide +kernel
theorem dM_needOf_31 : decode cM_needOf 31 = .ok (.goto (-27), 3) := by decide +kernel
theorem dM_needOf_34 : decode cM_needOf 34 = .ok (.iload_n 2, 1) := by decide +kernel
theorem dM_needOf_35 : decode cM_needOf 35 = .ok (.ireturn, 1) := by decide +kernel
theorem dM_leave_0 : decode cM_leave 0 = .ok (.aload_n 0, 1) := by decide +kernel
theorem dM_leave_1 : decode cM_leave 1 = .ok (.getfield 32, 3) := by decide +kernel
theorem dM_leave_4 : decode cM_leave 4 = .ok (.iload_n 1, 1) := by decide +kernel
theorem dM_leave_5 : decode cM_leave 5 = .ok (.iconst (-1), 1) := by decide +kernel
theorem dM_leave_6 : decode cM_leave 6 = .ok (.iastore, 1) := by decide +kernel
theorem dM_leave_7 : decode cM_leave 7 = .ok (.aload_n 0, 1) := by decide +kernel
theorem dM_leave_8 : decode cM_leave 8 = .ok (.getfield 35, 3) := by decide +kernel
theorem dM_leave_11 : decode cM_leave 11 = .ok (.iload_n 1, 1) := by decide +kernel
theorem dM_leave_12 : decode cM_leave 12 = .ok (.iconst 0, 1) := by decide +kernel
theorem dM_leave_13 : decode cM_leave 13 = .ok (.bastore, 1) := by decide +kernel
theorem dM_leave_14 : decode cM_leave 14 = .ok (.return_, 1) := by decide +kernel
theorem dM_broken_0 : decode cM_broken 0 = .ok (.aload_n 0, 1) := by decide +kernel
theorem dM_broken_1 : decode cM_broken 1 = .ok (.iload_n 1, 1) := by decide +kernel
theorem dM_broken_2 : decode cM_broken 2 = .ok (.invokevirtual 78, 3) := by decide +kernel
theorem dM_broken_5 : decode cM_broken 5 = .ok (.ifCond .ne 7, 3) := by decide +kernel
theorem dM_broken_8 : decode cM_broken 8 = .ok (.iconst 1, 1) := by decide +kernel
theorem dM_broken_9 : decode cM_broken 9 = .ok (.goto 4, 3) := by decide +kernel
theorem dM_broken_12 : decode cM_broken 12 = .ok (.iconst 0, 1) := by decide +kernel
theorem dM_broken_13 : decode cM_broken 13 = .ok (.istore_n 3, 1) := by decide +kernel
theorem dM_broken_14 : decode cM_broken 14 = .ok (.aload_n 0, 1) := by decide +kernel
theorem dM_broken_15 : decode cM_broken 15 = .ok (.iload_n 3, 1) := by decide +kernel
theorem dM_broken_16 : decode cM_broken 16 = .ok (.iload_n 3, 1) := by decide +kernel
theorem dM_broken_17 : decode cM_broken 17 = .ok (.ifCond .ne 25, 3) := by decide +kernel
theorem dM_broken_20 : decode cM_broken 20 = .ok (.aload_n 0, 1) := by decide +kernel
theorem dM_broken_21 : decode cM_broken 21 = .ok (.getfield 13, 3) := by decide +kernel
theorem dM_broken_24 : decode cM_broken 24 = .ok (.iload_n 3, 1) := by decide +kernel
theorem dM_broken_25 : decode cM_broken 25 = .ok (.ifCond .eq 7, 3) := by decide +kernel
theorem dM_broken_28 : decode cM_broken 28 = .ok (.iconst 0, 1) := by decide +kernel
theorem dM_broken_29 : decode cM_broken 29 = .ok (.goto 4, 3) := by decide +kernel
theorem dM_broken_32 : decode cM_broken 32 = .ok (.iload_n 1, 1) := by decide +kernel
theorem dM_broken_33 : decode cM_broken 33 = .ok (.baload, 1) := by decide +kernel
theorem dM_broken_34 : decode cM_broken 34 = .ok (.iload_n 2, 1) := by decide +kernel
theorem dM_broken_35 : decode cM_broken 35 = .ok (.if_icmp .ne 7, 3) := by decide +kernel
theorem dM_broken_38 : decode cM_broken 38 = .ok (.iconst 1, 1) := by decide +kernel
theorem dM_broken_39 : decode cM_broken 39 = .ok (.goto 4, 3) := by decide +kernel
theorem dM_broken_42 : decode cM_broken 42 = .ok (.iconst 0, 1) := by decide +kernel
theorem dM_broken_43 : decode cM_broken 43 = .ok (.iconst 0, 1) := by decide +kernel
theorem dM_broken_44 : decode cM_broken 44 = .ok (.iconst 0, 1) := by decide +kernel
theorem dM_broken_45 : decode cM_broken 45 = .ok (.invokevirtual 67, 3) := by decide +kernel
theorem dM_broken_48 : decode cM_broken 48 = .ok (.ifCond .eq 4, 3) := by decide +kernel
theorem dM_broken_51 : decode cM_broken 51 = .ok (.return_, 1) := by decide +kernel
theorem dM_broken_52 : decode cM_broken 52 = .ok (.aload_n 0, 1) := by decide +kernel
theorem dM_broken_53 : decode cM_broken 53 = .ok (.getfield 13, 3) := by decide +kernel
theorem dM_broken_56 : decode cM_broken 56 = .ok (.iload_n 1, 1) := by decide +kernel
theorem dM_broken_57 : decode cM_broken 57 = .ok (.iload_n 2, 1) := by decide +kernel
theorem dM_broken_58 : decode cM_broken 58 = .ok (.bastore, 1) := by decide +kernel
theorem dM_broken_59 : decode cM_broken 59 = .ok (.aload_n 0, 1) := by decide +kernel
theorem dM_broken_60 : decode cM_broken 60 = .ok (.iload_n 1, 1) := by decide +kernel
theorem dM_broken_61 : decode cM_broken 61 = .ok (.invokevirtual 85, 3) := by decide +kernel
theorem dM_broken_64 : decode cM_broken 64 = .ok (.ifCond .lt 12, 3) := by decide +kernel
theorem dM_broken_67 : decode cM_broken 67 = .ok (.aload_n 0, 1) := by decide +kernel
theorem dM_broken_68 : decode cM_broken 68 = .ok (.aload_n 0, 1) := by decide +kernel
theorem dM_broken_69 : decode cM_broken 69 = .ok (.iload_n 1, 1) := by decide +kernel
theorem dM_broken_70 : decode cM_broken 70 = .ok (.invokevirtual 85, 3) := by decide +kernel
theorem dM_broken_73 : decode cM_broken 73 = .ok (.invokevirtual 89, 3) := by decide +kernel
theorem dM_broken_76 : decode cM_broken 76 = .ok (.return_, 1) := by decide +kernel
theorem dM_isOpen_0 : decode cM_isOpen 0 = .ok (.aload_n 0, 1) := by decide +kernel
theorem dM_isOpen_1 : decode cM_isOpen 1 = .ok (.getfield 23, 3) := by decide +kernel
theorem dM_isOpen_4 : decode cM_isOpen 4 = .ok (.aload_n 0, 1) := by decide +kernel
theorem dM_isOpen_5 : decode cM_isOpen 5 = .ok (.getfield 26, 3) := by decide +kernel
theorem dM_isOpen_8 : decode cM_isOpen 8 = .ok (.iload_n 1, 1) := by decide +kernel
theorem dM_isOpen_9 : decode cM_isOpen 9 = .ok (.iaload, 1) := by decide +kernel
theorem dM_isOpen_10 : decode cM_isOpen 10 = .ok (.baload, 1) := by decide +kernel
theorem dM_isOpen_11 : decode cM_isOpen 11 = .ok (.ifCond .ne 7, 3) := by decide +kernel
theorem dM_isOpen_14 : decode cM_isOpen 14 = .ok (.iconst 1, 1) := by decide +kernel
theorem dM_isOpen_15 : decode cM_isOpen 15 = .ok (.goto 4, 3) := by decide +kernel
theorem dM_isOpen_18 : decode cM_isOpen 18 = .ok (.iconst 0, 1) := by decide +kernel
theorem dM_isOpen_19 : decode cM_isOpen 19 = .ok (.ireturn, 1) := by decide +kernel
theorem dM_canFill_0 : decode cM_canFill 0 = .ok (.aload_n 0, 1) := by decide +kernel
theorem dM_canFill_1 : decode cM_canFill 1 = .ok (.getfield 17, 3) := by decide +kernel
theorem dM_canFill_4 : decode cM_canFill 4 = .ok (.bipush 6, 2) := by decide +kernel
theorem dM_canFill_6 : decode cM_canFill 6 = .ok (.iload_n 1, 1) := by decide +kernel
theorem dM_canFill_7 : decode cM_canFill 7 = .ok (.imul, 1) := by decide +kernel
theorem dM_canFill_8 : decode cM_canFill 8 = .ok (.aload_n 0, 1) := by decide +kernel
theorem dM_canFill_9 : decode cM_canFill 9 = .ok (.getfield 26, 3) := by decide +kernel
theorem dM_canFill_12 : decode cM_canFill 12 = .ok (.iload_n 2, 1) := by decide +kernel
theorem dM_canFill_13 : decode cM_canFill 13 = .ok (.iaload, 1) := by decide +kernel
theorem dM_canFill_14 : decode cM_canFill 14 = .ok (.iadd, 1) := by decide +kernel
theorem dM_canFill_15 : decode cM_canFill 15 = .ok (.iaload, 1) := by decide +kernel
theorem dM_canFill_16 : decode cM_canFill 16 = .ok (.istore_n 3, 1) := by decide +kernel
theorem dM_canFill_17 : decode cM_canFill 17 = .ok (.aload_n 0, 1) := by decide +kernel
theorem dM_canFill_18 : decode cM_canFill 18 = .ok (.getfield 38, 3) := by decide +kernel
theorem dM_canFill_21 : decode cM_canFill 21 = .ok (.aload_n 0, 1) := by decide +kernel
theorem dM_canFill_22 : decode cM_canFill 22 = .ok (.getfield 29, 3) := by decide +kernel
theorem dM_canFill_25 : decode cM_canFill 25 = .ok (.iload_n 2, 1) := by decide +kernel
theorem dM_canFill_26 : decode cM_canFill 26 = .ok (.iaload, 1) := by decide +kernel
theorem dM_canFill_27 : decode cM_canFill 27 = .ok (.iaload, 1) := by decide +kernel
theorem dM_canFill_28 : decode cM_canFill 28 = .ok (.istore 4, 2) := by decide +kernel
theorem dM_canFill_30 : decode cM_canFill 30 = .ok (.aload_n 0, 1) := by decide +kernel
theorem dM_canFill_31 : decode cM_canFill 31 = .ok (.getfield 13, 3) := by decide +kernel
theorem dM_canFill_34 : decode cM_canFill 34 = .ok (.iload_n 1, 1) := by decide +kernel
theorem dM_canFill_35 : decode cM_canFill 35 = .ok (.baload, 1) := by decide +kernel
theorem dM_canFill_36 : decode cM_canFill 36 = .ok (.ifCond .ne 41, 3) := by decide +kernel
theorem dM_canFill_39 : decode cM_canFill 39 = .ok (.aload_n 0, 1) := by decide +kernel
theorem dM_canFill_40 : decode cM_canFill 40 = .ok (.getfield 7, 3) := by decide +kernel
theorem dM_canFill_43 : decode cM_canFill 43 = .ok (.iload_n 1, 1) := by decide +kernel
theorem dM_canFill_44 : decode cM_canFill 44 = .ok (.iaload, 1) := by decide +kernel
theorem dM_canFill_45 : decode cM_canFill 45 = .ok (.aload_n 0, 1) := by decide +kernel
theorem dM_canFill_46 : decode cM_canFill 46 = .ok (.getfield 29, 3) := by decide +kernel
theorem dM_canFill_49 : decode cM_canFill 49 = .ok (.iload_n 2, 1) := by decide +kernel
theorem dM_canFill_50 : decode cM_canFill 50 = .ok (.iaload, 1) := by decide +kernel
theorem dM_canFill_51 : decode cM_canFill 51 = .ok (.ishr, 1) := by decide +kernel
theorem dM_canFill_52 : decode cM_canFill 52 = .ok (.iconst 1, 1) := by decide +kernel
theorem dM_canFill_53 : decode cM_canFill 53 = .ok (.iand, 1) := by decide +kernel
theorem dM_canFill_54 : decode cM_canFill 54 = .ok (.iconst 1, 1) := by decide +kernel
theorem dM_canFill_55 : decode cM_canFill 55 = .ok (.if_icmp .ne 22, 3) := by decide +kernel
theorem dM_canFill_58 : decode cM_canFill 58 = .ok (.iload_n 3, 1) := by decide +kernel
theorem dM_canFill_59 : decode cM_canFill 59 = .ok (.ifCond .lt 18, 3) := by decide +kernel
theorem dM_canFill_62 : decode cM_canFill 62 = .ok (.iload 4, 2) := by decide +kernel
theorem dM_canFill_64 : decode cM_canFill 64 = .ok (.ifCond .lt 9, 3) := by decide +kernel
theorem dM_canFill_67 : decode cM_canFill 67 = .ok (.iload_n 3, 1) := by decide +kernel
theorem dM_canFill_68 : decode cM_canFill 68 = .ok (.iload 4, 2) := by decide +kernel
theorem dM_canFill_70 : decode cM_canFill 70 = .ok (.if_icmp .gt 7, 3) := by decide +kernel
theorem dM_canFill_73 : decode cM_canFill 73 = .ok (.iconst 1, 1) := by decide +kernel
theorem dM_canFill_74 : decode cM_canFill 74 = .ok (.goto 4, 3) := by decide +kernel
theorem dM_canFill_77 : decode cM_canFill 77 = .ok (.iconst 0, 1) := by decide +kernel
theorem dM_canFill_78 : decode cM_canFill 78 = .ok (.ireturn, 1) := by decide +kernel
theorem dM_isFixed_0 : decode cM_isFixed 0 = .ok (.aload_n 0, 1) := by decide +kernel
theorem dM_isFixed_1 : decode cM_isFixed 1 = .ok (.iload_n 1, 1) := by decide +kernel
theorem dM_isFixed_2 : decode cM_isFixed 2 = .ok (.invokevirtual 93, 3) := by decide +kernel
theorem dM_isFixed_5 : decode cM_isFixed 5 = .ok (.ifCond .eq 39, 3) := by decide +kernel
theorem dM_isFixed_8 : decode cM_isFixed 8 = .ok (.aload_n 0, 1) := by decide +kernel
theorem dM_isFixed_9 : decode cM_isFixed 9 = .ok (.getfield 32, 3) := by decide +kernel
theorem dM_isFixed_12 : decode cM_isFixed 12 = .ok (.iload_n 1, 1) := by decide +kernel
theorem dM_isFixed_13 : decode cM_isFixed 13 = .ok (.iaload, 1) := by decide +kernel
theorem dM_isFixed_14 : decode cM_isFixed 14 = .ok (.ifCond .lt 30, 3) := by decide +kernel
theorem dM_isFixed_17 : decode cM_isFixed 17 = .ok (.aload_n 0, 1) := by decide +kernel
theorem dM_isFixed_18 : decode cM_isFixed 18 = .ok (.getfield 35, 3) := by decide +kernel
theorem dM_isFixed_21 : decode cM_isFixed 21 = .ok (.iload_n 1, 1) := by decide +kernel
theorem dM_isFixed_22 : decode cM_isFixed 22 = .ok (.baload, 1) := by decide +kernel
theorem dM_isFixed_23 : decode cM_isFixed 23 = .ok (.ifCond .eq 21, 3) := by decide +kernel
theorem dM_isFixed_26 : decode cM_isFixed 26 = .ok (.aload_n 0, 1) := by decide +kernel
theorem dM_isFixed_27 : decode cM_isFixed 27 = .ok (.aload_n 0, 1) := by decide +kernel
theorem dM_isFixed_28 : decode cM_isFixed 28 = .ok (.getfield 32, 3) := by decide +kernel
theorem dM_isFixed_31 : decode cM_isFixed 31 = .ok (.iload_n 1, 1) := by decide +kernel
theorem dM_isFixed_32 : decode cM_isFixed 32 = .ok (.iaload, 1) := by decide +kernel
theorem dM_isFixed_33 : decode cM_isFixed 33 = .ok (.iload_n 1, 1) := by decide +kernel
theorem dM_isFixed_34 : decode cM_isFixed 34 = .ok (.invokevirtual 96, 3) := by decide +kernel
theorem dM_isFixed_37 : decode cM_isFixed 37 = .ok (.ifCond .eq 7, 3) := by decide +kernel
theorem dM_isFixed_40 : decode cM_isFixed 40 = .ok (.iconst 1, 1) := by decide +kernel
theorem dM_isFixed_41 : decode cM_isFixed 41 = .ok (.goto 4, 3) := by decide +kernel
theorem dM_isFixed_44 : decode cM_isFixed 44 = .ok (.iconst 0, 1) := by decide +kernel
theorem dM_isFixed_45 : decode cM_isFixed 45 = .ok (.ireturn, 1) := by decide +kernel
theorem dM_rankOf_0 : decode cM_rankOf 0 = .ok (.aload_n 0, 1) := by decide +kernel
theorem dM_rankOf_1 : decode cM_rankOf 1 = .ok (.getfield 20, 3) := by decide +kernel
theorem dM_rankOf_4 : decode cM_rankOf 4 = .ok (.aload_n 0, 1) := by decide +kernel
theorem dM_rankOf_5 : decode cM_rankOf 5 = .ok (.getfield 26, 3) := by decide +kernel
theorem dM_rankOf_8 : decode cM_rankOf 8 = .ok (.iload_n 1, 1) := by decide +kernel
theorem dM_rankOf_9 : decode cM_rankOf 9 = .ok (.iaload, 1) := by decide +kernel
theorem dM_rankOf_10 : decode cM_rankOf 10 = .ok (.iaload, 1) := by decide +kernel
theorem dM_rankOf_11 : decode cM_rankOf 11 = .ok (.ireturn, 1) := by decide +kernel
theorem dM_most_0 : decode cM_most 0 = .ok (.aload_n 0, 1) := by decide +kernel
theorem dM_most_1 : decode cM_most 1 = .ok (.getfield 82, 3) := by decide +kernel
theorem dM_most_4 : decode cM_most 4 = .ok (.ineg, 1) := by decide +kernel
theorem dM_most_5 : decode cM_most 5 = .ok (.istore_n 1, 1) := by decide +kernel
theorem dM_most_6 : decode cM_most 6 = .ok (.iconst 0, 1) := by decide +kernel
theorem dM_most_7 : decode cM_most 7 = .ok (.istore_n 2, 1) := by decide +kernel
theorem dM_most_8 : decode cM_most 8 = .ok (.iload_n 2, 1) := by decide +kernel
theorem dM_most_9 : decode cM_most 9 = .ok (.aload_n 0, 1) := by decide +kernel
theorem dM_most_10 : decode cM_most 10 = .ok (.getfield 56, 3) := by decide +kernel
theorem dM_most_13 : decode cM_most 13 = .ok (.if_icmp .ge 26, 3) := by decide +kernel
theorem dM_most_16 : decode cM_most 16 = .ok (.iload_n 1, 1) := by decide +kernel
theorem dM_most_17 : decode cM_most 17 = .ok (.aload_n 0, 1) := by decide +kernel
theorem dM_most_18 : decode cM_most 18 = .ok (.getfield 13, 3) := by decide +kernel
theorem dM_most_21 : decode cM_most 21 = .ok (.iload_n 2, 1) := by decide +kernel
theorem dM_most_22 : decode cM_most 22 = .ok (.baload, 1) := by decide +kernel
theorem dM_most_23 : decode cM_most 23 = .ok (.ifCond .eq 7, 3) := by decide +kernel
theorem dM_most_26 : decode cM_most 26 = .ok (.iconst 0, 1) := by decide +kernel
theorem dM_most_27 : decode cM_most 27 = .ok (.goto 4, 3) := by decide +kernel
theorem dM_most_30 : decode cM_most 30 = .ok (.iconst 1, 1) := by decide +kernel
theorem dM_most_31 : decode cM_most 31 = .ok (.iadd, 1) := by decide +kernel
theorem dM_most_32 : decode cM_most 32 = .ok (.istore_n 1, 1) := by decide +kernel
theorem dM_most_33 : decode cM_most 33 = .ok (.iinc 2 1, 3) := by decide +kernel
theorem dM_most_36 : decode cM_most 36 = .ok (.goto (-28), 3) := by decide +kernel
theorem dM_most_39 : decode cM_most 39 = .ok (.iload_n 1, 1) := by decide +kernel
theorem dM_most_40 : decode cM_most 40 = .ok (.ireturn, 1) := by decide +kernel
theorem dM_fixedUnits_0 : decode cM_fixedUnits 0 = .ok (.iconst 0, 1) := by decide +kernel
theorem dM_fixedUnits_1 : decode cM_fixedUnits 1 = .ok (.istore_n 1, 1) := by decide +kernel
theorem dM_fixedUnits_2 : decode cM_fixedUnits 2 = .ok (.iconst 0, 1) := by decide +kernel
theorem dM_fixedUnits_3 : decode cM_fixedUnits 3 = .ok (.istore_n 2, 1) := by decide +kernel
theorem dM_fixedUnits_4 : decode cM_fixedUnits 4 = .ok (.iload_n 2, 1) := by decide +kernel
theorem dM_fixedUnits_5 : decode cM_fixedUnits 5 = .ok (.aload_n 0, 1) := by decide +kernel
theorem dM_fixedUnits_6 : decode cM_fixedUnits 6 = .ok (.getfield 75, 3) := by decide +kernel
theorem dM_fixedUnits_9 : decode cM_fixedUnits 9 = .ok (.if_icmp .ge 28, 3) := by decide +kernel
theorem dM_fixedUnits_12 : decode cM_fixedUnits 12 = .ok (.aload_n 0, 1) := by decide +kernel
theorem dM_fixedUnits_13 : decode cM_fixedUnits 13 = .ok (.iload_n 2, 1) := by decide +kernel
theorem dM_fixedUnits_14 : decode cM_fixedUnits 14 = .ok (.invokevirtual 100, 3) := by decide +kernel
theorem dM_fixedUnits_17 : decode cM_fixedUnits 17 = .ok (.ifCond .eq 14, 3) := by decide +kernel
theorem dM_fixedUnits_20 : decode cM_fixedUnits 20 = .ok (.iload_n 1, 1) := by decide +kernel
theorem dM_fixedUnits_21 : decode cM_fixedUnits 21 = .ok (.iconst 1, 1) := by decide +kernel
theorem dM_fixedUnits_22 : decode cM_fixedUnits 22 = .ok (.aload_n 0, 1) := by decide +kernel
theorem dM_fixedUnits_23 : decode cM_fixedUnits 23 = .ok (.getfield 32, 3) := by decide +kernel
theorem dM_fixedUnits_26 : decode cM_fixedUnits 26 = .ok (.iload_n 2, 1) := by decide +kernel
theorem dM_fixedUnits_27 : decode cM_fixedUnits 27 = .ok (.iaload, 1) := by decide +kernel
theorem dM_fixedUnits_28 : decode cM_fixedUnits 28 = .ok (.ishl, 1) := by decide +kernel
theorem dM_fixedUnits_29 : decode cM_fixedUnits 29 = .ok (.ior, 1) := by decide +kernel
theorem dM_fixedUnits_30 : decode cM_fixedUnits 30 = .ok (.istore_n 1, 1) := by decide +kernel
theorem dM_fixedUnits_31 : decode cM_fixedUnits 31 = .ok (.iinc 2 1, 3) := by decide +kernel
theorem dM_fixedUnits_34 : decode cM_fixedUnits 34 = .ok (.goto (-30), 3) := by decide +kernel
theorem dM_fixedUnits_37 : decode cM_fixedUnits 37 = .ok (.iload_n 1, 1) := by decide +kernel
theorem dM_fixedUnits_38 : decode cM_fixedUnits 38 = .ok (.ireturn, 1) := by decide +kernel
theorem dM_ones_0 : decode cM_ones 0 = .ok (.iconst 0, 1) := by decide +kernel
theorem dM_ones_1 : decode cM_ones 1 = .ok (.istore_n 1, 1) := by decide +kernel
theorem dM_ones_2 : decode cM_ones 2 = .ok (.iconst 0, 1) := by decide +kernel
theorem dM_ones_3 : decode cM_ones 3 = .ok (.istore_n 2, 1) := by decide +kernel
theorem dM_ones_4 : decode cM_ones 4 = .ok (.iload_n 2, 1) := by decide +kernel
theorem dM_ones_5 : decode cM_ones 5 = .ok (.bipush 12, 2) := by decide +kernel
theorem dM_ones_7 : decode cM_ones 7 = .ok (.if_icmp .ge 17, 3) := by decide +kernel
theorem dM_ones_10 : decode cM_ones 10 = .ok (.iload_n 1, 1) := by decide +kernel
theorem dM_ones_11 : decode cM_ones 11 = .ok (.iload_n 0, 1) := by decide +kernel
theorem dM_ones_12 : decode cM_ones 12 = .ok (.iload_n 2, 1) := by decide +kernel
theorem dM_ones_13 : decode cM_ones 13 = .ok (.ishr, 1) := by decide +kernel
theorem dM_ones_14 : decode cM_ones 14 = .ok (.iconst 1, 1) := by decide +kernel
theorem dM_ones_15 : decode cM_ones 15 = .ok (.iand, 1) := by decide +kernel
theorem dM_ones_16 : decode cM_ones 16 = .ok (.iadd, 1) := by decide +kernel
theorem dM_ones_17 : decode cM_ones 17 = .ok (.istore_n 1, 1) := by decide +kernel
theorem dM_ones_18 : decode cM_ones 18 = .ok (.iinc 2 1, 3) := by decide +kernel
theorem dM_ones_21 : decode cM_ones 21 = .ok (.goto (-17), 3) := by decide +kernel
theorem dM_ones_24 : decode cM_ones 24 = .ok (.iload_n 1, 1) := by decide +kernel
theorem dM_ones_25 : decode cM_ones 25 = .ok (.ireturn, 1) := by decide +kernel
theorem dM_gather_0 : decode cM_gather 0 = .ok (.aload_n 0, 1) := by decide +kernel
theorem dM_gather_1 : decode cM_gather 1 = .ok (.iconst 0, 1) := by decide +kernel
theorem dM_gather_2 : decode cM_gather 2 = .ok (.putfield 103, 3) := by decide +kernel
theorem dM_gather_5 : decode cM_gather 5 = .ok (.iconst 0, 1) := by decide +kernel
theorem dM_gather_6 : decode cM_gather 6 = .ok (.istore_n 1, 1) := by decide +kernel
theorem dM_gather_7 : decode cM_gather 7 = .ok (.iload_n 1, 1) := by decide +kernel
theorem dM_gather_8 : decode cM_gather 8 = .ok (.iconst 2, 1) := by decide +kernel
theorem dM_gather_9 : decode cM_gather 9 = .ok (.if_icmp .ge 92, 3) := by decide +kernel
theorem dM_gather_12 : decode cM_gather 12 = .ok (.iconst 0, 1) := by decide +kernel
theorem dM_gather_13 : decode cM_gather 13 = .ok (.istore_n 2, 1) := by decide +kernel
theorem dM_gather_14 : decode cM_gather 14 = .ok (.iload_n 2, 1) := by decide +kernel
theorem dM_gather_15 : decode cM_gather 15 = .ok (.aload_n 0, 1) := by decide +kernel
theorem dM_gather_16 : decode cM_gather 16 = .ok (.getfield 75, 3) := by decide +kernel
theorem dM_gather_19 : decode cM_gather 19 = .ok (.if_icmp .ge 76, 3) := by decide +kernel
theorem dM_gather_22 : decode cM_gather 22 = .ok (.aload_n 0, 1) := by decide +kernel
theorem dM_gather_23 : decode cM_gather 23 = .ok (.iload_n 2, 1) := by decide +kernel
theorem dM_gather_24 : decode cM_gather 24 = .ok (.invokevirtual 106, 3) := by decide +kernel
theorem dM_gather_27 : decode cM_gather 27 = .ok (.aload_n 0, 1) := by decide +kernel
theorem dM_gather_28 : decode cM_gather 28 = .ok (.getfield 41, 3) := by decide +kernel
theorem dM_gather_31 : decode cM_gather 31 = .ok (.if_icmp .lt 7, 3) := by decide +kernel
theorem dM_gather_34 : decode cM_gather 34 = .ok (.iconst 1, 1) := by decide +kernel
theorem dM_gather_35 : decode cM_gather 35 = .ok (.goto 4, 3) := by decide +kernel
theorem dM_gather_38 : decode cM_gather 38 = .ok (.iconst 0, 1) := by decide +kernel
theorem dM_gather_39 : decode cM_gather 39 = .ok (.istore_n 3, 1) := by decide +kernel
theorem dM_gather_40 : decode cM_gather 40 = .ok (.aload_n 0, 1) := by decide +kernel
theorem dM_gather_41 : decode cM_gather 41 = .ok (.iload_n 2, 1) := by decide +kernel
theorem dM_gather_42 : decode cM_gather 42 = .ok (.invokevirtual 93, 3) := by decide +kernel
theorem dM_gather_45 : decode cM_gather 45 = .ok (.ifCond .eq 44, 3) := by decide +kernel
theorem dM_gather_48 : decode cM_gather 48 = .ok (.aload_n 0, 1) := by decide +kernel
theorem dM_gather_49 : decode cM_gather 49 = .ok (.iload_n 2, 1) := by decide +kernel
theorem dM_gather_50 : decode cM_gather 50 = .ok (.invokevirtual 100, 3) := by decide +kernel
theorem dM_gather_53 : decode cM_gather 53 = .ok (.ifCond .ne 36, 3) := by decide +kernel
theorem dM_gather_56 : decode cM_gather 56 = .ok (.iload_n 3, 1) := by decide +kernel
theorem dM_gather_57 : decode cM_gather 57 = .ok (.iload_n 1, 1) := by decide +kernel
theorem dM_gather_58 : decode cM_gather 58 = .ok (.ifCond .ne 7, 3) := by decide +kernel
theorem dM_gather_61 : decode cM_gather 61 = .ok (.iconst 1, 1) := by decide +kernel
theorem dM_gather_62 : decode cM_gather 62 = .ok (.goto 4, 3) := by decide +kernel
theorem dM_gather_65 : decode cM_gather 65 = .ok (.iconst 0, 1) := by decide +kernel
theorem dM_gather_66 : decode cM_gather 66 = .ok (.if_icmp .ne 23, 3) := by decide +kernel
theorem dM_gather_69 : decode cM_gather 69 = .ok (.aload_n 0, 1) := by decide +kernel
theorem dM_gather_70 : decode cM_gather 70 = .ok (.getfield 45, 3) := by decide +kernel
theorem dM_gather_73 : decode cM_gather 73 = .ok (.aload_n 0, 1) := by decide +kernel
theorem dM_gather_74 : decode cM_gather 74 = .ok (.getfield 103, 3) := by decide +kernel
theorem dM_gather_77 : decode cM_gather 77 = .ok (.iload_n 2, 1) := by decide +kernel
theorem dM_gather_78 : decode cM_gather 78 = .ok (.iastore, 1) := by decide +kernel
theorem dM_gather_79 : decode cM_gather 79 = .ok (.aload_n 0, 1) := by decide +kernel
theorem dM_gather_80 : decode cM_gather 80 = .ok (.dup, 1) := by decide +kernel
theorem dM_gather_81 : decode cM_gather 81 = .ok (.getfield 103, 3) := by decide +kernel
theorem dM_gather_84 : decode cM_gather 84 = .ok (.iconst 1, 1) := by decide +kernel
theorem dM_gather_85 : decode cM_gather 85 = .ok (.iadd, 1) := by decide +kernel
theorem dM_gather_86 : decode cM_gather 86 = .ok (.putfield 103, 3) := by decide +kernel
theorem dM_gather_89 : decode cM_gather 89 = .ok (.iinc 2 1, 3) := by decide +kernel
theorem dM_gather_92 : decode cM_gather 92 = .ok (.goto (-78), 3) := by decide +kernel
theorem dM_gather_95 : decode cM_gather 95 = .ok (.iinc 1 1, 3) := by decide +kernel
theorem dM_gather_98 : decode cM_gather 98 = .ok (.goto (-91), 3) := by decide +kernel
theorem dM_gather_101 : decode cM_gather 101 = .ok (.return_, 1) := by decide +kernel
theorem dM_may_0 : decode cM_may 0 = .ok (.iload_n 3, 1) := by decide +kernel
theorem dM_may_1 : decode cM_may 1 = .ok (.iload_n 2, 1) := by decide +kernel
theorem dM_may_2 : decode cM_may 2 = .ok (.ishr, 1) := by decide +kernel
theorem dM_may_3 : decode cM_may 3 = .ok (.iconst 1, 1) := by decide +kernel
theorem dM_may_4 : decode cM_may 4 = .ok (.iand, 1) := by decide +kernel
theorem dM_may_5 : decode cM_may 5 = .ok (.iconst 1, 1) := by decide +kernel
theorem dM_may_6 : decode cM_may 6 = .ok (.if_icmp .eq 12, 3) := by decide +kernel
theorem dM_may_9 : decode cM_may 9 = .ok (.aload_n 0, 1) := by decide +kernel
theorem dM_may_10 : decode cM_may 10 = .ok (.iload_n 2, 1) := by decide +kernel
theorem dM_may_11 : decode cM_may 11 = .ok (.iload_n 1, 1) := by decide +kernel
theorem dM_may_12 : decode cM_may 12 = .ok (.invokevirtual 96, 3) := by decide +kernel
theorem dM_may_15 : decode cM_may 15 = .ok (.ifCond .ne 5, 3) := by decide +kernel
theorem dM_may_18 : decode cM_may 18 = .ok (.iconst 0, 1) := by decide +kernel
theorem dM_may_19 : decode cM_may 19 = .ok (.ireturn, 1) := by decide +kernel
theorem dM_may_20 : decode cM_may 20 = .ok (.aload_n 0, 1) := by decide +kernel
theorem dM_may_21 : decode cM_may 21 = .ok (.iload_n 1, 1) := by decide +kernel
theorem dM_may_22 : decode cM_may 22 = .ok (.invokevirtual 106, 3) := by decide +kernel
theorem dM_may_25 : decode cM_may 25 = .ok (.aload_n 0, 1) := by decide +kernel
theorem dM_may_26 : decode cM_may 26 = .ok (.getfield 41, 3) := by decide +kernel
theorem dM_may_29 : decode cM_may 29 = .ok (.if_icmp .ge 16, 3) := by decide +kernel
theorem dM_may_32 : decode cM_may 32 = .ok (.iload_n 3, 1) := by decide +kernel
theorem dM_may_33 : decode cM_may 33 = .ok (.invokestatic 109, 3) := by decide +kernel
theorem dM_may_36 : decode cM_may 36 = .ok (.iconst 1, 1) := by decide +kernel
theorem dM_may_37 : decode cM_may 37 = .ok (.iadd, 1) := by decide +kernel
theorem dM_may_38 : decode cM_may 38 = .ok (.aload_n 0, 1) := by decide +kernel
theorem dM_may_39 : decode cM_may 39 = .ok (.invokevirtual 112, 3) := by decide +kernel
theorem dM_may_42 : decode cM_may 42 = .ok (.if_icmp .gt 7, 3) := by decide +kernel
theorem dM_may_45 : decode cM_may 45 = .ok (.iconst 1, 1) := by decide +kernel
theorem dM_may_46 : decode cM_may 46 = .ok (.goto 4, 3) := by decide +kernel
theorem dM_may_49 : decode cM_may 49 = .ok (.iconst 0, 1) := by decide +kernel
theorem dM_may_50 : decode cM_may 50 = .ok (.ireturn, 1) := by decide +kernel
theorem dM_with_0 : decode cM_with 0 = .ok (.aload_n 0, 1) := by decide +kernel
theorem dM_with_1 : decode cM_with 1 = .ok (.getfield 45, 3) := by decide +kernel
theorem dM_with_4 : decode cM_with 4 = .ok (.iload_n 1, 1) := by decide +kernel
theorem dM_with_5 : decode cM_with 5 = .ok (.iaload, 1) := by decide +kernel
theorem dM_with_6 : decode cM_with 6 = .ok (.istore 4, 2) := by decide +kernel
theorem dM_with_8 : decode cM_with 8 = .ok (.aload_n 0, 1) := by decide +kernel
theorem dM_with_9 : decode cM_with 9 = .ok (.iload 4, 2) := by decide +kernel
theorem dM_with_11 : decode cM_with 11 = .ok (.invokevirtual 106, 3) := by decide +kernel
theorem dM_with_14 : decode cM_with 14 = .ok (.i2l, 1) := by decide +kernel
theorem dM_with_15 : decode cM_with 15 = .ok (.aload_n 0, 1) := by decide +kernel
theorem dM_with_16 : decode cM_with 16 = .ok (.getfield 17, 3) := by decide +kernel
theorem dM_with_19 : decode cM_with 19 = .ok (.bipush 6, 2) := by decide +kernel
theorem dM_with_21 : decode cM_with 21 = .ok (.iload_n 2, 1) := by decide +kernel
theorem dM_with_22 : decode cM_with 22 = .ok (.imul, 1) := by decide +kernel
theorem dM_with_23 : decode cM_with 23 = .ok (.aload_n 0, 1) := by decide +kernel
theorem dM_with_24 : decode cM_with 24 = .ok (.getfield 26, 3) := by decide +kernel
theorem dM_with_27 : decode cM_with 27 = .ok (.iload 4, 2) := by decide +kernel
theorem dM_with_29 : decode cM_with 29 = .ok (.iaload, 1) := by decide +kernel
theorem dM_with_30 : decode cM_with 30 = .ok (.iadd, 1) := by decide +kernel
theorem dM_with_31 : decode cM_with 31 = .ok (.iaload, 1) := by decide +kernel
theorem dM_with_32 : decode cM_with 32 = .ok (.i2l, 1) := by decide +kernel
theorem dM_with_33 : decode cM_with 33 = .ok (.lmul, 1) := by decide +kernel
theorem dM_with_34 : decode cM_with 34 = .ok (.aload_n 0, 1) := by decide +kernel
theorem dM_with_35 : decode cM_with 35 = .ok (.getfield 49, 3) := by decide +kernel
theorem dM_with_38 : decode cM_with 38 = .ok (.sipush 4096, 3) := by decide +kernel
theorem dM_with_41 : decode cM_with 41 = .ok (.iload_n 1, 1) := by decide +kernel
theorem dM_with_42 : decode cM_with 42 = .ok (.iconst 1, 1) := by decide +kernel
theorem dM_with_43 : decode cM_with 43 = .ok (.iadd, 1) := by decide +kernel
