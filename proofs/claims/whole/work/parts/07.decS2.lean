theorem dS_free_15 : decode cS_free 15 = .ok (.getfield 20, 3) := by decide +kernel
theorem dS_free_18 : decode cS_free 18 = .ok (.iload_n 1, 1) := by decide +kernel
theorem dS_free_19 : decode cS_free 19 = .ok (.iaload, 1) := by decide +kernel
theorem dS_free_20 : decode cS_free 20 = .ok (.iconst (-1), 1) := by decide +kernel
theorem dS_free_21 : decode cS_free 21 = .ok (.iastore, 1) := by decide +kernel
theorem dS_free_22 : decode cS_free 22 = .ok (.aload_n 0, 1) := by decide +kernel
theorem dS_free_23 : decode cS_free 23 = .ok (.getfield 20, 3) := by decide +kernel
theorem dS_free_26 : decode cS_free 26 = .ok (.iload_n 1, 1) := by decide +kernel
theorem dS_free_27 : decode cS_free 27 = .ok (.iconst (-1), 1) := by decide +kernel
theorem dS_free_28 : decode cS_free 28 = .ok (.iastore, 1) := by decide +kernel
theorem dS_free_29 : decode cS_free 29 = .ok (.aload_n 0, 1) := by decide +kernel
theorem dS_free_30 : decode cS_free 30 = .ok (.getfield 17, 3) := by decide +kernel
theorem dS_free_33 : decode cS_free 33 = .ok (.iload_n 1, 1) := by decide +kernel
theorem dS_free_34 : decode cS_free 34 = .ok (.iconst 0, 1) := by decide +kernel
theorem dS_free_35 : decode cS_free 35 = .ok (.bastore, 1) := by decide +kernel
theorem dS_free_36 : decode cS_free 36 = .ok (.return_, 1) := by decide +kernel
theorem dS_layOutNeeds_0 : decode cS_layOutNeeds 0 = .ok (.aload_n 0, 1) := by decide +kernel
theorem dS_layOutNeeds_1 : decode cS_layOutNeeds 1 = .ok (.getfield 56, 3) := by decide +kernel
theorem dS_layOutNeeds_4 : decode cS_layOutNeeds 4 = .ok (.invokevirtual 212, 3) := by decide +kernel
theorem dS_layOutNeeds_7 : decode cS_layOutNeeds 7 = .ok (.aload_n 0, 1) := by decide +kernel
theorem dS_layOutNeeds_8 : decode cS_layOutNeeds 8 = .ok (.iconst 1, 1) := by decide +kernel
theorem dS_layOutNeeds_9 : decode cS_layOutNeeds 9 = .ok (.invokevirtual 215, 3) := by decide +kernel
theorem dS_layOutNeeds_12 : decode cS_layOutNeeds 12 = .ok (.aload_n 0, 1) := by decide +kernel
theorem dS_layOutNeeds_13 : decode cS_layOutNeeds 13 = .ok (.getfield 56, 3) := by decide +kernel
theorem dS_layOutNeeds_16 : decode cS_layOutNeeds 16 = .ok (.invokevirtual 219, 3) := by decide +kernel
theorem dS_layOutNeeds_19 : decode cS_layOutNeeds 19 = .ok (.aload_n 0, 1) := by decide +kernel
theorem dS_layOutNeeds_20 : decode cS_layOutNeeds 20 = .ok (.iconst 0, 1) := by decide +kernel
theorem dS_layOutNeeds_21 : decode cS_layOutNeeds 21 = .ok (.invokevirtual 215, 3) := by decide +kernel
theorem dS_layOutNeeds_24 : decode cS_layOutNeeds 24 = .ok (.return_, 1) := by decide +kernel
theorem dS_addNeeds_0 : decode cS_addNeeds 0 = .ok (.iconst 0, 1) := by decide +kernel
theorem dS_addNeeds_1 : decode cS_addNeeds 1 = .ok (.istore_n 2, 1) := by decide +kernel
theorem dS_addNeeds_2 : decode cS_addNeeds 2 = .ok (.iload_n 2, 1) := by decide +kernel
theorem dS_addNeeds_3 : decode cS_addNeeds 3 = .ok (.aload_n 0, 1) := by decide +kernel
theorem dS_addNeeds_4 : decode cS_addNeeds 4 = .ok (.getfield 102, 3) := by decide +kernel
theorem dS_addNeeds_7 : decode cS_addNeeds 7 = .ok (.if_icmp .ge 51, 3) := by decide +kernel
theorem dS_addNeeds_10 : decode cS_addNeeds 10 = .ok (.aload_n 0, 1) := by decide +kernel
theorem dS_addNeeds_11 : decode cS_addNeeds 11 = .ok (.iload_n 2, 1) := by decide +kernel
theorem dS_addNeeds_12 : decode cS_addNeeds 12 = .ok (.invokevirtual 160, 3) := by decide +kernel
theorem dS_addNeeds_15 : decode cS_addNeeds 15 = .ok (.ifCond .eq 37, 3) := by decide +kernel
theorem dS_addNeeds_18 : decode cS_addNeeds 18 = .ok (.aload_n 0, 1) := by decide +kernel
theorem dS_addNeeds_19 : decode cS_addNeeds 19 = .ok (.iload_n 2, 1) := by decide +kernel
theorem dS_addNeeds_20 : decode cS_addNeeds 20 = .ok (.invokevirtual 222, 3) := by decide +kernel
theorem dS_addNeeds_23 : decode cS_addNeeds 23 = .ok (.ifCond .ne 29, 3) := by decide +kernel
theorem dS_addNeeds_26 : decode cS_addNeeds 26 = .ok (.aload_n 0, 1) := by decide +kernel
theorem dS_addNeeds_27 : decode cS_addNeeds 27 = .ok (.iload_n 2, 1) := by decide +kernel
theorem dS_addNeeds_28 : decode cS_addNeeds 28 = .ok (.invokevirtual 209, 3) := by decide +kernel
theorem dS_addNeeds_31 : decode cS_addNeeds 31 = .ok (.aload_n 0, 1) := by decide +kernel
theorem dS_addNeeds_32 : decode cS_addNeeds 32 = .ok (.getfield 50, 3) := by decide +kernel
theorem dS_addNeeds_35 : decode cS_addNeeds 35 = .ok (.if_icmp .lt 7, 3) := by decide +kernel
theorem dS_addNeeds_38 : decode cS_addNeeds 38 = .ok (.iconst 1, 1) := by decide +kernel
theorem dS_addNeeds_39 : decode cS_addNeeds 39 = .ok (.goto 4, 3) := by decide +kernel
theorem dS_addNeeds_42 : decode cS_addNeeds 42 = .ok (.iconst 0, 1) := by decide +kernel
theorem dS_addNeeds_43 : decode cS_addNeeds 43 = .ok (.iload_n 1, 1) := by decide +kernel
theorem dS_addNeeds_44 : decode cS_addNeeds 44 = .ok (.if_icmp .ne 8, 3) := by decide +kernel
theorem dS_addNeeds_47 : decode cS_addNeeds 47 = .ok (.aload_n 0, 1) := by decide +kernel
theorem dS_addNeeds_48 : decode cS_addNeeds 48 = .ok (.iload_n 2, 1) := by decide +kernel
theorem dS_addNeeds_49 : decode cS_addNeeds 49 = .ok (.invokevirtual 225, 3) := by decide +kernel
theorem dS_addNeeds_52 : decode cS_addNeeds 52 = .ok (.iinc 2 1, 3) := by decide +kernel
theorem dS_addNeeds_55 : decode cS_addNeeds 55 = .ok (.goto (-53), 3) := by decide +kernel
theorem dS_addNeeds_58 : decode cS_addNeeds 58 = .ok (.return_, 1) := by decide +kernel
theorem dS_addNeed_0 : decode cS_addNeed 0 = .ok (.aload_n 0, 1) := by decide +kernel
theorem dS_addNeed_1 : decode cS_addNeed 1 = .ok (.getfield 56, 3) := by decide +kernel
theorem dS_addNeed_4 : decode cS_addNeed 4 = .ok (.iload_n 1, 1) := by decide +kernel
theorem dS_addNeed_5 : decode cS_addNeed 5 = .ok (.invokevirtual 228, 3) := by decide +kernel
theorem dS_addNeed_8 : decode cS_addNeed 8 = .ok (.istore_n 2, 1) := by decide +kernel
theorem dS_addNeed_9 : decode cS_addNeed 9 = .ok (.iconst 0, 1) := by decide +kernel
theorem dS_addNeed_10 : decode cS_addNeed 10 = .ok (.istore_n 3, 1) := by decide +kernel
theorem dS_addNeed_11 : decode cS_addNeed 11 = .ok (.iload_n 3, 1) := by decide +kernel
theorem dS_addNeed_12 : decode cS_addNeed 12 = .ok (.aload_n 0, 1) := by decide +kernel
theorem dS_addNeed_13 : decode cS_addNeed 13 = .ok (.getfield 74, 3) := by decide +kernel
theorem dS_addNeed_16 : decode cS_addNeed 16 = .ok (.if_icmp .ge 46, 3) := by decide +kernel
theorem dS_addNeed_19 : decode cS_addNeed 19 = .ok (.aload_n 0, 1) := by decide +kernel
theorem dS_addNeed_20 : decode cS_addNeed 20 = .ok (.iload_n 3, 1) := by decide +kernel
theorem dS_addNeed_21 : decode cS_addNeed 21 = .ok (.invokevirtual 206, 3) := by decide +kernel
theorem dS_addNeed_24 : decode cS_addNeed 24 = .ok (.ifCond .ne 32, 3) := by decide +kernel
theorem dS_addNeed_27 : decode cS_addNeed 27 = .ok (.aload_n 0, 1) := by decide +kernel
theorem dS_addNeed_28 : decode cS_addNeed 28 = .ok (.iload_n 3, 1) := by decide +kernel
theorem dS_addNeed_29 : decode cS_addNeed 29 = .ok (.iload_n 1, 1) := by decide +kernel
theorem dS_addNeed_30 : decode cS_addNeed 30 = .ok (.invokevirtual 178, 3) := by decide +kernel
theorem dS_addNeed_33 : decode cS_addNeed 33 = .ok (.ifCond .eq 23, 3) := by decide +kernel
theorem dS_addNeed_36 : decode cS_addNeed 36 = .ok (.aload_n 0, 1) := by decide +kernel
theorem dS_addNeed_37 : decode cS_addNeed 37 = .ok (.getfield 56, 3) := by decide +kernel
theorem dS_addNeed_40 : decode cS_addNeed 40 = .ok (.iload_n 2, 1) := by decide +kernel
theorem dS_addNeed_41 : decode cS_addNeed 41 = .ok (.iload_n 3, 1) := by decide +kernel
theorem dS_addNeed_42 : decode cS_addNeed 42 = .ok (.aload_n 0, 1) := by decide +kernel
theorem dS_addNeed_43 : decode cS_addNeed 43 = .ok (.iload_n 1, 1) := by decide +kernel
theorem dS_addNeed_44 : decode cS_addNeed 44 = .ok (.invokevirtual 209, 3) := by decide +kernel
theorem dS_addNeed_47 : decode cS_addNeed 47 = .ok (.aload_n 0, 1) := by decide +kernel
theorem dS_addNeed_48 : decode cS_addNeed 48 = .ok (.iload_n 3, 1) := by decide +kernel
theorem dS_addNeed_49 : decode cS_addNeed 49 = .ok (.iload_n 1, 1) := by decide +kernel
theorem dS_addNeed_50 : decode cS_addNeed 50 = .ok (.invokevirtual 181, 3) := by decide +kernel
theorem dS_addNeed_53 : decode cS_addNeed 53 = .ok (.invokevirtual 231, 3) := by decide +kernel
theorem dS_addNeed_56 : decode cS_addNeed 56 = .ok (.iinc 3 1, 3) := by decide +kernel
theorem dS_addNeed_59 : decode cS_addNeed 59 = .ok (.goto (-48), 3) := by decide +kernel
theorem dS_addNeed_62 : decode cS_addNeed 62 = .ok (.return_, 1) := by decide +kernel
theorem dS_spareUnits_0 : decode cS_spareUnits 0 = .ok (.aload_n 0, 1) := by decide +kernel
theorem dS_spareUnits_1 : decode cS_spareUnits 1 = .ok (.getfield 46, 3) := by decide +kernel
theorem dS_spareUnits_4 : decode cS_spareUnits 4 = .ok (.ineg, 1) := by decide +kernel
theorem dS_spareUnits_5 : decode cS_spareUnits 5 = .ok (.istore_n 1, 1) := by decide +kernel
theorem dS_spareUnits_6 : decode cS_spareUnits 6 = .ok (.iconst 0, 1) := by decide +kernel
theorem dS_spareUnits_7 : decode cS_spareUnits 7 = .ok (.istore_n 2, 1) := by decide +kernel
theorem dS_spareUnits_8 : decode cS_spareUnits 8 = .ok (.iload_n 2, 1) := by decide +kernel
theorem dS_spareUnits_9 : decode cS_spareUnits 9 = .ok (.aload_n 0, 1) := by decide +kernel
theorem dS_spareUnits_10 : decode cS_spareUnits 10 = .ok (.getfield 74, 3) := by decide +kernel
theorem dS_spareUnits_13 : decode cS_spareUnits 13 = .ok (.if_icmp .ge 29, 3) := by decide +kernel
theorem dS_spareUnits_16 : decode cS_spareUnits 16 = .ok (.aload_n 0, 1) := by decide +kernel
theorem dS_spareUnits_17 : decode cS_spareUnits 17 = .ok (.getfield 13, 3) := by decide +kernel
theorem dS_spareUnits_20 : decode cS_spareUnits 20 = .ok (.iload_n 2, 1) := by decide +kernel
theorem dS_spareUnits_21 : decode cS_spareUnits 21 = .ok (.baload, 1) := by decide +kernel
theorem dS_spareUnits_22 : decode cS_spareUnits 22 = .ok (.ifCond .ne 14, 3) := by decide +kernel
theorem dS_spareUnits_25 : decode cS_spareUnits 25 = .ok (.aload_n 0, 1) := by decide +kernel
theorem dS_spareUnits_26 : decode cS_spareUnits 26 = .ok (.iload_n 2, 1) := by decide +kernel
theorem dS_spareUnits_27 : decode cS_spareUnits 27 = .ok (.invokevirtual 206, 3) := by decide +kernel
theorem dS_spareUnits_30 : decode cS_spareUnits 30 = .ok (.ifCond .ne 6, 3) := by decide +kernel
theorem dS_spareUnits_33 : decode cS_spareUnits 33 = .ok (.iinc 1 1, 3) := by decide +kernel
theorem dS_spareUnits_36 : decode cS_spareUnits 36 = .ok (.iinc 2 1, 3) := by decide +kernel
theorem dS_spareUnits_39 : decode cS_spareUnits 39 = .ok (.goto (-31), 3) := by decide +kernel
theorem dS_spareUnits_42 : decode cS_spareUnits 42 = .ok (.iload_n 1, 1) := by decide +kernel
theorem dS_spareUnits_43 : decode cS_spareUnits 43 = .ok (.ireturn, 1) := by decide +kernel
theorem dS_presentStays_0 : decode cS_presentStays 0 = .ok (.iconst 0, 1) := by decide +kernel
theorem dS_presentStays_1 : decode cS_presentStays 1 = .ok (.istore_n 3, 1) := by decide +kernel
theorem dS_presentStays_2 : decode cS_presentStays 2 = .ok (.iload_n 3, 1) := by decide +kernel
theorem dS_presentStays_3 : decode cS_presentStays 3 = .ok (.aload_n 0, 1) := by decide +kernel
theorem dS_presentStays_4 : decode cS_presentStays 4 = .ok (.getfield 56, 3) := by decide +kernel
theorem dS_presentStays_7 : decode cS_presentStays 7 = .ok (.invokevirtual 235, 3) := by decide +kernel
theorem dS_presentStays_10 : decode cS_presentStays 10 = .ok (.if_icmp .ge 30, 3) := by decide +kernel
theorem dS_presentStays_13 : decode cS_presentStays 13 = .ok (.aload_n 0, 1) := by decide +kernel
theorem dS_presentStays_14 : decode cS_presentStays 14 = .ok (.getfield 56, 3) := by decide +kernel
theorem dS_presentStays_17 : decode cS_presentStays 17 = .ok (.iload_n 3, 1) := by decide +kernel
theorem dS_presentStays_18 : decode cS_presentStays 18 = .ok (.aload_n 0, 1) := by decide +kernel
theorem dS_presentStays_19 : decode cS_presentStays 19 = .ok (.getfield 40, 3) := by decide +kernel
theorem dS_presentStays_22 : decode cS_presentStays 22 = .ok (.aload_n 0, 1) := by decide +kernel
theorem dS_presentStays_23 : decode cS_presentStays 23 = .ok (.getfield 56, 3) := by decide +kernel
theorem dS_presentStays_26 : decode cS_presentStays 26 = .ok (.iload_n 3, 1) := by decide +kernel
theorem dS_presentStays_27 : decode cS_presentStays 27 = .ok (.invokevirtual 238, 3) := by decide +kernel
theorem dS_presentStays_30 : decode cS_presentStays 30 = .ok (.iaload, 1) := by decide +kernel
theorem dS_presentStays_31 : decode cS_presentStays 31 = .ok (.invokevirtual 241, 3) := by decide +kernel
theorem dS_presentStays_34 : decode cS_presentStays 34 = .ok (.iinc 3 1, 3) := by decide +kernel
theorem dS_presentStays_37 : decode cS_presentStays 37 = .ok (.goto (-35), 3) := by decide +kernel
theorem dS_presentStays_40 : decode cS_presentStays 40 = .ok (.aload_n 0, 1) := by decide +kernel
theorem dS_presentStays_41 : decode cS_presentStays 41 = .ok (.getfield 56, 3) := by decide +kernel
theorem dS_presentStays_44 : decode cS_presentStays 44 = .ok (.iload_n 1, 1) := by decide +kernel
theorem dS_presentStays_45 : decode cS_presentStays 45 = .ok (.invokevirtual 245, 3) := by decide +kernel
theorem dS_presentStays_48 : decode cS_presentStays 48 = .ok (.ifCond .eq 20, 3) := by decide +kernel
theorem dS_presentStays_51 : decode cS_presentStays 51 = .ok (.aload_n 0, 1) := by decide +kernel
theorem dS_presentStays_52 : decode cS_presentStays 52 = .ok (.getfield 56, 3) := by decide +kernel
theorem dS_presentStays_55 : decode cS_presentStays 55 = .ok (.invokevirtual 248, 3) := by decide +kernel
theorem dS_presentStays_58 : decode cS_presentStays 58 = .ok (.iload_n 2, 1) := by decide +kernel
theorem dS_presentStays_59 : decode cS_presentStays 59 = .ok (.i2l, 1) := by decide +kernel
theorem dS_presentStays_60 : decode cS_presentStays 60 = .ok (.lcmp, 1) := by decide +kernel
theorem dS_presentStays_61 : decode cS_presentStays 61 = .ok (.ifCond .ge 7, 3) := by decide +kernel
theorem dS_presentStays_64 : decode cS_presentStays 64 = .ok (.iconst 1, 1) := by decide +kernel
theorem dS_presentStays_65 : decode cS_presentStays 65 = .ok (.goto 4, 3) := by decide +kernel
theorem dS_presentStays_68 : decode cS_presentStays 68 = .ok (.iconst 0, 1) := by decide +kernel
theorem dS_presentStays_69 : decode cS_presentStays 69 = .ok (.ireturn, 1) := by decide +kernel
theorem dS_takeBest_0 : decode cS_takeBest 0 = .ok (.iconst 0, 1) := by decide +kernel
theorem dS_takeBest_1 : decode cS_takeBest 1 = .ok (.istore_n 1, 1) := by decide +kernel
theorem dS_takeBest_2 : decode cS_takeBest 2 = .ok (.iload_n 1, 1) := by decide +kernel
theorem dS_takeBest_3 : decode cS_takeBest 3 = .ok (.aload_n 0, 1) := by decide +kernel
theorem dS_takeBest_4 : decode cS_takeBest 4 = .ok (.getfield 56, 3) := by decide +kernel
theorem dS_takeBest_7 : decode cS_takeBest 7 = .ok (.invokevirtual 235, 3) := by decide +kernel
theorem dS_takeBest_10 : decode cS_takeBest 10 = .ok (.if_icmp .ge 33, 3) := by decide +kernel
theorem dS_takeBest_13 : decode cS_takeBest 13 = .ok (.aload_n 0, 1) := by decide +kernel
theorem dS_takeBest_14 : decode cS_takeBest 14 = .ok (.getfield 40, 3) := by decide +kernel
theorem dS_takeBest_17 : decode cS_takeBest 17 = .ok (.aload_n 0, 1) := by decide +kernel
theorem dS_takeBest_18 : decode cS_takeBest 18 = .ok (.getfield 56, 3) := by decide +kernel
theorem dS_takeBest_21 : decode cS_takeBest 21 = .ok (.iload_n 1, 1) := by decide +kernel
theorem dS_takeBest_22 : decode cS_takeBest 22 = .ok (.invokevirtual 238, 3) := by decide +kernel
theorem dS_takeBest_25 : decode cS_takeBest 25 = .ok (.iaload, 1) := by decide +kernel
theorem dS_takeBest_26 : decode cS_takeBest 26 = .ok (.istore_n 2, 1) := by decide +kernel
theorem dS_takeBest_27 : decode cS_takeBest 27 = .ok (.iload_n 2, 1) := by decide +kernel
theorem dS_takeBest_28 : decode cS_takeBest 28 = .ok (.iconst (-1), 1) := by decide +kernel
theorem dS_takeBest_29 : decode cS_takeBest 29 = .ok (.if_icmp .eq 8, 3) := by decide +kernel
theorem dS_takeBest_32 : decode cS_takeBest 32 = .ok (.aload_n 0, 1) := by decide +kernel
theorem dS_takeBest_33 : decode cS_takeBest 33 = .ok (.iload_n 2, 1) := by decide +kernel
theorem dS_takeBest_34 : decode cS_takeBest 34 = .ok (.invokevirtual 122, 3) := by decide +kernel
theorem dS_takeBest_37 : decode cS_takeBest 37 = .ok (.iinc 1 1, 3) := by decide +kernel
theorem dS_takeBest_40 : decode cS_takeBest 40 = .ok (.goto (-38), 3) := by decide +kernel
theorem dS_takeBest_43 : decode cS_takeBest 43 = .ok (.iconst 0, 1) := by decide +kernel
theorem dS_takeBest_44 : decode cS_takeBest 44 = .ok (.istore_n 1, 1) := by decide +kernel
theorem dS_takeBest_45 : decode cS_takeBest 45 = .ok (.iload_n 1, 1) := by decide +kernel
theorem dS_takeBest_46 : decode cS_takeBest 46 = .ok (.aload_n 0, 1) := by decide +kernel
theorem dS_takeBest_47 : decode cS_takeBest 47 = .ok (.getfield 56, 3) := by decide +kernel
theorem dS_takeBest_50 : decode cS_takeBest 50 = .ok (.invokevirtual 235, 3) := by decide +kernel
theorem dS_takeBest_53 : decode cS_takeBest 53 = .ok (.if_icmp .ge 51, 3) := by decide +kernel
theorem dS_takeBest_56 : decode cS_takeBest 56 = .ok (.aload_n 0, 1) := by decide +kernel
theorem dS_takeBest_57 : decode cS_takeBest 57 = .ok (.getfield 56, 3) := by decide +kernel
theorem dS_takeBest_60 : decode cS_takeBest 60 = .ok (.iload_n 1, 1) := by decide +kernel
theorem dS_takeBest_61 : decode cS_takeBest 61 = .ok (.invokevirtual 252, 3) := by decide +kernel
theorem dS_takeBest_64 : decode cS_takeBest 64 = .ok (.istore_n 2, 1) := by decide +kernel
theorem dS_takeBest_65 : decode cS_takeBest 65 = .ok (.iload_n 2, 1) := by decide +kernel
theorem dS_takeBest_66 : decode cS_takeBest 66 = .ok (.iconst (-1), 1) := by decide +kernel
theorem dS_takeBest_67 : decode cS_takeBest 67 = .ok (.if_icmp .eq 31, 3) := by decide +kernel
theorem dS_takeBest_70 : decode cS_takeBest 70 = .ok (.aload_n 0, 1) := by decide +kernel
theorem dS_takeBest_71 : decode cS_takeBest 71 = .ok (.getfield 40, 3) := by decide +kernel
theorem dS_takeBest_74 : decode cS_takeBest 74 = .ok (.aload_n 0, 1) := by decide +kernel
theorem dS_takeBest_75 : decode cS_takeBest 75 = .ok (.getfield 56, 3) := by decide +kernel
theorem dS_takeBest_78 : decode cS_takeBest 78 = .ok (.iload_n 1, 1) := by decide +kernel
theorem dS_takeBest_79 : decode cS_takeBest 79 = .ok (.invokevirtual 238, 3) := by decide +kernel
theorem dS_takeBest_82 : decode cS_takeBest 82 = .ok (.iload_n 2, 1) := by decide +kernel
theorem dS_takeBest_83 : decode cS_takeBest 83 = .ok (.iastore, 1) := by decide +kernel
theorem dS_takeBest_84 : decode cS_takeBest 84 = .ok (.aload_n 0, 1) := by decide +kernel
theorem dS_takeBest_85 : decode cS_takeBest 85 = .ok (.getfield 20, 3) := by decide +kernel
theorem dS_takeBest_88 : decode cS_takeBest 88 = .ok (.iload_n 2, 1) := by decide +kernel
theorem dS_takeBest_89 : decode cS_takeBest 89 = .ok (.aload_n 0, 1) := by decide +kernel
theorem dS_takeBest_90 : decode cS_takeBest 90 = .ok (.getfield 56, 3) := by decide +kernel
theorem dS_takeBest_93 : decode cS_takeBest 93 = .ok (.iload_n 1, 1) := by decide +kernel
theorem dS_takeBest_94 : decode cS_takeBest 94 = .ok (.invokevirtual 238, 3) := by decide +kernel
theorem dS_takeBest_97 : decode cS_takeBest 97 = .ok (.iastore, 1) := by decide +kernel
theorem dS_takeBest_98 : decode cS_takeBest 98 = .ok (.iinc 1 1, 3) := by decide +kernel
theorem dS_takeBest_101 : decode cS_takeBest 101 = .ok (.goto (-56), 3) := by decide +kernel
theorem dS_takeBest_104 : decode cS_takeBest 104 = .ok (.return_, 1) := by decide +kernel
theorem dP_init_0 : decode cP_init 0 = .ok (.aload_n 0, 1) := by decide +kernel
theorem dP_init_1 : decode cP_init 1 = .ok (.invokespecial 3, 3) := by decide +kernel
theorem dP_init_4 : decode cP_init 4 = .ok (.aload_n 0, 1) := by decide +kernel
theorem dP_init_5 : decode cP_init 5 = .ok (.bipush 10, 2) := by decide +kernel
theorem dP_init_7 : decode cP_init 7 = .ok (.newarray .int, 2) := by decide +kernel
theorem dP_init_9 : decode cP_init 9 = .ok (.putfield 9, 3) := by decide +kernel
theorem dP_init_12 : decode cP_init 12 = .ok (.aload_n 0, 1) := by decide +kernel
theorem dP_init_13 : decode cP_init 13 = .ok (.bipush 10, 2) := by decide +kernel
theorem dP_init_15 : decode cP_init 15 = .ok (.bipush 12, 2) := by decide +kernel
theorem dP_init_17 : decode cP_init 17 = .ok (.multianewarray 15 2, 4) := by decide +kernel
theorem dP_init_21 : decode cP_init 21 = .ok (.putfield 17, 3) := by decide +kernel
theorem dP_init_24 : decode cP_init 24 = .ok (.aload_n 0, 1) := by decide +kernel
theorem dP_init_25 : decode cP_init 25 = .ok (.bipush 10, 2) := by decide +kernel
theorem dP_init_27 : decode cP_init 27 = .ok (.bipush 12, 2) := by decide +kernel
theorem dP_init_29 : decode cP_init 29 = .ok (.multianewarray 15 2, 4) := by decide +kernel
theorem dP_init_33 : decode cP_init 33 = .ok (.putfield 20, 3) := by decide +kernel
theorem dP_init_36 : decode cP_init 36 = .ok (.aload_n 0, 1) := by decide +kernel
theorem dP_init_37 : decode cP_init 37 = .ok (.bipush 10, 2) := by decide +kernel
theorem dP_init_39 : decode cP_init 39 = .ok (.newarray .int, 2) := by decide +kernel
theorem dP_init_41 : decode cP_init 41 = .ok (.putfield 23, 3) := by decide +kernel
theorem dP_init_44 : decode cP_init 44 = .ok (.aload_n 0, 1) := by decide +kernel
theorem dP_init_45 : decode cP_init 45 = .ok (.bipush 12, 2) := by decide +kernel
theorem dP_init_47 : decode cP_init 47 = .ok (.newarray .int, 2) := by decide +kernel
theorem dP_init_49 : decode cP_init 49 = .ok (.putfield 26, 3) := by decide +kernel
theorem dP_init_52 : decode cP_init 52 = .ok (.aload_n 0, 1) := by decide +kernel
theorem dP_init_53 : decode cP_init 53 = .ok (.bipush 10, 2) := by decide +kernel
theorem dP_init_55 : decode cP_init 55 = .ok (.newarray .int, 2) := by decide +kernel
theorem dP_init_57 : decode cP_init 57 = .ok (.putfield 29, 3) := by decide +kernel
theorem dP_init_60 : decode cP_init 60 = .ok (.aload_n 0, 1) := by decide +kernel
theorem dP_init_61 : decode cP_init 61 = .ok (.bipush 10, 2) := by decide +kernel
theorem dP_init_63 : decode cP_init 63 = .ok (.newarray .boolean, 2) := by decide +kernel
theorem dP_init_65 : decode cP_init 65 = .ok (.putfield 32, 3) := by decide +kernel
theorem dP_init_68 : decode cP_init 68 = .ok (.aload_n 0, 1) := by decide +kernel
theorem dP_init_69 : decode cP_init 69 = .ok (.bipush 10, 2) := by decide +kernel
theorem dP_init_71 : decode cP_init 71 = .ok (.newarray .long, 2) := by decide +kernel
theorem dP_init_73 : decode cP_init 73 = .ok (.putfield 36, 3) := by decide +kernel
theorem dP_init_76 : decode cP_init 76 = .ok (.aload_n 0, 1) := by decide +kernel
theorem dP_init_77 : decode cP_init 77 = .ok (.bipush 10, 2) := by decide +kernel
theorem dP_init_79 : decode cP_init 79 = .ok (.newarray .long, 2) := by decide +kernel
theorem dP_init_81 : decode cP_init 81 = .ok (.putfield 40, 3) := by decide +kernel
theorem dP_init_84 : decode cP_init 84 = .ok (.aload_n 0, 1) := by decide +kernel
theorem dP_init_85 : decode cP_init 85 = .ok (.bipush 12, 2) := by decide +kernel
theorem dP_init_87 : decode cP_init 87 = .ok (.newarray .int, 2) := by decide +kernel
theorem dP_init_89 : decode cP_init 89 = .ok (.putfield 43, 3) := by decide +kernel
theorem dP_init_92 : decode cP_init 92 = .ok (.aload_n 0, 1) := by decide +kernel
theorem dP_init_93 : decode cP_init 93 = .ok (.bipush 12, 2) := by decide +kernel
theorem dP_init_95 : decode cP_init 95 = .ok (.newarray .long, 2) := by decide +kernel
theorem dP_init_97 : decode cP_init 97 = .ok (.putfield 46, 3) := by decide +kernel
theorem dP_init_100 : decode cP_init 100 = .ok (.aload_n 0, 1) := by decide +kernel
theorem dP_init_101 : decode cP_init 101 = .ok (.bipush 12, 2) := by decide +kernel
theorem dP_init_103 : decode cP_init 103 = .ok (.newarray .long, 2) := by decide +kernel
theorem dP_init_105 : decode cP_init 105 = .ok (.putfield 49, 3) := by decide +kernel
theorem dP_init_108 : decode cP_init 108 = .ok (.lconst 1, 1) := by decide +kernel
theorem dP_init_109 : decode cP_init 109 = .ok (.lstore_n 1, 1) := by decide +kernel
theorem dP_init_110 : decode cP_init 110 = .ok (.bipush 9, 2) := by decide +kernel
theorem dP_init_112 : decode cP_init 112 = .ok (.istore_n 3, 1) := by decide +kernel
theorem dP_init_113 : decode cP_init 113 = .ok (.iload_n 3, 1) := by decide +kernel
theorem dP_init_114 : decode cP_init 114 = .ok (.ifCond .lt 48, 3) := by decide +kernel
theorem dP_init_117 : decode cP_init 117 = .ok (.iconst 0, 1) := by decide +kernel
theorem dP_init_118 : decode cP_init 118 = .ok (.istore 4, 2) := by decide +kernel
theorem dP_init_120 : decode cP_init 120 = .ok (.iload 4, 2) := by decide +kernel
theorem dP_init_122 : decode cP_init 122 = .ok (.bipush 12, 2) := by decide +kernel
theorem dP_init_124 : decode cP_init 124 = .ok (.if_icmp .ge 26, 3) := by decide +kernel
theorem dP_init_127 : decode cP_init 127 = .ok (.aload_n 0, 1) := by decide +kernel
theorem dP_init_128 : decode cP_init 128 = .ok (.getfield 20, 3) := by decide +kernel
theorem dP_init_131 : decode cP_init 131 = .ok (.iload_n 3, 1) := by decide +kernel
theorem dP_init_132 : decode cP_init 132 = .ok (.aaload, 1) := by decide +kernel
theorem dP_init_133 : decode cP_init 133 = .ok (.iload 4, 2) := by decide +kernel
theorem dP_init_135 : decode cP_init 135 = .ok (.iload 4, 2) := by decide +kernel
theorem dP_init_137 : decode cP_init 137 = .ok (.bipush 12, 2) := by decide +kernel
theorem dP_init_139 : decode cP_init 139 = .ok (.isub, 1) := by decide +kernel
theorem dP_init_140 : decode cP_init 140 = .ok (.i2l, 1) := by decide +kernel
theorem dP_init_141 : decode cP_init 141 = .ok (.lload_n 1, 1) := by decide +kernel
theorem dP_init_142 : decode cP_init 142 = .ok (.lmul, 1) := by decide +kernel
theorem dP_init_143 : decode cP_init 143 = .ok (.lastore, 1) := by decide +kernel
theorem dP_init_144 : decode cP_init 144 = .ok (.iinc 4 1, 3) := by decide +kernel
theorem dP_init_147 : decode cP_init 147 = .ok (.goto (-27), 3) := by decide +kernel
theorem dP_init_150 : decode cP_init 150 = .ok (.lload_n 1, 1) := by decide +kernel
theorem dP_init_151 : decode cP_init 151 = .ok (.ldc2_w 52, 3) := by decide +kernel
theorem dP_init_154 : decode cP_init 154 = .ok (.lmul, 1) := by decide +kernel
theorem dP_init_155 : decode cP_init 155 = .ok (.lstore_n 1, 1) := by decide +kernel
theorem dP_init_156 : decode cP_init 156 = .ok (.iinc 3 (-1), 3) := by decide +kernel
theorem dP_init_159 : decode cP_init 159 = .ok (.goto (-46), 3) := by decide +kernel
theorem dP_init_162 : decode cP_init 162 = .ok (.return_, 1) := by decide +kernel
theorem dP_clear_0 : decode cP_clear 0 = .ok (.aload_n 0, 1) := by decide +kernel
theorem dP_clear_1 : decode cP_clear 1 = .ok (.iconst 0, 1) := by decide +kernel
theorem dP_clear_2 : decode cP_clear 2 = .ok (.putfield 54, 3) := by decide +kernel
theorem dP_clear_5 : decode cP_clear 5 = .ok (.aload_n 0, 1) := by decide +kernel
theorem dP_clear_6 : decode cP_clear 6 = .ok (.iconst 0, 1) := by decide +kernel
theorem dP_clear_7 : decode cP_clear 7 = .ok (.putfield 58, 3) := by decide +kernel
theorem dP_clear_10 : decode cP_clear 10 = .ok (.iconst 0, 1) := by decide +kernel
theorem dP_clear_11 : decode cP_clear 11 = .ok (.istore_n 1, 1) := by decide +kernel
theorem dP_clear_12 : decode cP_clear 12 = .ok (.iload_n 1, 1) := by decide +kernel
theorem dP_clear_13 : decode cP_clear 13 = .ok (.bipush 10, 2) := by decide +kernel
theorem dP_clear_15 : decode cP_clear 15 = .ok (.if_icmp .ge 19, 3) := by decide +kernel
theorem dP_clear_18 : decode cP_clear 18 = .ok (.aload_n 0, 1) := by decide +kernel
theorem dP_clear_19 : decode cP_clear 19 = .ok (.getfield 17, 3) := by decide +kernel
theorem dP_clear_22 : decode cP_clear 22 = .ok (.iload_n 1, 1) := by decide +kernel
theorem dP_clear_23 : decode cP_clear 23 = .ok (.aaload, 1) := by decide +kernel
theorem dP_clear_24 : decode cP_clear 24 = .ok (.lconst 0, 1) := by decide +kernel
theorem dP_clear_25 : decode cP_clear 25 = .ok (.invokestatic 61, 3) := by decide +kernel
theorem dP_clear_28 : decode cP_clear 28 = .ok (.iinc 1 1, 3) := by decide +kernel
theorem dP_clear_31 : decode cP_clear 31 = .ok (.goto (-19), 3) := by decide +kernel
theorem dP_clear_34 : decode cP_clear 34 = .ok (.return_, 1) := by decide +kernel
theorem dP_addRow_0 : decode cP_addRow 0 = .ok (.aload_n 0, 1) := by decide +kernel
theorem dP_addRow_1 : decode cP_addRow 1 = .ok (.getfield 9, 3) := by decide +kernel
theorem dP_addRow_4 : decode cP_addRow 4 = .ok (.aload_n 0, 1) := by decide +kernel
theorem dP_addRow_5 : decode cP_addRow 5 = .ok (.getfield 54, 3) := by decide +kernel
theorem dP_addRow_8 : decode cP_addRow 8 = .ok (.iload_n 1, 1) := by decide +kernel
theorem dP_addRow_9 : decode cP_addRow 9 = .ok (.iastore, 1) := by decide +kernel
theorem dP_addRow_10 : decode cP_addRow 10 = .ok (.aload_n 0, 1) := by decide +kernel
theorem dP_addRow_11 : decode cP_addRow 11 = .ok (.dup, 1) := by decide +kernel
theorem dP_addRow_12 : decode cP_addRow 12 = .ok (.getfield 54, 3) := by decide +kernel
theorem dP_addRow_15 : decode cP_addRow 15 = .ok (.iconst 1, 1) := by decide +kernel
theorem dP_addRow_16 : decode cP_addRow 16 = .ok (.iadd, 1) := by decide +kernel
theorem dP_addRow_17 : decode cP_addRow 17 = .ok (.putfield 54, 3) := by decide +kernel
theorem dP_addRow_20 : decode cP_addRow 20 = .ok (.aload_n 0, 1) := by decide +kernel
theorem dP_addRow_21 : decode cP_addRow 21 = .ok (.getfield 54, 3) := by decide +kernel
theorem dP_addRow_24 : decode cP_addRow 24 = .ok (.iconst 1, 1) := by decide +kernel
theorem dP_addRow_25 : decode cP_addRow 25 = .ok (.isub, 1) := by decide +kernel
theorem dP_addRow_26 : decode cP_addRow 26 = .ok (.ireturn, 1) := by decide +kernel
theorem dP_endUnbound_0 : decode cP_endUnbound 0 = .ok (.aload_n 0, 1) := by decide +kernel
theorem dP_endUnbound_1 : decode cP_endUnbound 1 = .ok (.aload_n 0, 1) := by decide +kernel
theorem dP_endUnbound_2 : decode cP_endUnbound 2 = .ok (.getfield 54, 3) := by decide +kernel
theorem dP_endUnbound_5 : decode cP_endUnbound 5 = .ok (.putfield 58, 3) := by decide +kernel
theorem dP_endUnbound_8 : decode cP_endUnbound 8 = .ok (.return_, 1) := by decide +kernel
theorem dP_allow_0 : decode cP_allow 0 = .ok (.aload_n 0, 1) := by decide +kernel
theorem dP_allow_1 : decode cP_allow 1 = .ok (.getfield 17, 3) := by decide +kernel
theorem dP_allow_4 : decode cP_allow 4 = .ok (.iload_n 1, 1) := by decide +kernel
theorem dP_allow_5 : decode cP_allow 5 = .ok (.aaload, 1) := by decide +kernel
theorem dP_allow_6 : decode cP_allow 6 = .ok (.iload_n 2, 1) := by decide +kernel
theorem dP_allow_7 : decode cP_allow 7 = .ok (.iload_n 3, 1) := by decide +kernel
theorem dP_allow_8 : decode cP_allow 8 = .ok (.i2l, 1) := by decide +kernel
theorem dP_allow_9 : decode cP_allow 9 = .ok (.iload 4, 2) := by decide +kernel
theorem dP_allow_11 : decode cP_allow 11 = .ok (.i2l, 1) := by decide +kernel
theorem dP_allow_12 : decode cP_allow 12 = .ok (.ldc2_w 67, 3) := by decide +kernel
theorem dP_allow_15 : decode cP_allow 15 = .ok (.lsub, 1) := by decide +kernel
theorem dP_allow_16 : decode cP_allow 16 = .ok (.lmul, 1) := by decide +kernel
theorem dP_allow_17 : decode cP_allow 17 = .ok (.lastore, 1) := by decide +kernel
theorem dP_allow_18 : decode cP_allow 18 = .ok (.return_, 1) := by decide +kernel
theorem dP_rows_0 : decode cP_rows 0 = .ok (.aload_n 0, 1) := by decide +kernel
theorem dP_rows_1 : decode cP_rows 1 = .ok (.getfield 54, 3) := by decide +kernel
theorem dP_rows_4 : decode cP_rows 4 = .ok (.ireturn, 1) := by decide +kernel
theorem dP_needOfRow_0 : decode cP_needOfRow 0 = .ok (.aload_n 0, 1) := by decide +kernel
theorem dP_needOfRow_1 : decode cP_needOfRow 1 = .ok (.getfield 9, 3) := by decide +kernel
theorem dP_needOfRow_4 : decode cP_needOfRow 4 = .ok (.iload_n 1, 1) := by decide +kernel
theorem dP_needOfRow_5 : decode cP_needOfRow 5 = .ok (.iaload, 1) := by decide +kernel
theorem dP_needOfRow_6 : decode cP_needOfRow 6 = .ok (.ireturn, 1) := by decide +kernel
theorem dP_bestUnit_0 : decode cP_bestUnit 0 = .ok (.aload_n 0, 1) := by decide +kernel
theorem dP_bestUnit_1 : decode cP_bestUnit 1 = .ok (.getfield 23, 3) := by decide +kernel
theorem dP_bestUnit_4 : decode cP_bestUnit 4 = .ok (.iload_n 1, 1) := by decide +kernel
theorem dP_bestUnit_5 : decode cP_bestUnit 5 = .ok (.iaload, 1) := by decide +kernel
theorem dP_bestUnit_6 : decode cP_bestUnit 6 = .ok (.ireturn, 1) := by decide +kernel
theorem dP_setPresent_0 : decode cP_setPresent 0 = .ok (.aload_n 0, 1) := by decide +kernel
theorem dP_setPresent_1 : decode cP_setPresent 1 = .ok (.getfield 29, 3) := by decide +kernel
theorem dP_setPresent_4 : decode cP_setPresent 4 = .ok (.iload_n 1, 1) := by decide +kernel
theorem dP_setPresent_5 : decode cP_setPresent 5 = .ok (.iload_n 2, 1) := by decide +kernel
theorem dP_setPresent_6 : decode cP_setPresent 6 = .ok (.iastore, 1) := by decide +kernel
theorem dP_setPresent_7 : decode cP_setPresent 7 = .ok (.return_, 1) := by decide +kernel
theorem dP_presentIsPlan_0 : decode cP_presentIsPlan 0 = .ok (.iconst 0, 1) := by decide +kernel
theorem dP_presentIsPlan_1 : decode cP_presentIsPlan 1 = .ok (.istore_n 2, 1) := by decide +kernel
theorem dP_presentIsPlan_2 : decode cP_presentIsPlan 2 = .ok (.iconst 0, 1) := by decide +kernel
theorem dP_presentIsPlan_3 : decode cP_presentIsPlan 3 = .ok (.istore_n 3, 1) := by decide +kernel
theorem dP_presentIsPlan_4 : decode cP_presentIsPlan 4 = .ok (.iconst 0, 1) := by decide +kernel
theorem dP_presentIsPlan_5 : decode cP_presentIsPlan 5 = .ok (.istore 4, 2) := by decide +kernel
theorem dP_presentIsPlan_7 : decode cP_presentIsPlan 7 = .ok (.iload 4, 2) := by decide +kernel
theorem dP_presentIsPlan_9 : decode cP_presentIsPlan 9 = .ok (.aload_n 0, 1) := by decide +kernel
theorem dP_presentIsPlan_10 : decode cP_presentIsPlan 10 = .ok (.getfield 54, 3) := by decide +kernel
theorem dP_presentIsPlan_13 : decode cP_presentIsPlan 13 = .ok (.if_icmp .ge 61, 3) := by decide +kernel
theorem dP_presentIsPlan_16 : decode cP_presentIsPlan 16 = .ok (.aload_n 0, 1) := by decide +kernel
theorem dP_presentIsPlan_17 : decode cP_presentIsPlan 17 = .ok (.getfield 29, 3) := by decide +kernel
theorem dP_presentIsPlan_20 : decode cP_presentIsPlan 20 = .ok (.iload 4, 2) := by decide +kernel
theorem dP_presentIsPlan_22 : decode cP_presentIsPlan 22 = .ok (.iaload, 1) := by decide +kernel
theorem dP_presentIsPlan_23 : decode cP_presentIsPlan 23 = .ok (.istore 5, 2) := by decide +kernel
theorem dP_presentIsPlan_25 : decode cP_presentIsPlan 25 = .ok (.iload 5, 2) := by decide +kernel
theorem dP_presentIsPlan_27 : decode cP_presentIsPlan 27 = .ok (.iconst (-1), 1) := by decide +kernel
theorem dP_presentIsPlan_28 : decode cP_presentIsPlan 28 = .ok (.if_icmp .eq 40, 3) := by decide +kernel
theorem dP_presentIsPlan_31 : decode cP_presentIsPlan 31 = .ok (.aload_n 0, 1) := by decide +kernel
theorem dP_presentIsPlan_32 : decode cP_presentIsPlan 32 = .ok (.getfield 17, 3) := by decide +kernel
theorem dP_presentIsPlan_35 : decode cP_presentIsPlan 35 = .ok (.iload 4, 2) := by decide +kernel
theorem dP_presentIsPlan_37 : decode cP_presentIsPlan 37 = .ok (.aaload, 1) := by decide +kernel
theorem dP_presentIsPlan_38 : decode cP_presentIsPlan 38 = .ok (.iload 5, 2) := by decide +kernel
theorem dP_presentIsPlan_40 : decode cP_presentIsPlan 40 = .ok (.laload, 1) := by decide +kernel
theorem dP_presentIsPlan_41 : decode cP_presentIsPlan 41 = .ok (.lconst 0, 1) := by decide +kernel
theorem dP_presentIsPlan_42 : decode cP_presentIsPlan 42 = .ok (.lcmp, 1) := by decide +kernel
theorem dP_presentIsPlan_43 : decode cP_presentIsPlan 43 = .ok (.ifCond .ne 5, 3) := by decide +kernel
theorem dP_presentIsPlan_46 : decode cP_presentIsPlan 46 = .ok (.iconst 0, 1) := by decide +kernel
theorem dP_presentIsPlan_47 : decode cP_presentIsPlan 47 = .ok (.ireturn, 1) := by decide +kernel
theorem dP_presentIsPlan_48 : decode cP_presentIsPlan 48 = .ok (.iinc 2 1, 3) := by decide +kernel
theorem dP_presentIsPlan_51 : decode cP_presentIsPlan 51 = .ok (.iload_n 3, 1) := by decide +kernel
theorem dP_presentIsPlan_52 : decode cP_presentIsPlan 52 = .ok (.iload 4, 2) := by decide +kernel
theorem dP_presentIsPlan_54 : decode cP_presentIsPlan 54 = .ok (.aload_n 0, 1) := by decide +kernel
theorem dP_presentIsPlan_55 : decode cP_presentIsPlan 55 = .ok (.getfield 58, 3) := by decide +kernel
theorem dP_presentIsPlan_58 : decode cP_presentIsPlan 58 = .ok (.if_icmp .lt 7, 3) := by decide +kernel
theorem dP_presentIsPlan_61 : decode cP_presentIsPlan 61 = .ok (.iconst 1, 1) := by decide +kernel
theorem dP_presentIsPlan_62 : decode cP_presentIsPlan 62 = .ok (.goto 4, 3) := by decide +kernel
theorem dP_presentIsPlan_65 : decode cP_presentIsPlan 65 = .ok (.iconst 0, 1) := by decide +kernel
theorem dP_presentIsPlan_66 : decode cP_presentIsPlan 66 = .ok (.iadd, 1) := by decide +kernel
theorem dP_presentIsPlan_67 : decode cP_presentIsPlan 67 = .ok (.istore_n 3, 1) := by decide +kernel
theorem dP_presentIsPlan_68 : decode cP_presentIsPlan 68 = .ok (.iinc 4 1, 3) := by decide +kernel
theorem dP_presentIsPlan_71 : decode cP_presentIsPlan 71 = .ok (.goto (-64), 3) := by decide +kernel
theorem dP_presentIsPlan_74 : decode cP_presentIsPlan 74 = .ok (.iload_n 3, 1) := by decide +kernel
theorem dP_presentIsPlan_75 : decode cP_presentIsPlan 75 = .ok (.ifCond .eq 8, 3) := by decide +kernel
theorem dP_presentIsPlan_78 : decode cP_presentIsPlan 78 = .ok (.iload_n 2, 1) := by decide +kernel
theorem dP_presentIsPlan_79 : decode cP_presentIsPlan 79 = .ok (.iload_n 1, 1) := by decide +kernel
theorem dP_presentIsPlan_80 : decode cP_presentIsPlan 80 = .ok (.if_icmp .gt 7, 3) := by decide +kernel
theorem dP_presentIsPlan_83 : decode cP_presentIsPlan 83 = .ok (.iconst 1, 1) := by decide +kernel
theorem dP_presentIsPlan_84 : decode cP_presentIsPlan 84 = .ok (.goto 4, 3) := by decide +kernel
theorem dP_presentIsPlan_87 : decode cP_presentIsPlan 87 = .ok (.iconst 0, 1) := by decide +kernel
theorem dP_presentIsPlan_88 : decode cP_presentIsPlan 88 = .ok (.ireturn, 1) := by decide +kernel
theorem dP_savedByBest_0 : decode cP_savedByBest 0 = .ok (.aload_n 0, 1) := by decide +kernel
theorem dP_savedByBest_1 : decode cP_savedByBest 1 = .ok (.aload_n 0, 1) := by decide +kernel
theorem dP_savedByBest_2 : decode cP_savedByBest 2 = .ok (.getfield 17, 3) := by decide +kernel
theorem dP_savedByBest_5 : decode cP_savedByBest 5 = .ok (.aload_n 0, 1) := by decide +kernel
theorem dP_savedByBest_6 : decode cP_savedByBest 6 = .ok (.getfield 29, 3) := by decide +kernel
theorem dP_savedByBest_9 : decode cP_savedByBest 9 = .ok (.invokevirtual 69, 3) := by decide +kernel
theorem dP_savedByBest_12 : decode cP_savedByBest 12 = .ok (.aload_n 0, 1) := by decide +kernel
theorem dP_savedByBest_13 : decode cP_savedByBest 13 = .ok (.aload_n 0, 1) := by decide +kernel
theorem dP_savedByBest_14 : decode cP_savedByBest 14 = .ok (.getfield 17, 3) := by decide +kernel
theorem dP_savedByBest_17 : decode cP_savedByBest 17 = .ok (.aload_n 0, 1) := by decide +kernel
theorem dP_savedByBest_18 : decode cP_savedByBest 18 = .ok (.getfield 23, 3) := by decide +kernel
theorem dP_savedByBest_21 : decode cP_savedByBest 21 = .ok (.invokevirtual 69, 3) := by decide +kernel
theorem dP_savedByBest_24 : decode cP_savedByBest 24 = .ok (.lsub, 1) := by decide +kernel
theorem dP_savedByBest_25 : decode cP_savedByBest 25 = .ok (.lreturn, 1) := by decide +kernel
theorem dP_findBest_0 : decode cP_findBest 0 = .ok (.aload_n 0, 1) := by decide +kernel
theorem dP_findBest_1 : decode cP_findBest 1 = .ok (.aload_n 0, 1) := by decide +kernel
theorem dP_findBest_2 : decode cP_findBest 2 = .ok (.getfield 54, 3) := by decide +kernel
theorem dP_findBest_5 : decode cP_findBest 5 = .ok (.iload_n 1, 1) := by decide +kernel
theorem dP_findBest_6 : decode cP_findBest 6 = .ok (.invokevirtual 73, 3) := by decide +kernel
theorem dP_findBest_9 : decode cP_findBest 9 = .ok (.aload_n 0, 1) := by decide +kernel
theorem dP_findBest_10 : decode cP_findBest 10 = .ok (.getfield 58, 3) := by decide +kernel
theorem dP_findBest_13 : decode cP_findBest 13 = .ok (.iload_n 1, 1) := by decide +kernel
theorem dP_findBest_14 : decode cP_findBest 14 = .ok (.if_icmp .gt 4, 3) := by decide +kernel
theorem dP_findBest_17 : decode cP_findBest 17 = .ok (.return_, 1) := by decide +kernel
theorem dP_findBest_18 : decode cP_findBest 18 = .ok (.aload_n 0, 1) := by decide +kernel
theorem dP_findBest_19 : decode cP_findBest 19 = .ok (.getfield 23, 3) := by decide +kernel
theorem dP_findBest_22 : decode cP_findBest 22 = .ok (.iconst 0, 1) := by decide +kernel
theorem dP_findBest_23 : decode cP_findBest 23 = .ok (.aload_n 0, 1) := by decide +kernel
theorem dP_findBest_24 : decode cP_findBest 24 = .ok (.getfield 29, 3) := by decide +kernel
theorem dP_findBest_27 : decode cP_findBest 27 = .ok (.iconst 0, 1) := by decide +kernel
theorem dP_findBest_28 : decode cP_findBest 28 = .ok (.bipush 10, 2) := by decide +kernel
theorem dP_findBest_30 : decode cP_findBest 30 = .ok (.invokestatic 77, 3) := by decide +kernel
theorem dP_findBest_33 : decode cP_findBest 33 = .ok (.aload_n 0, 1) := by decide +kernel
theorem dP_findBest_34 : decode cP_findBest 34 = .ok (.aload_n 0, 1) := by decide +kernel
theorem dP_findBest_35 : decode cP_findBest 35 = .ok (.getfield 58, 3) := by decide +kernel
theorem dP_findBest_38 : decode cP_findBest 38 = .ok (.aload_n 0, 1) := by decide +kernel
theorem dP_findBest_39 : decode cP_findBest 39 = .ok (.getfield 58, 3) := by decide +kernel
theorem dP_findBest_42 : decode cP_findBest 42 = .ok (.invokevirtual 73, 3) := by decide +kernel
theorem dP_findBest_45 : decode cP_findBest 45 = .ok (.aload_n 0, 1) := by decide +kernel
theorem dP_findBest_46 : decode cP_findBest 46 = .ok (.aload_n 0, 1) := by decide +kernel
theorem dP_findBest_47 : decode cP_findBest 47 = .ok (.getfield 17, 3) := by decide +kernel
theorem dP_findBest_50 : decode cP_findBest 50 = .ok (.aload_n 0, 1) := by decide +kernel
theorem dP_findBest_51 : decode cP_findBest 51 = .ok (.getfield 29, 3) := by decide +kernel
theorem dP_findBest_54 : decode cP_findBest 54 = .ok (.invokevirtual 69, 3) := by decide +kernel
theorem dP_findBest_57 : decode cP_findBest 57 = .ok (.aload_n 0, 1) := by decide +kernel
theorem dP_findBest_58 : decode cP_findBest 58 = .ok (.aload_n 0, 1) := by decide +kernel
theorem dP_findBest_59 : decode cP_findBest 59 = .ok (.getfield 20, 3) := by decide +kernel
theorem dP_findBest_62 : decode cP_findBest 62 = .ok (.aload_n 0, 1) := by decide +kernel
theorem dP_findBest_63 : decode cP_findBest 63 = .ok (.getfield 29, 3) := by decide +kernel
theorem dP_findBest_66 : decode cP_findBest 66 = .ok (.invokevirtual 69, 3) := by decide +kernel
theorem dP_findBest_69 : decode cP_findBest 69 = .ok (.aload_n 0, 1) := by decide +kernel
theorem dP_findBest_70 : decode cP_findBest 70 = .ok (.aload_n 0, 1) := by decide +kernel
theorem dP_findBest_71 : decode cP_findBest 71 = .ok (.getfield 17, 3) := by decide +kernel
theorem dP_findBest_74 : decode cP_findBest 74 = .ok (.aload_n 0, 1) := by decide +kernel
theorem dP_findBest_75 : decode cP_findBest 75 = .ok (.getfield 23, 3) := by decide +kernel
theorem dP_findBest_78 : decode cP_findBest 78 = .ok (.invokevirtual 69, 3) := by decide +kernel
theorem dP_findBest_81 : decode cP_findBest 81 = .ok (.aload_n 0, 1) := by decide +kernel
theorem dP_findBest_82 : decode cP_findBest 82 = .ok (.aload_n 0, 1) := by decide +kernel
theorem dP_findBest_83 : decode cP_findBest 83 = .ok (.getfield 20, 3) := by decide +kernel
theorem dP_findBest_86 : decode cP_findBest 86 = .ok (.aload_n 0, 1) := by decide +kernel
theorem dP_findBest_87 : decode cP_findBest 87 = .ok (.getfield 23, 3) := by decide +kernel
theorem dP_findBest_90 : decode cP_findBest 90 = .ok (.invokevirtual 69, 3) := by decide +kernel
theorem dP_findBest_93 : decode cP_findBest 93 = .ok (.invokestatic 83, 3) := by decide +kernel
theorem dP_findBest_96 : decode cP_findBest 96 = .ok (.ifCond .eq 18, 3) := by decide +kernel
theorem dP_findBest_99 : decode cP_findBest 99 = .ok (.aload_n 0, 1) := by decide +kernel
theorem dP_findBest_100 : decode cP_findBest 100 = .ok (.getfield 29, 3) := by decide +kernel
theorem dP_findBest_103 : decode cP_findBest 103 = .ok (.iconst 0, 1) := by decide +kernel
theorem dP_findBest_104 : decode cP_findBest 104 = .ok (.aload_n 0, 1) := by decide +kernel
theorem dP_findBest_105 : decode cP_findBest 105 = .ok (.getfield 23, 3) := by decide +kernel
theorem dP_findBest_108 : decode cP_findBest 108 = .ok (.iconst 0, 1) := by decide +kernel
theorem dP_findBest_109 : decode cP_findBest 109 = .ok (.bipush 10, 2) := by decide +kernel
theorem dP_findBest_111 : decode cP_findBest 111 = .ok (.invokestatic 77, 3) := by decide +kernel
theorem dP_findBest_114 : decode cP_findBest 114 = .ok (.return_, 1) := by decide +kernel
theorem dP_total_0 : decode cP_total 0 = .ok (.lconst 0, 1) := by decide +kernel
theorem dP_total_1 : decode cP_total 1 = .ok (.lstore_n 3, 1) := by decide +kernel
theorem dP_total_2 : decode cP_total 2 = .ok (.iconst 0, 1) := by decide +kernel
theorem dP_total_3 : decode cP_total 3 = .ok (.istore 5, 2) := by decide +kernel
theorem dP_total_5 : decode cP_total 5 = .ok (.iload 5, 2) := by decide +kernel
theorem dP_total_7 : decode cP_total 7 = .ok (.aload_n 0, 1) := by decide +kernel
theorem dP_total_8 : decode cP_total 8 = .ok (.getfield 54, 3) := by decide +kernel
theorem dP_total_11 : decode cP_total 11 = .ok (.if_icmp .ge 29, 3) := by decide +kernel
theorem dP_total_14 : decode cP_total 14 = .ok (.aload_n 2, 1) := by decide +kernel
theorem dP_total_15 : decode cP_total 15 = .ok (.iload 5, 2) := by decide +kernel
theorem dP_total_17 : decode cP_total 17 = .ok (.iaload, 1) := by decide +kernel
theorem dP_total_18 : decode cP_total 18 = .ok (.iconst (-1), 1) := by decide +kernel
theorem dP_total_19 : decode cP_total 19 = .ok (.if_icmp .eq 15, 3) := by decide +kernel
theorem dP_total_22 : decode cP_total 22 = .ok (.lload_n 3, 1) := by decide +kernel
theorem dP_total_23 : decode cP_total 23 = .ok (.aload_n 1, 1) := by decide +kernel
theorem dP_total_24 : decode cP_total 24 = .ok (.iload 5, 2) := by decide +kernel
theorem dP_total_26 : decode cP_total 26 = .ok (.aaload, 1) := by decide +kernel
theorem dP_total_27 : decode cP_total 27 = .ok (.aload_n 2, 1) := by decide +kernel
theorem dP_total_28 : decode cP_total 28 = .ok (.iload 5, 2) := by decide +kernel
theorem dP_total_30 : decode cP_total 30 = .ok (.iaload, 1) := by decide +kernel
theorem dP_total_31 : decode cP_total 31 = .ok (.laload, 1) := by decide +kernel
theorem dP_total_32 : decode cP_total 32 = .ok (.ladd, 1) := by decide +kernel
theorem dP_total_33 : decode cP_total 33 = .ok (.lstore_n 3, 1) := by decide +kernel
theorem dP_total_34 : decode cP_total 34 = .ok (.iinc 5 1, 3) := by decide +kernel
theorem dP_total_37 : decode cP_total 37 = .ok (.goto (-32), 3) := by decide +kernel
theorem dP_total_40 : decode cP_total 40 = .ok (.lload_n 3, 1) := by decide +kernel
theorem dP_total_41 : decode cP_total 41 = .ok (.lreturn, 1) := by decide +kernel
theorem dP_isLess_0 : decode cP_isLess 0 = .ok (.lload_n 0, 1) := by decide +kernel
theorem dP_isLess_1 : decode cP_isLess 1 = .ok (.lload 4, 2) := by decide +kernel
theorem dP_isLess_3 : decode cP_isLess 3 = .ok (.lcmp, 1) := by decide +kernel
theorem dP_isLess_4 : decode cP_isLess 4 = .ok (.ifCond .lt 17, 3) := by decide +kernel
theorem dP_isLess_7 : decode cP_isLess 7 = .ok (.lload_n 0, 1) := by decide +kernel
theorem dP_isLess_8 : decode cP_isLess 8 = .ok (.lload 4, 2) := by decide +kernel
theorem dP_isLess_10 : decode cP_isLess 10 = .ok (.lcmp, 1) := by decide +kernel
theorem dP_isLess_11 : decode cP_isLess 11 = .ok (.ifCond .ne 14, 3) := by decide +kernel
theorem dP_isLess_14 : decode cP_isLess 14 = .ok (.lload_n 2, 1) := by decide +kernel
theorem dP_isLess_15 : decode cP_isLess 15 = .ok (.lload 6, 2) := by decide +kernel
theorem dP_isLess_17 : decode cP_isLess 17 = .ok (.lcmp, 1) := by decide +kernel
theorem dP_isLess_18 : decode cP_isLess 18 = .ok (.ifCond .ge 7, 3) := by decide +kernel
theorem dP_isLess_21 : decode cP_isLess 21 = .ok (.iconst 1, 1) := by decide +kernel
theorem dP_isLess_22 : decode cP_isLess 22 = .ok (.goto 4, 3) := by decide +kernel
theorem dP_isLess_25 : decode cP_isLess 25 = .ok (.iconst 0, 1) := by decide +kernel
theorem dP_isLess_26 : decode cP_isLess 26 = .ok (.ireturn, 1) := by decide +kernel
theorem dP_pair_0 : decode cP_pair 0 = .ok (.aload_n 0, 1) := by decide +kernel
theorem dP_pair_1 : decode cP_pair 1 = .ok (.getfield 23, 3) := by decide +kernel
theorem dP_pair_4 : decode cP_pair 4 = .ok (.iconst (-1), 1) := by decide +kernel
theorem dP_pair_5 : decode cP_pair 5 = .ok (.invokestatic 87, 3) := by decide +kernel
theorem dP_pair_8 : decode cP_pair 8 = .ok (.aload_n 0, 1) := by decide +kernel
theorem dP_pair_9 : decode cP_pair 9 = .ok (.getfield 26, 3) := by decide +kernel
theorem dP_pair_12 : decode cP_pair 12 = .ok (.iconst (-1), 1) := by decide +kernel
theorem dP_pair_13 : decode cP_pair 13 = .ok (.invokestatic 87, 3) := by decide +kernel
theorem dP_pair_16 : decode cP_pair 16 = .ok (.iconst 0, 1) := by decide +kernel
theorem dP_pair_17 : decode cP_pair 17 = .ok (.istore_n 3, 1) := by decide +kernel
theorem dP_pair_18 : decode cP_pair 18 = .ok (.iload_n 3, 1) := by decide +kernel
theorem dP_pair_19 : decode cP_pair 19 = .ok (.iload_n 1, 1) := by decide +kernel
theorem dP_pair_20 : decode cP_pair 20 = .ok (.if_icmp .ge 38, 3) := by decide +kernel
theorem dP_pair_23 : decode cP_pair 23 = .ok (.iload_n 3, 1) := by decide +kernel
theorem dP_pair_24 : decode cP_pair 24 = .ok (.iload_n 2, 1) := by decide +kernel
theorem dP_pair_25 : decode cP_pair 25 = .ok (.if_icmp .ge 33, 3) := by decide +kernel
theorem dP_pair_28 : decode cP_pair 28 = .ok (.aload_n 0, 1) := by decide +kernel
theorem dP_pair_29 : decode cP_pair 29 = .ok (.iload_n 1, 1) := by decide +kernel
theorem dP_pair_30 : decode cP_pair 30 = .ok (.invokevirtual 90, 3) := by decide +kernel
theorem dP_pair_33 : decode cP_pair 33 = .ok (.aload_n 0, 1) := by decide +kernel
theorem dP_pair_34 : decode cP_pair 34 = .ok (.invokevirtual 94, 3) := by decide +kernel
theorem dP_pair_37 : decode cP_pair 37 = .ok (.istore 4, 2) := by decide +kernel
theorem dP_pair_39 : decode cP_pair 39 = .ok (.iload 4, 2) := by decide +kernel
theorem dP_pair_41 : decode cP_pair 41 = .ok (.iconst (-1), 1) := by decide +kernel
theorem dP_pair_42 : decode cP_pair 42 = .ok (.if_icmp .ne 4, 3) := by decide +kernel
theorem dP_pair_45 : decode cP_pair 45 = .ok (.return_, 1) := by decide +kernel
theorem dP_pair_46 : decode cP_pair 46 = .ok (.aload_n 0, 1) := by decide +kernel
theorem dP_pair_47 : decode cP_pair 47 = .ok (.iload 4, 2) := by decide +kernel
theorem dP_pair_49 : decode cP_pair 49 = .ok (.invokevirtual 98, 3) := by decide +kernel
theorem dP_pair_52 : decode cP_pair 52 = .ok (.iinc 3 1, 3) := by decide +kernel
theorem dP_pair_55 : decode cP_pair 55 = .ok (.goto (-37), 3) := by decide +kernel
theorem dP_pair_58 : decode cP_pair 58 = .ok (.return_, 1) := by decide +kernel
theorem dP_findPaths_0 : decode cP_findPaths 0 = .ok (.aload_n 0, 1) := by decide +kernel
theorem dP_findPaths_1 : decode cP_findPaths 1 = .ok (.getfield 43, 3) := by decide +kernel
theorem dP_findPaths_4 : decode cP_findPaths 4 = .ok (.iconst (-1), 1) := by decide +kernel
theorem dP_findPaths_5 : decode cP_findPaths 5 = .ok (.invokestatic 87, 3) := by decide +kernel
theorem dP_findPaths_8 : decode cP_findPaths 8 = .ok (.iconst 0, 1) := by decide +kernel
theorem dP_findPaths_9 : decode cP_findPaths 9 = .ok (.istore_n 2, 1) := by decide +kernel
theorem dP_findPaths_10 : decode cP_findPaths 10 = .ok (.iload_n 2, 1) := by decide +kernel
theorem dP_findPaths_11 : decode cP_findPaths 11 = .ok (.iload_n 1, 1) := by decide +kernel
theorem dP_findPaths_12 : decode cP_findPaths 12 = .ok (.if_icmp .ge 44, 3) := by decide +kernel
theorem dP_findPaths_15 : decode cP_findPaths 15 = .ok (.aload_n 0, 1) := by decide +kernel
theorem dP_findPaths_16 : decode cP_findPaths 16 = .ok (.getfield 32, 3) := by decide +kernel
theorem dP_findPaths_19 : decode cP_findPaths 19 = .ok (.iload_n 2, 1) := by decide +kernel
theorem dP_findPaths_20 : decode cP_findPaths 20 = .ok (.aload_n 0, 1) := by decide +kernel
theorem dP_findPaths_21 : decode cP_findPaths 21 = .ok (.getfield 23, 3) := by decide +kernel
theorem dP_findPaths_24 : decode cP_findPaths 24 = .ok (.iload_n 2, 1) := by decide +kernel
theorem dP_findPaths_25 : decode cP_findPaths 25 = .ok (.iaload, 1) := by decide +kernel
theorem dP_findPaths_26 : decode cP_findPaths 26 = .ok (.iconst (-1), 1) := by decide +kernel
theorem dP_findPaths_27 : decode cP_findPaths 27 = .ok (.if_icmp .ne 7, 3) := by decide +kernel
theorem dP_findPaths_30 : decode cP_findPaths 30 = .ok (.iconst 1, 1) := by decide +kernel
theorem dP_findPaths_31 : decode cP_findPaths 31 = .ok (.goto 4, 3) := by decide +kernel
theorem dP_findPaths_34 : decode cP_findPaths 34 = .ok (.iconst 0, 1) := by decide +kernel
theorem dP_findPaths_35 : decode cP_findPaths 35 = .ok (.bastore, 1) := by decide +kernel
theorem dP_findPaths_36 : decode cP_findPaths 36 = .ok (.aload_n 0, 1) := by decide +kernel
theorem dP_findPaths_37 : decode cP_findPaths 37 = .ok (.getfield 36, 3) := by decide +kernel
theorem dP_findPaths_40 : decode cP_findPaths 40 = .ok (.iload_n 2, 1) := by decide +kernel
theorem dP_findPaths_41 : decode cP_findPaths 41 = .ok (.lconst 0, 1) := by decide +kernel
theorem dP_findPaths_42 : decode cP_findPaths 42 = .ok (.lastore, 1) := by decide +kernel
theorem dP_findPaths_43 : decode cP_findPaths 43 = .ok (.aload_n 0, 1) := by decide +kernel
theorem dP_findPaths_44 : decode cP_findPaths 44 = .ok (.getfield 40, 3) := by decide +kernel
theorem dP_findPaths_47 : decode cP_findPaths 47 = .ok (.iload_n 2, 1) := by decide +kernel
theorem dP_findPaths_48 : decode cP_findPaths 48 = .ok (.lconst 0, 1) := by decide +kernel
theorem dP_findPaths_49 : decode cP_findPaths 49 = .ok (.lastore, 1) := by decide +kernel
theorem dP_findPaths_50 : decode cP_findPaths 50 = .ok (.iinc 2 1, 3) := by decide +kernel
theorem dP_findPaths_53 : decode cP_findPaths 53 = .ok (.goto (-43), 3) := by decide +kernel
theorem dP_findPaths_56 : decode cP_findPaths 56 = .ok (.iconst 1, 1) := by decide +kernel
theorem dP_findPaths_57 : decode cP_findPaths 57 = .ok (.istore_n 2, 1) := by decide +kernel
theorem dP_findPaths_58 : decode cP_findPaths 58 = .ok (.iconst 0, 1) := by decide +kernel
theorem dP_findPaths_59 : decode cP_findPaths 59 = .ok (.istore_n 3, 1) := by decide +kernel
theorem dP_findPaths_60 : decode cP_findPaths 60 = .ok (.iload_n 3, 1) := by decide +kernel
theorem dP_findPaths_61 : decode cP_findPaths 61 = .ok (.iload_n 1, 1) := by decide +kernel
theorem dP_findPaths_62 : decode cP_findPaths 62 = .ok (.if_icmp .ge 56, 3) := by decide +kernel
theorem dP_findPaths_65 : decode cP_findPaths 65 = .ok (.iload_n 2, 1) := by decide +kernel
theorem dP_findPaths_66 : decode cP_findPaths 66 = .ok (.ifCond .eq 52, 3) := by decide +kernel
theorem dP_findPaths_69 : decode cP_findPaths 69 = .ok (.iconst 0, 1) := by decide +kernel
theorem dP_findPaths_70 : decode cP_findPaths 70 = .ok (.istore_n 2, 1) := by decide +kernel
theorem dP_findPaths_71 : decode cP_findPaths 71 = .ok (.iconst 0, 1) := by decide +kernel
theorem dP_findPaths_72 : decode cP_findPaths 72 = .ok (.istore 4, 2) := by decide +kernel
theorem dP_findPaths_74 : decode cP_findPaths 74 = .ok (.iload 4, 2) := by decide +kernel
theorem dP_findPaths_76 : decode cP_findPaths 76 = .ok (.iload_n 1, 1) := by decide +kernel
theorem dP_findPaths_77 : decode cP_findPaths 77 = .ok (.if_icmp .ge 35, 3) := by decide +kernel
theorem dP_findPaths_80 : decode cP_findPaths 80 = .ok (.aload_n 0, 1) := by decide +kernel
theorem dP_findPaths_81 : decode cP_findPaths 81 = .ok (.getfield 32, 3) := by decide +kernel
theorem dP_findPaths_84 : decode cP_findPaths 84 = .ok (.iload 4, 2) := by decide +kernel
theorem dP_findPaths_86 : decode cP_findPaths 86 = .ok (.baload, 1) := by decide +kernel
theorem dP_findPaths_87 : decode cP_findPaths 87 = .ok (.ifCond .eq 19, 3) := by decide +kernel
theorem dP_findPaths_90 : decode cP_findPaths 90 = .ok (.aload_n 0, 1) := by decide +kernel
theorem dP_findPaths_91 : decode cP_findPaths 91 = .ok (.getfield 32, 3) := by decide +kernel
theorem dP_findPaths_94 : decode cP_findPaths 94 = .ok (.iload 4, 2) := by decide +kernel
theorem dP_findPaths_96 : decode cP_findPaths 96 = .ok (.iconst 0, 1) := by decide +kernel
theorem dP_findPaths_97 : decode cP_findPaths 97 = .ok (.bastore, 1) := by decide +kernel
theorem dP_findPaths_98 : decode cP_findPaths 98 = .ok (.aload_n 0, 1) := by decide +kernel
theorem dP_findPaths_99 : decode cP_findPaths 99 = .ok (.iload 4, 2) := by decide +kernel
theorem dP_findPaths_101 : decode cP_findPaths 101 = .ok (.invokevirtual 101, 3) := by decide +kernel
theorem dP_findPaths_104 : decode cP_findPaths 104 = .ok (.iconst 1, 1) := by decide +kernel
theorem dP_findPaths_105 : decode cP_findPaths 105 = .ok (.istore_n 2, 1) := by decide +kernel
theorem dP_findPaths_106 : decode cP_findPaths 106 = .ok (.iinc 4 1, 3) := by decide +kernel
theorem dP_findPaths_109 : decode cP_findPaths 109 = .ok (.goto (-35), 3) := by decide +kernel
theorem dP_findPaths_112 : decode cP_findPaths 112 = .ok (.iinc 3 1, 3) := by decide +kernel
theorem dP_findPaths_115 : decode cP_findPaths 115 = .ok (.goto (-55), 3) := by decide +kernel
theorem dP_findPaths_118 : decode cP_findPaths 118 = .ok (.return_, 1) := by decide +kernel
theorem dP_spread_0 : decode cP_spread 0 = .ok (.iconst 0, 1) := by decide +kernel
theorem dP_spread_1 : decode cP_spread 1 = .ok (.istore_n 2, 1) := by decide +kernel
theorem dP_spread_2 : decode cP_spread 2 = .ok (.iload_n 2, 1) := by decide +kernel
theorem dP_spread_3 : decode cP_spread 3 = .ok (.bipush 12, 2) := by decide +kernel
theorem dP_spread_5 : decode cP_spread 5 = .ok (.if_icmp .ge 38, 3) := by decide +kernel
theorem dP_spread_8 : decode cP_spread 8 = .ok (.aload_n 0, 1) := by decide +kernel
theorem dP_spread_9 : decode cP_spread 9 = .ok (.getfield 17, 3) := by decide +kernel
theorem dP_spread_12 : decode cP_spread 12 = .ok (.iload_n 1, 1) := by decide +kernel
theorem dP_spread_13 : decode cP_spread 13 = .ok (.aaload, 1) := by decide +kernel
theorem dP_spread_14 : decode cP_spread 14 = .ok (.iload_n 2, 1) := by decide +kernel
theorem dP_spread_15 : decode cP_spread 15 = .ok (.laload, 1) := by decide +kernel
theorem dP_spread_16 : decode cP_spread 16 = .ok (.lconst 0, 1) := by decide +kernel
theorem dP_spread_17 : decode cP_spread 17 = .ok (.lcmp, 1) := by decide +kernel
theorem dP_spread_18 : decode cP_spread 18 = .ok (.ifCond .eq 19, 3) := by decide +kernel
theorem dP_spread_21 : decode cP_spread 21 = .ok (.aload_n 0, 1) := by decide +kernel
theorem dP_spread_22 : decode cP_spread 22 = .ok (.getfield 23, 3) := by decide +kernel
theorem dP_spread_25 : decode cP_spread 25 = .ok (.iload_n 1, 1) := by decide +kernel
theorem dP_spread_26 : decode cP_spread 26 = .ok (.iaload, 1) := by decide +kernel
theorem dP_spread_27 : decode cP_spread 27 = .ok (.iload_n 2, 1) := by decide +kernel
theorem dP_spread_28 : decode cP_spread 28 = .ok (.if_icmp .eq 9, 3) := by decide +kernel
theorem dP_spread_31 : decode cP_spread 31 = .ok (.aload_n 0, 1) := by decide +kernel
theorem dP_spread_32 : decode cP_spread 32 = .ok (.iload_n 2, 1) := by decide +kernel
theorem dP_spread_33 : decode cP_spread 33 = .ok (.iload_n 1, 1) := by decide +kernel
theorem dP_spread_34 : decode cP_spread 34 = .ok (.invokevirtual 104, 3) := by decide +kernel
theorem dP_spread_37 : decode cP_spread 37 = .ok (.iinc 2 1, 3) := by decide +kernel
theorem dP_spread_40 : decode cP_spread 40 = .ok (.goto (-38), 3) := by decide +kernel
theorem dP_spread_43 : decode cP_spread 43 = .ok (.return_, 1) := by decide +kernel
theorem dP_reach_0 : decode cP_reach 0 = .ok (.aload_n 0, 1) := by decide +kernel
theorem dP_reach_1 : decode cP_reach 1 = .ok (.getfield 36, 3) := by decide +kernel
theorem dP_reach_4 : decode cP_reach 4 = .ok (.iload_n 2, 1) := by decide +kernel
theorem dP_reach_5 : decode cP_reach 5 = .ok (.laload, 1) := by decide +kernel
theorem dP_reach_6 : decode cP_reach 6 = .ok (.aload_n 0, 1) := by decide +kernel
theorem dP_reach_7 : decode cP_reach 7 = .ok (.getfield 17, 3) := by decide +kernel
theorem dP_reach_10 : decode cP_reach 10 = .ok (.iload_n 2, 1) := by decide +kernel
theorem dP_reach_11 : decode cP_reach 11 = .ok (.aaload, 1) := by decide +kernel
theorem dP_reach_12 : decode cP_reach 12 = .ok (.iload_n 1, 1) := by decide +kernel
theorem dP_reach_13 : decode cP_reach 13 = .ok (.laload, 1) := by decide +kernel
theorem dP_reach_14 : decode cP_reach 14 = .ok (.ladd, 1) := by decide +kernel
theorem dP_reach_15 : decode cP_reach 15 = .ok (.lstore_n 3, 1) := by decide +kernel
theorem dP_reach_16 : decode cP_reach 16 = .ok (.aload_n 0, 1) := by decide +kernel
theorem dP_reach_17 : decode cP_reach 17 = .ok (.getfield 40, 3) := by decide +kernel
theorem dP_reach_20 : decode cP_reach 20 = .ok (.iload_n 2, 1) := by decide +kernel
theorem dP_reach_21 : decode cP_reach 21 = .ok (.laload, 1) := by decide +kernel
theorem dP_reach_22 : decode cP_reach 22 = .ok (.aload_n 0, 1) := by decide +kernel
theorem dP_reach_23 : decode cP_reach 23 = .ok (.getfield 20, 3) := by decide +kernel
theorem dP_reach_26 : decode cP_reach 26 = .ok (.iload_n 2, 1) := by decide +kernel
theorem dP_reach_27 : decode cP_reach 27 = .ok (.aaload, 1) := by decide +kernel
theorem dP_reach_28 : decode cP_reach 28 = .ok (.iload_n 1, 1) := by decide +kernel
theorem dP_reach_29 : decode cP_reach 29 = .ok (.laload, 1) := by decide +kernel
theorem dP_reach_30 : decode cP_reach 30 = .ok (.ladd, 1) := by decide +kernel
theorem dP_reach_31 : decode cP_reach 31 = .ok (.lstore 5, 2) := by decide +kernel
theorem dP_reach_33 : decode cP_reach 33 = .ok (.aload_n 0, 1) := by decide +kernel
theorem dP_reach_34 : decode cP_reach 34 = .ok (.getfield 43, 3) := by decide +kernel
theorem dP_reach_37 : decode cP_reach 37 = .ok (.iload_n 1, 1) := by decide +kernel
theorem dP_reach_38 : decode cP_reach 38 = .ok (.iaload, 1) := by decide +kernel
theorem dP_reach_39 : decode cP_reach 39 = .ok (.iconst (-1), 1) := by decide +kernel
theorem dP_reach_40 : decode cP_reach 40 = .ok (.if_icmp .eq 25, 3) := by decide +kernel
theorem dP_reach_43 : decode cP_reach 43 = .ok (.lload_n 3, 1) := by decide +kernel
theorem dP_reach_44 : decode cP_reach 44 = .ok (.lload 5, 2) := by decide +kernel
theorem dP_reach_46 : decode cP_reach 46 = .ok (.aload_n 0, 1) := by decide +kernel
theorem dP_reach_47 : decode cP_reach 47 = .ok (.getfield 46, 3) := by decide +kernel
theorem dP_reach_50 : decode cP_reach 50 = .ok (.iload_n 1, 1) := by decide +kernel
theorem dP_reach_51 : decode cP_reach 51 = .ok (.laload, 1) := by decide +kernel
theorem dP_reach_52 : decode cP_reach 52 = .ok (.aload_n 0, 1) := by decide +kernel
theorem dP_reach_53 : decode cP_reach 53 = .ok (.getfield 49, 3) := by decide +kernel
theorem dP_reach_56 : decode cP_reach 56 = .ok (.iload_n 1, 1) := by decide +kernel
theorem dP_reach_57 : decode cP_reach 57 = .ok (.laload, 1) := by decide +kernel
theorem dP_reach_58 : decode cP_reach 58 = .ok (.invokestatic 83, 3) := by decide +kernel
theorem dP_reach_61 : decode cP_reach 61 = .ok (.ifCond .ne 4, 3) := by decide +kernel
theorem dP_reach_64 : decode cP_reach 64 = .ok (.return_, 1) := by decide +kernel
theorem dP_reach_65 : decode cP_reach 65 = .ok (.aload_n 0, 1) := by decide +kernel
theorem dP_reach_66 : decode cP_reach 66 = .ok (.getfield 43, 3) := by decide +kernel
theorem dP_reach_69 : decode cP_reach 69 = .ok (.iload_n 1, 1) := by decide +kernel
theorem dP_reach_70 : decode cP_reach 70 = .ok (.iload_n 2, 1) := by decide +kernel
theorem dP_reach_71 : decode cP_reach 71 = .ok (.iastore, 1) := by decide +kernel
theorem dP_reach_72 : decode cP_reach 72 = .ok (.aload_n 0, 1) := by decide +kernel
theorem dP_reach_73 : decode cP_reach 73 = .ok (.getfield 46, 3) := by decide +kernel
theorem dP_reach_76 : decode cP_reach 76 = .ok (.iload_n 1, 1) := by decide +kernel
theorem dP_reach_77 : decode cP_reach 77 = .ok (.lload_n 3, 1) := by decide +kernel
theorem dP_reach_78 : decode cP_reach 78 = .ok (.lastore, 1) := by decide +kernel
theorem dP_reach_79 : decode cP_reach 79 = .ok (.aload_n 0, 1) := by decide +kernel
theorem dP_reach_80 : decode cP_reach 80 = .ok (.getfield 49, 3) := by decide +kernel
theorem dP_reach_83 : decode cP_reach 83 = .ok (.iload_n 1, 1) := by decide +kernel
theorem dP_reach_84 : decode cP_reach 84 = .ok (.lload 5, 2) := by decide +kernel
theorem dP_reach_86 : decode cP_reach 86 = .ok (.lastore, 1) := by decide +kernel
theorem dP_reach_87 : decode cP_reach 87 = .ok (.aload_n 0, 1) := by decide +kernel
theorem dP_reach_88 : decode cP_reach 88 = .ok (.getfield 26, 3) := by decide +kernel
theorem dP_reach_91 : decode cP_reach 91 = .ok (.iload_n 1, 1) := by decide +kernel
theorem dP_reach_92 : decode cP_reach 92 = .ok (.iaload, 1) := by decide +kernel
theorem dP_reach_93 : decode cP_reach 93 = .ok (.istore 7, 2) := by decide +kernel
theorem dP_reach_95 : decode cP_reach 95 = .ok (.iload 7, 2) := by decide +kernel
theorem dP_reach_97 : decode cP_reach 97 = .ok (.iconst (-1), 1) := by decide +kernel
theorem dP_reach_98 : decode cP_reach 98 = .ok (.if_icmp .eq 48, 3) := by decide +kernel
theorem dP_reach_101 : decode cP_reach 101 = .ok (.aload_n 0, 1) := by decide +kernel
theorem dP_reach_102 : decode cP_reach 102 = .ok (.getfield 36, 3) := by decide +kernel
theorem dP_reach_105 : decode cP_reach 105 = .ok (.iload 7, 2) := by decide +kernel
theorem dP_reach_107 : decode cP_reach 107 = .ok (.lload_n 3, 1) := by decide +kernel
theorem dP_reach_108 : decode cP_reach 108 = .ok (.aload_n 0, 1) := by decide +kernel
theorem dP_reach_109 : decode cP_reach 109 = .ok (.getfield 17, 3) := by decide +kernel
theorem dP_reach_112 : decode cP_reach 112 = .ok (.iload 7, 2) := by decide +kernel
theorem dP_reach_114 : decode cP_reach 114 = .ok (.aaload, 1) := by decide +kernel
theorem dP_reach_115 : decode cP_reach 115 = .ok (.iload_n 1, 1) := by decide +kernel
theorem dP_reach_116 : decode cP_reach 116 = .ok (.laload, 1) := by decide +kernel
theorem dP_reach_117 : decode cP_reach 117 = .ok (.lsub, 1) := by decide +kernel
theorem dP_reach_118 : decode cP_reach 118 = .ok (.lastore, 1) := by decide +kernel
theorem dP_reach_119 : decode cP_reach 119 = .ok (.aload_n 0, 1) := by decide +kernel
theorem dP_reach_120 : decode cP_reach 120 = .ok (.getfield 40, 3) := by decide +kernel
theorem dP_reach_123 : decode cP_reach 123 = .ok (.iload 7, 2) := by decide +kernel
theorem dP_reach_125 : decode cP_reach 125 = .ok (.lload 5, 2) := by decide +kernel
theorem dP_reach_127 : decode cP_reach 127 = .ok (.aload_n 0, 1) := by decide +kernel
theorem dP_reach_128 : decode cP_reach 128 = .ok (.getfield 20, 3) := by decide +kernel
theorem dP_reach_131 : decode cP_reach 131 = .ok (.iload 7, 2) := by decide +kernel
theorem dP_reach_133 : decode cP_reach 133 = .ok (.aaload, 1) := by decide +kernel
theorem dP_reach_134 : decode cP_reach 134 = .ok (.iload_n 1, 1) := by decide +kernel
theorem dP_reach_135 : decode cP_reach 135 = .ok (.laload, 1) := by decide +kernel
theorem dP_reach_136 : decode cP_reach 136 = .ok (.lsub, 1) := by decide +kernel
theorem dP_reach_137 : decode cP_reach 137 = .ok (.lastore, 1) := by decide +kernel
theorem dP_reach_138 : decode cP_reach 138 = .ok (.aload_n 0, 1) := by decide +kernel
theorem dP_reach_139 : decode cP_reach 139 = .ok (.getfield 32, 3) := by decide +kernel
theorem dP_reach_142 : decode cP_reach 142 = .ok (.iload 7, 2) := by decide +kernel
theorem dP_reach_144 : decode cP_reach 144 = .ok (.iconst 1, 1) := by decide +kernel
theorem dP_reach_145 : decode cP_reach 145 = .ok (.bastore, 1) := by decide +kernel
theorem dP_reach_146 : decode cP_reach 146 = .ok (.return_, 1) := by decide +kernel
theorem dP_cheapestEnd_0 : decode cP_cheapestEnd 0 = .ok (.iconst (-1), 1) := by decide +kernel
theorem dP_cheapestEnd_1 : decode cP_cheapestEnd 1 = .ok (.istore_n 1, 1) := by decide +kernel
theorem dP_cheapestEnd_2 : decode cP_cheapestEnd 2 = .ok (.iconst 0, 1) := by decide +kernel
theorem dP_cheapestEnd_3 : decode cP_cheapestEnd 3 = .ok (.istore_n 2, 1) := by decide +kernel
theorem dP_cheapestEnd_4 : decode cP_cheapestEnd 4 = .ok (.iload_n 2, 1) := by decide +kernel
theorem dP_cheapestEnd_5 : decode cP_cheapestEnd 5 = .ok (.bipush 12, 2) := by decide +kernel
theorem dP_cheapestEnd_7 : decode cP_cheapestEnd 7 = .ok (.if_icmp .ge 66, 3) := by decide +kernel
theorem dP_cheapestEnd_10 : decode cP_cheapestEnd 10 = .ok (.aload_n 0, 1) := by decide +kernel
theorem dP_cheapestEnd_11 : decode cP_cheapestEnd 11 = .ok (.getfield 26, 3) := by decide +kernel
theorem dP_cheapestEnd_14 : decode cP_cheapestEnd 14 = .ok (.iload_n 2, 1) := by decide +kernel
theorem dP_cheapestEnd_15 : decode cP_cheapestEnd 15 = .ok (.iaload, 1) := by decide +kernel
theorem dP_cheapestEnd_16 : decode cP_cheapestEnd 16 = .ok (.iconst (-1), 1) := by decide +kernel
theorem dP_cheapestEnd_17 : decode cP_cheapestEnd 17 = .ok (.if_icmp .ne 50, 3) := by decide +kernel
theorem dP_cheapestEnd_20 : decode cP_cheapestEnd 20 = .ok (.aload_n 0, 1) := by decide +kernel
theorem dP_cheapestEnd_21 : decode cP_cheapestEnd 21 = .ok (.getfield 43, 3) := by decide +kernel
theorem dP_cheapestEnd_24 : decode cP_cheapestEnd 24 = .ok (.iload_n 2, 1) := by decide +kernel
theorem dP_cheapestEnd_25 : decode cP_cheapestEnd 25 = .ok (.iaload, 1) := by decide +kernel
theorem dP_cheapestEnd_26 : decode cP_cheapestEnd 26 = .ok (.iconst (-1), 1) := by decide +kernel
theorem dP_cheapestEnd_27 : decode cP_cheapestEnd 27 = .ok (.if_icmp .eq 40, 3) := by decide +kernel
theorem dP_cheapestEnd_30 : decode cP_cheapestEnd 30 = .ok (.iload_n 1, 1) := by decide +kernel
theorem dP_cheapestEnd_31 : decode cP_cheapestEnd 31 = .ok (.iconst (-1), 1) := by decide +kernel
theorem dP_cheapestEnd_32 : decode cP_cheapestEnd 32 = .ok (.if_icmp .eq 33, 3) := by decide +kernel
theorem dP_cheapestEnd_35 : decode cP_cheapestEnd 35 = .ok (.aload_n 0, 1) := by decide +kernel
theorem dP_cheapestEnd_36 : decode cP_cheapestEnd 36 = .ok (.getfield 46, 3) := by decide +kernel
theorem dP_cheapestEnd_39 : decode cP_cheapestEnd 39 = .ok (.iload_n 2, 1) := by decide +kernel
theorem dP_cheapestEnd_40 : decode cP_cheapestEnd 40 = .ok (.laload, 1) := by decide +kernel
theorem dP_cheapestEnd_41 : decode cP_cheapestEnd 41 = .ok (.aload_n 0, 1) := by decide +kernel
theorem dP_cheapestEnd_42 : decode cP_cheapestEnd 42 = .ok (.getfield 49, 3) := by decide +kernel
theorem dP_cheapestEnd_45 : decode cP_cheapestEnd 45 = .ok (.iload_n 2, 1) := by decide +kernel
theorem dP_cheapestEnd_46 : decode cP_cheapestEnd 46 = .ok (.laload, 1) := by decide +kernel
theorem dP_cheapestEnd_47 : decode cP_cheapestEnd 47 = .ok (.aload_n 0, 1) := by decide +kernel
theorem dP_cheapestEnd_48 : decode cP_cheapestEnd 48 = .ok (.getfield 46, 3) := by decide +kernel
theorem dP_cheapestEnd_51 : decode cP_cheapestEnd 51 = .ok (.iload_n 1, 1) := by decide +kernel
theorem dP_cheapestEnd_52 : decode cP_cheapestEnd 52 = .ok (.laload, 1) := by decide +kernel
theorem dP_cheapestEnd_53 : decode cP_cheapestEnd 53 = .ok (.aload_n 0, 1) := by decide +kernel
theorem dP_cheapestEnd_54 : decode cP_cheapestEnd 54 = .ok (.getfield 49, 3) := by decide +kernel
theorem dP_cheapestEnd_57 : decode cP_cheapestEnd 57 = .ok (.iload_n 1, 1) := by decide +kernel
theorem dP_cheapestEnd_58 : decode cP_cheapestEnd 58 = .ok (.laload, 1) := by decide +kernel
theorem dP_cheapestEnd_59 : decode cP_cheapestEnd 59 = .ok (.invokestatic 83, 3) := by decide +kernel
theorem dP_cheapestEnd_62 : decode cP_cheapestEnd 62 = .ok (.ifCond .eq 5, 3) := by decide +kernel
theorem dP_cheapestEnd_65 : decode cP_cheapestEnd 65 = .ok (.iload_n 2, 1) := by decide +kernel
theorem dP_cheapestEnd_66 : decode cP_cheapestEnd 66 = .ok (.istore_n 1, 1) := by decide +kernel
theorem dP_cheapestEnd_67 : decode cP_cheapestEnd 67 = .ok (.iinc 2 1, 3) := by decide +kernel
theorem dP_cheapestEnd_70 : decode cP_cheapestEnd 70 = .ok (.goto (-66), 3) := by decide +kernel
theorem dP_cheapestEnd_73 : decode cP_cheapestEnd 73 = .ok (.iload_n 1, 1) := by decide +kernel
theorem dP_cheapestEnd_74 : decode cP_cheapestEnd 74 = .ok (.ireturn, 1) := by decide +kernel
theorem dP_turnPath_0 : decode cP_turnPath 0 = .ok (.iload_n 1, 1) := by decide +kernel
theorem dP_turnPath_1 : decode cP_turnPath 1 = .ok (.istore_n 2, 1) := by decide +kernel
theorem dP_turnPath_2 : decode cP_turnPath 2 = .ok (.iconst 0, 1) := by decide +kernel
theorem dP_turnPath_3 : decode cP_turnPath 3 = .ok (.istore_n 3, 1) := by decide +kernel
theorem dP_turnPath_4 : decode cP_turnPath 4 = .ok (.iload_n 3, 1) := by decide +kernel
theorem dP_turnPath_5 : decode cP_turnPath 5 = .ok (.bipush 10, 2) := by decide +kernel
theorem dP_turnPath_7 : decode cP_turnPath 7 = .ok (.if_icmp .ge 57, 3) := by decide +kernel
theorem dP_turnPath_10 : decode cP_turnPath 10 = .ok (.iload_n 2, 1) := by decide +kernel
theorem dP_turnPath_11 : decode cP_turnPath 11 = .ok (.iconst (-1), 1) := by decide +kernel
theorem dP_turnPath_12 : decode cP_turnPath 12 = .ok (.if_icmp .eq 52, 3) := by decide +kernel
theorem dP_turnPath_15 : decode cP_turnPath 15 = .ok (.aload_n 0, 1) := by decide +kernel
theorem dP_turnPath_16 : decode cP_turnPath 16 = .ok (.getfield 43, 3) := by decide +kernel
theorem dP_turnPath_19 : decode cP_turnPath 19 = .ok (.iload_n 2, 1) := by decide +kernel
theorem dP_turnPath_20 : decode cP_turnPath 20 = .ok (.iaload, 1) := by decide +kernel
theorem dP_turnPath_21 : decode cP_turnPath 21 = .ok (.istore 4, 2) := by decide +kernel
theorem dP_turnPath_23 : decode cP_turnPath 23 = .ok (.iload 4, 2) := by decide +kernel
theorem dP_turnPath_25 : decode cP_turnPath 25 = .ok (.iconst (-1), 1) := by decide +kernel
theorem dP_turnPath_26 : decode cP_turnPath 26 = .ok (.if_icmp .ne 4, 3) := by decide +kernel
theorem dP_turnPath_29 : decode cP_turnPath 29 = .ok (.return_, 1) := by decide +kernel
theorem dP_turnPath_30 : decode cP_turnPath 30 = .ok (.aload_n 0, 1) := by decide +kernel
theorem dP_turnPath_31 : decode cP_turnPath 31 = .ok (.getfield 23, 3) := by decide +kernel
theorem dP_turnPath_34 : decode cP_turnPath 34 = .ok (.iload 4, 2) := by decide +kernel
theorem dP_turnPath_36 : decode cP_turnPath 36 = .ok (.iaload, 1) := by decide +kernel
theorem dP_turnPath_37 : decode cP_turnPath 37 = .ok (.istore 5, 2) := by decide +kernel
theorem dP_turnPath_39 : decode cP_turnPath 39 = .ok (.aload_n 0, 1) := by decide +kernel
theorem dP_turnPath_40 : decode cP_turnPath 40 = .ok (.getfield 23, 3) := by decide +kernel
theorem dP_turnPath_43 : decode cP_turnPath 43 = .ok (.iload 4, 2) := by decide +kernel
theorem dP_turnPath_45 : decode cP_turnPath 45 = .ok (.iload_n 2, 1) := by decide +kernel
theorem dP_turnPath_46 : decode cP_turnPath 46 = .ok (.iastore, 1) := by decide +kernel
theorem dP_turnPath_47 : decode cP_turnPath 47 = .ok (.aload_n 0, 1) := by decide +kernel
theorem dP_turnPath_48 : decode cP_turnPath 48 = .ok (.getfield 26, 3) := by decide +kernel
theorem dP_turnPath_51 : decode cP_turnPath 51 = .ok (.iload_n 2, 1) := by decide +kernel
theorem dP_turnPath_52 : decode cP_turnPath 52 = .ok (.iload 4, 2) := by decide +kernel
theorem dP_turnPath_54 : decode cP_turnPath 54 = .ok (.iastore, 1) := by decide +kernel
theorem dP_turnPath_55 : decode cP_turnPath 55 = .ok (.iload 5, 2) := by decide +kernel
theorem dP_turnPath_57 : decode cP_turnPath 57 = .ok (.istore_n 2, 1) := by decide +kernel
theorem dP_turnPath_58 : decode cP_turnPath 58 = .ok (.iinc 3 1, 3) := by decide +kernel
theorem dP_turnPath_61 : decode cP_turnPath 61 = .ok (.goto (-57), 3) := by decide +kernel
theorem dP_turnPath_64 : decode cP_turnPath 64 = .ok (.return_, 1) := by decide +kernel
