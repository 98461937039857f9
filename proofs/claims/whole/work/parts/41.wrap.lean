abbrev cL_unit : ByteArray := method_3_code
def yL_unit : MethodName := ⟨"SendBestLaw", "unit", "(LSendBest;I[J)I"⟩
theorem dL_unit_0 : decode cL_unit 0 = .ok (.aload_n 2, 1) := by decide +kernel
theorem dL_unit_1 : decode cL_unit 1 = .ok (.iconst 0, 1) := by decide +kernel
theorem dL_unit_2 : decode cL_unit 2 = .ok (.aload_n 0, 1) := by decide +kernel
theorem dL_unit_3 : decode cL_unit 3 = .ok (.iload_n 1, 1) := by decide +kernel
theorem dL_unit_4 : decode cL_unit 4 = .ok (.invokevirtual 7, 3) := by decide +kernel
theorem dL_unit_7 : decode cL_unit 7 = .ok (.i2l, 1) := by decide +kernel
theorem dL_unit_8 : decode cL_unit 8 = .ok (.lastore, 1) := by decide +kernel
theorem dL_unit_9 : decode cL_unit 9 = .ok (.goto 9, 3) := by decide +kernel
theorem dL_unit_12 : decode cL_unit 12 = .ok (.astore_n 3, 1) := by decide +kernel
theorem dL_unit_13 : decode cL_unit 13 = .ok (.iconst 1, 1) := by decide +kernel
theorem dL_unit_14 : decode cL_unit 14 = .ok (.ireturn, 1) := by decide +kernel
theorem dL_unit_15 : decode cL_unit 15 = .ok (.astore_n 3, 1) := by decide +kernel
theorem dL_unit_16 : decode cL_unit 16 = .ok (.iconst 2, 1) := by decide +kernel
theorem dL_unit_17 : decode cL_unit 17 = .ok (.ireturn, 1) := by decide +kernel
theorem dL_unit_18 : decode cL_unit 18 = .ok (.iconst 0, 1) := by decide +kernel
theorem dL_unit_19 : decode cL_unit 19 = .ok (.ireturn, 1) := by decide +kernel
abbrev cL_incident : ByteArray := method_4_code
def yL_incident : MethodName := ⟨"SendBestLaw", "incident", "(LSendBest;I[J)I"⟩
theorem dL_incident_0 : decode cL_incident 0 = .ok (.aload_n 2, 1) := by decide +kernel
theorem dL_incident_1 : decode cL_incident 1 = .ok (.iconst 0, 1) := by decide +kernel
theorem dL_incident_2 : decode cL_incident 2 = .ok (.aload_n 0, 1) := by decide +kernel
theorem dL_incident_3 : decode cL_incident 3 = .ok (.iload_n 1, 1) := by decide +kernel
theorem dL_incident_4 : decode cL_incident 4 = .ok (.invokevirtual 17, 3) := by decide +kernel
theorem dL_incident_7 : decode cL_incident 7 = .ok (.i2l, 1) := by decide +kernel
theorem dL_incident_8 : decode cL_incident 8 = .ok (.lastore, 1) := by decide +kernel
theorem dL_incident_9 : decode cL_incident 9 = .ok (.goto 9, 3) := by decide +kernel
theorem dL_incident_12 : decode cL_incident 12 = .ok (.astore_n 3, 1) := by decide +kernel
theorem dL_incident_13 : decode cL_incident 13 = .ok (.iconst 1, 1) := by decide +kernel
theorem dL_incident_14 : decode cL_incident 14 = .ok (.ireturn, 1) := by decide +kernel
theorem dL_incident_15 : decode cL_incident 15 = .ok (.astore_n 3, 1) := by decide +kernel
theorem dL_incident_16 : decode cL_incident 16 = .ok (.iconst 2, 1) := by decide +kernel
theorem dL_incident_17 : decode cL_incident 17 = .ok (.ireturn, 1) := by decide +kernel
theorem dL_incident_18 : decode cL_incident 18 = .ok (.iconst 0, 1) := by decide +kernel
theorem dL_incident_19 : decode cL_incident 19 = .ok (.ireturn, 1) := by decide +kernel
abbrev cL_rank : ByteArray := method_5_code
def yL_rank : MethodName := ⟨"SendBestLaw", "rank", "(LSendBest;II)I"⟩
theorem dL_rank_0 : decode cL_rank 0 = .ok (.aload_n 0, 1) := by decide +kernel
theorem dL_rank_1 : decode cL_rank 1 = .ok (.iload_n 1, 1) := by decide +kernel
theorem dL_rank_2 : decode cL_rank 2 = .ok (.iload_n 2, 1) := by decide +kernel
theorem dL_rank_3 : decode cL_rank 3 = .ok (.invokevirtual 20, 3) := by decide +kernel
theorem dL_rank_6 : decode cL_rank 6 = .ok (.goto 12, 3) := by decide +kernel
theorem dL_rank_9 : decode cL_rank 9 = .ok (.astore_n 3, 1) := by decide +kernel
theorem dL_rank_10 : decode cL_rank 10 = .ok (.iconst 1, 1) := by decide +kernel
theorem dL_rank_11 : decode cL_rank 11 = .ok (.ireturn, 1) := by decide +kernel
theorem dL_rank_12 : decode cL_rank 12 = .ok (.astore_n 3, 1) := by decide +kernel
theorem dL_rank_13 : decode cL_rank 13 = .ok (.iconst 2, 1) := by decide +kernel
theorem dL_rank_14 : decode cL_rank 14 = .ok (.ireturn, 1) := by decide +kernel
theorem dL_rank_15 : decode cL_rank 15 = .ok (.astore_n 3, 1) := by decide +kernel
theorem dL_rank_16 : decode cL_rank 16 = .ok (.iconst 3, 1) := by decide +kernel
theorem dL_rank_17 : decode cL_rank 17 = .ok (.ireturn, 1) := by decide +kernel
theorem dL_rank_18 : decode cL_rank 18 = .ok (.iconst 0, 1) := by decide +kernel
theorem dL_rank_19 : decode cL_rank 19 = .ok (.ireturn, 1) := by decide +kernel
abbrev cL_need : ByteArray := method_6_code
def yL_need : MethodName := ⟨"SendBestLaw", "need", "(LSendBest;III[J)I"⟩
theorem dL_need_0 : decode cL_need 0 = .ok (.aload 4, 2) := by decide +kernel
theorem dL_need_2 : decode cL_need 2 = .ok (.iconst 0, 1) := by decide +kernel
theorem dL_need_3 : decode cL_need 3 = .ok (.aload_n 0, 1) := by decide +kernel
theorem dL_need_4 : decode cL_need 4 = .ok (.iload_n 1, 1) := by decide +kernel
theorem dL_need_5 : decode cL_need 5 = .ok (.iload_n 2, 1) := by decide +kernel
theorem dL_need_6 : decode cL_need 6 = .ok (.iload_n 3, 1) := by decide +kernel
theorem dL_need_7 : decode cL_need 7 = .ok (.invokevirtual 28, 3) := by decide +kernel
theorem dL_need_10 : decode cL_need 10 = .ok (.i2l, 1) := by decide +kernel
theorem dL_need_11 : decode cL_need 11 = .ok (.lastore, 1) := by decide +kernel
theorem dL_need_12 : decode cL_need 12 = .ok (.goto 19, 3) := by decide +kernel
theorem dL_need_15 : decode cL_need 15 = .ok (.astore 5, 2) := by decide +kernel
theorem dL_need_17 : decode cL_need 17 = .ok (.iconst 1, 1) := by decide +kernel
theorem dL_need_18 : decode cL_need 18 = .ok (.ireturn, 1) := by decide +kernel
theorem dL_need_19 : decode cL_need 19 = .ok (.astore 5, 2) := by decide +kernel
theorem dL_need_21 : decode cL_need 21 = .ok (.iconst 2, 1) := by decide +kernel
theorem dL_need_22 : decode cL_need 22 = .ok (.ireturn, 1) := by decide +kernel
theorem dL_need_23 : decode cL_need 23 = .ok (.astore 5, 2) := by decide +kernel
theorem dL_need_25 : decode cL_need 25 = .ok (.iconst 3, 1) := by decide +kernel
theorem dL_need_26 : decode cL_need 26 = .ok (.ireturn, 1) := by decide +kernel
theorem dL_need_27 : decode cL_need 27 = .ok (.astore 5, 2) := by decide +kernel
theorem dL_need_29 : decode cL_need 29 = .ok (.iconst 4, 1) := by decide +kernel
theorem dL_need_30 : decode cL_need 30 = .ok (.ireturn, 1) := by decide +kernel
theorem dL_need_31 : decode cL_need 31 = .ok (.iconst 0, 1) := by decide +kernel
theorem dL_need_32 : decode cL_need 32 = .ok (.ireturn, 1) := by decide +kernel
abbrev cL_seconds : ByteArray := method_7_code
def yL_seconds : MethodName := ⟨"SendBestLaw", "seconds", "(LSendBest;III)I"⟩
theorem dL_seconds_0 : decode cL_seconds 0 = .ok (.aload_n 0, 1) := by decide +kernel
theorem dL_seconds_1 : decode cL_seconds 1 = .ok (.iload_n 1, 1) := by decide +kernel
theorem dL_seconds_2 : decode cL_seconds 2 = .ok (.iload_n 2, 1) := by decide +kernel
theorem dL_seconds_3 : decode cL_seconds 3 = .ok (.iload_n 3, 1) := by decide +kernel
theorem dL_seconds_4 : decode cL_seconds 4 = .ok (.invokevirtual 32, 3) := by decide +kernel
theorem dL_seconds_7 : decode cL_seconds 7 = .ok (.goto 11, 3) := by decide +kernel
theorem dL_seconds_10 : decode cL_seconds 10 = .ok (.astore 4, 2) := by decide +kernel
theorem dL_seconds_12 : decode cL_seconds 12 = .ok (.iconst 1, 1) := by decide +kernel
theorem dL_seconds_13 : decode cL_seconds 13 = .ok (.ireturn, 1) := by decide +kernel
theorem dL_seconds_14 : decode cL_seconds 14 = .ok (.astore 4, 2) := by decide +kernel
theorem dL_seconds_16 : decode cL_seconds 16 = .ok (.iconst 2, 1) := by decide +kernel
theorem dL_seconds_17 : decode cL_seconds 17 = .ok (.ireturn, 1) := by decide +kernel
theorem dL_seconds_18 : decode cL_seconds 18 = .ok (.iconst 0, 1) := by decide +kernel
theorem dL_seconds_19 : decode cL_seconds 19 = .ok (.ireturn, 1) := by decide +kernel
abbrev cL_limit : ByteArray := method_8_code
def yL_limit : MethodName := ⟨"SendBestLaw", "limit", "(LSendBest;II)I"⟩
theorem dL_limit_0 : decode cL_limit 0 = .ok (.aload_n 0, 1) := by decide +kernel
theorem dL_limit_1 : decode cL_limit 1 = .ok (.iload_n 1, 1) := by decide +kernel
theorem dL_limit_2 : decode cL_limit 2 = .ok (.iload_n 2, 1) := by decide +kernel
theorem dL_limit_3 : decode cL_limit 3 = .ok (.invokevirtual 36, 3) := by decide +kernel
theorem dL_limit_6 : decode cL_limit 6 = .ok (.goto 9, 3) := by decide +kernel
theorem dL_limit_9 : decode cL_limit 9 = .ok (.astore_n 3, 1) := by decide +kernel
theorem dL_limit_10 : decode cL_limit 10 = .ok (.iconst 1, 1) := by decide +kernel
theorem dL_limit_11 : decode cL_limit 11 = .ok (.ireturn, 1) := by decide +kernel
theorem dL_limit_12 : decode cL_limit 12 = .ok (.astore_n 3, 1) := by decide +kernel
theorem dL_limit_13 : decode cL_limit 13 = .ok (.iconst 2, 1) := by decide +kernel
theorem dL_limit_14 : decode cL_limit 14 = .ok (.ireturn, 1) := by decide +kernel
theorem dL_limit_15 : decode cL_limit 15 = .ok (.iconst 0, 1) := by decide +kernel
theorem dL_limit_16 : decode cL_limit 16 = .ok (.ireturn, 1) := by decide +kernel
abbrev cL_reserve : ByteArray := method_9_code
def yL_reserve : MethodName := ⟨"SendBestLaw", "reserve", "(LSendBest;II)I"⟩
theorem dL_reserve_0 : decode cL_reserve 0 = .ok (.aload_n 0, 1) := by decide +kernel
theorem dL_reserve_1 : decode cL_reserve 1 = .ok (.iload_n 1, 1) := by decide +kernel
theorem dL_reserve_2 : decode cL_reserve 2 = .ok (.iload_n 2, 1) := by decide +kernel
theorem dL_reserve_3 : decode cL_reserve 3 = .ok (.invokevirtual 39, 3) := by decide +kernel
theorem dL_reserve_6 : decode cL_reserve 6 = .ok (.goto 6, 3) := by decide +kernel
theorem dL_reserve_9 : decode cL_reserve 9 = .ok (.astore_n 3, 1) := by decide +kernel
theorem dL_reserve_10 : decode cL_reserve 10 = .ok (.iconst 1, 1) := by decide +kernel
theorem dL_reserve_11 : decode cL_reserve 11 = .ok (.ireturn, 1) := by decide +kernel
theorem dL_reserve_12 : decode cL_reserve 12 = .ok (.iconst 0, 1) := by decide +kernel
theorem dL_reserve_13 : decode cL_reserve 13 = .ok (.ireturn, 1) := by decide +kernel
abbrev cL_broken : ByteArray := method_10_code
def yL_broken : MethodName := ⟨"SendBestLaw", "broken", "(LSendBest;IZ)I"⟩
theorem dL_broken_0 : decode cL_broken 0 = .ok (.aload_n 0, 1) := by decide +kernel
theorem dL_broken_1 : decode cL_broken 1 = .ok (.iload_n 1, 1) := by decide +kernel
theorem dL_broken_2 : decode cL_broken 2 = .ok (.iload_n 2, 1) := by decide +kernel
theorem dL_broken_3 : decode cL_broken 3 = .ok (.invokevirtual 42, 3) := by decide +kernel
theorem dL_broken_6 : decode cL_broken 6 = .ok (.goto 9, 3) := by decide +kernel
theorem dL_broken_9 : decode cL_broken 9 = .ok (.astore_n 3, 1) := by decide +kernel
theorem dL_broken_10 : decode cL_broken 10 = .ok (.iconst 1, 1) := by decide +kernel
theorem dL_broken_11 : decode cL_broken 11 = .ok (.ireturn, 1) := by decide +kernel
theorem dL_broken_12 : decode cL_broken 12 = .ok (.astore_n 3, 1) := by decide +kernel
theorem dL_broken_13 : decode cL_broken 13 = .ok (.iconst 2, 1) := by decide +kernel
theorem dL_broken_14 : decode cL_broken 14 = .ok (.ireturn, 1) := by decide +kernel
theorem dL_broken_15 : decode cL_broken 15 = .ok (.iconst 0, 1) := by decide +kernel
theorem dL_broken_16 : decode cL_broken 16 = .ok (.ireturn, 1) := by decide +kernel
abbrev cL_send : ByteArray := method_11_code
def yL_send : MethodName := ⟨"SendBestLaw", "send", "(LSendBest;I[J)I"⟩
theorem dL_send_0 : decode cL_send 0 = .ok (.aload_n 2, 1) := by decide +kernel
theorem dL_send_1 : decode cL_send 1 = .ok (.iconst 0, 1) := by decide +kernel
theorem dL_send_2 : decode cL_send 2 = .ok (.aload_n 0, 1) := by decide +kernel
theorem dL_send_3 : decode cL_send 3 = .ok (.iload_n 1, 1) := by decide +kernel
theorem dL_send_4 : decode cL_send 4 = .ok (.invokevirtual 46, 3) := by decide +kernel
theorem dL_send_7 : decode cL_send 7 = .ok (.i2l, 1) := by decide +kernel
theorem dL_send_8 : decode cL_send 8 = .ok (.lastore, 1) := by decide +kernel
theorem dL_send_9 : decode cL_send 9 = .ok (.goto 6, 3) := by decide +kernel
theorem dL_send_12 : decode cL_send 12 = .ok (.astore_n 3, 1) := by decide +kernel
theorem dL_send_13 : decode cL_send 13 = .ok (.iconst 1, 1) := by decide +kernel
theorem dL_send_14 : decode cL_send 14 = .ok (.ireturn, 1) := by decide +kernel
theorem dL_send_15 : decode cL_send 15 = .ok (.iconst 0, 1) := by decide +kernel
theorem dL_send_16 : decode cL_send 16 = .ok (.ireturn, 1) := by decide +kernel
abbrev cL_stay : ByteArray := method_12_code
def yL_stay : MethodName := ⟨"SendBestLaw", "stay", "(LSendBest;IZ)I"⟩
theorem dL_stay_0 : decode cL_stay 0 = .ok (.aload_n 0, 1) := by decide +kernel
theorem dL_stay_1 : decode cL_stay 1 = .ok (.iload_n 1, 1) := by decide +kernel
theorem dL_stay_2 : decode cL_stay 2 = .ok (.iload_n 2, 1) := by decide +kernel
theorem dL_stay_3 : decode cL_stay 3 = .ok (.invokevirtual 49, 3) := by decide +kernel
theorem dL_stay_6 : decode cL_stay 6 = .ok (.goto 9, 3) := by decide +kernel
theorem dL_stay_9 : decode cL_stay 9 = .ok (.astore_n 3, 1) := by decide +kernel
theorem dL_stay_10 : decode cL_stay 10 = .ok (.iconst 1, 1) := by decide +kernel
theorem dL_stay_11 : decode cL_stay 11 = .ok (.ireturn, 1) := by decide +kernel
theorem dL_stay_12 : decode cL_stay 12 = .ok (.astore_n 3, 1) := by decide +kernel
theorem dL_stay_13 : decode cL_stay 13 = .ok (.iconst 2, 1) := by decide +kernel
theorem dL_stay_14 : decode cL_stay 14 = .ok (.ireturn, 1) := by decide +kernel
theorem dL_stay_15 : decode cL_stay 15 = .ok (.iconst 0, 1) := by decide +kernel
theorem dL_stay_16 : decode cL_stay 16 = .ok (.ireturn, 1) := by decide +kernel
abbrev cL_recall : ByteArray := method_13_code
def yL_recall : MethodName := ⟨"SendBestLaw", "recall", "(LSendBest;I)I"⟩
theorem dL_recall_0 : decode cL_recall 0 = .ok (.aload_n 0, 1) := by decide +kernel
theorem dL_recall_1 : decode cL_recall 1 = .ok (.iload_n 1, 1) := by decide +kernel
theorem dL_recall_2 : decode cL_recall 2 = .ok (.invokevirtual 52, 3) := by decide +kernel
theorem dL_recall_5 : decode cL_recall 5 = .ok (.goto 9, 3) := by decide +kernel
theorem dL_recall_8 : decode cL_recall 8 = .ok (.astore_n 2, 1) := by decide +kernel
theorem dL_recall_9 : decode cL_recall 9 = .ok (.iconst 1, 1) := by decide +kernel
theorem dL_recall_10 : decode cL_recall 10 = .ok (.ireturn, 1) := by decide +kernel
theorem dL_recall_11 : decode cL_recall 11 = .ok (.astore_n 2, 1) := by decide +kernel
theorem dL_recall_12 : decode cL_recall 12 = .ok (.iconst 2, 1) := by decide +kernel
theorem dL_recall_13 : decode cL_recall 13 = .ok (.ireturn, 1) := by decide +kernel
theorem dL_recall_14 : decode cL_recall 14 = .ok (.iconst 0, 1) := by decide +kernel
theorem dL_recall_15 : decode cL_recall 15 = .ok (.ireturn, 1) := by decide +kernel
abbrev cL_close : ByteArray := method_14_code
def yL_close : MethodName := ⟨"SendBestLaw", "close", "(LSendBest;I)I"⟩
theorem dL_close_0 : decode cL_close 0 = .ok (.aload_n 0, 1) := by decide +kernel
theorem dL_close_1 : decode cL_close 1 = .ok (.iload_n 1, 1) := by decide +kernel
theorem dL_close_2 : decode cL_close 2 = .ok (.invokevirtual 56, 3) := by decide +kernel
theorem dL_close_5 : decode cL_close 5 = .ok (.goto 9, 3) := by decide +kernel
theorem dL_close_8 : decode cL_close 8 = .ok (.astore_n 2, 1) := by decide +kernel
theorem dL_close_9 : decode cL_close 9 = .ok (.iconst 1, 1) := by decide +kernel
theorem dL_close_10 : decode cL_close 10 = .ok (.ireturn, 1) := by decide +kernel
theorem dL_close_11 : decode cL_close 11 = .ok (.astore_n 2, 1) := by decide +kernel
theorem dL_close_12 : decode cL_close 12 = .ok (.iconst 2, 1) := by decide +kernel
theorem dL_close_13 : decode cL_close 13 = .ok (.ireturn, 1) := by decide +kernel
theorem dL_close_14 : decode cL_close 14 = .ok (.iconst 0, 1) := by decide +kernel
theorem dL_close_15 : decode cL_close 15 = .ok (.ireturn, 1) := by decide +kernel
abbrev cL_needAt : ByteArray := method_15_code
def yL_needAt : MethodName := ⟨"SendBestLaw", "needAt", "(LSendBest;II[J)I"⟩
theorem dL_needAt_0 : decode cL_needAt 0 = .ok (.aload_n 3, 1) := by decide +kernel
theorem dL_needAt_1 : decode cL_needAt 1 = .ok (.iconst 0, 1) := by decide +kernel
theorem dL_needAt_2 : decode cL_needAt 2 = .ok (.aload_n 0, 1) := by decide +kernel
theorem dL_needAt_3 : decode cL_needAt 3 = .ok (.iload_n 1, 1) := by decide +kernel
theorem dL_needAt_4 : decode cL_needAt 4 = .ok (.iload_n 2, 1) := by decide +kernel
theorem dL_needAt_5 : decode cL_needAt 5 = .ok (.invokevirtual 59, 3) := by decide +kernel
theorem dL_needAt_8 : decode cL_needAt 8 = .ok (.i2l, 1) := by decide +kernel
theorem dL_needAt_9 : decode cL_needAt 9 = .ok (.lastore, 1) := by decide +kernel
theorem dL_needAt_10 : decode cL_needAt 10 = .ok (.goto 7, 3) := by decide +kernel
theorem dL_needAt_13 : decode cL_needAt 13 = .ok (.astore 4, 2) := by decide +kernel
theorem dL_needAt_15 : decode cL_needAt 15 = .ok (.iconst 1, 1) := by decide +kernel
theorem dL_needAt_16 : decode cL_needAt 16 = .ok (.ireturn, 1) := by decide +kernel
theorem dL_needAt_17 : decode cL_needAt 17 = .ok (.iconst 0, 1) := by decide +kernel
theorem dL_needAt_18 : decode cL_needAt 18 = .ok (.ireturn, 1) := by decide +kernel
abbrev cL_fills : ByteArray := method_16_code
def yL_fills : MethodName := ⟨"SendBestLaw", "fills", "(LSendBest;I[J)I"⟩
theorem dL_fills_0 : decode cL_fills 0 = .ok (.aload_n 2, 1) := by decide +kernel
theorem dL_fills_1 : decode cL_fills 1 = .ok (.iconst 0, 1) := by decide +kernel
theorem dL_fills_2 : decode cL_fills 2 = .ok (.aload_n 0, 1) := by decide +kernel
theorem dL_fills_3 : decode cL_fills 3 = .ok (.iload_n 1, 1) := by decide +kernel
theorem dL_fills_4 : decode cL_fills 4 = .ok (.invokevirtual 63, 3) := by decide +kernel
theorem dL_fills_7 : decode cL_fills 7 = .ok (.i2l, 1) := by decide +kernel
theorem dL_fills_8 : decode cL_fills 8 = .ok (.lastore, 1) := by decide +kernel
theorem dL_fills_9 : decode cL_fills 9 = .ok (.goto 6, 3) := by decide +kernel
theorem dL_fills_12 : decode cL_fills 12 = .ok (.astore_n 3, 1) := by decide +kernel
theorem dL_fills_13 : decode cL_fills 13 = .ok (.iconst 1, 1) := by decide +kernel
theorem dL_fills_14 : decode cL_fills 14 = .ok (.ireturn, 1) := by decide +kernel
theorem dL_fills_15 : decode cL_fills 15 = .ok (.iconst 0, 1) := by decide +kernel
theorem dL_fills_16 : decode cL_fills 16 = .ok (.ireturn, 1) := by decide +kernel
abbrev cL_sum : ByteArray := method_17_code
def yL_sum : MethodName := ⟨"SendBestLaw", "sum", "(LSendBest;I[J)I"⟩
theorem dL_sum_0 : decode cL_sum 0 = .ok (.aload_n 2, 1) := by decide +kernel
theorem dL_sum_1 : decode cL_sum 1 = .ok (.iconst 0, 1) := by decide +kernel
theorem dL_sum_2 : decode cL_sum 2 = .ok (.aload_n 0, 1) := by decide +kernel
theorem dL_sum_3 : decode cL_sum 3 = .ok (.iload_n 1, 1) := by decide +kernel
theorem dL_sum_4 : decode cL_sum 4 = .ok (.invokevirtual 66, 3) := by decide +kernel
theorem dL_sum_7 : decode cL_sum 7 = .ok (.i2l, 1) := by decide +kernel
theorem dL_sum_8 : decode cL_sum 8 = .ok (.lastore, 1) := by decide +kernel
theorem dL_sum_9 : decode cL_sum 9 = .ok (.goto 6, 3) := by decide +kernel
theorem dL_sum_12 : decode cL_sum 12 = .ok (.astore_n 3, 1) := by decide +kernel
theorem dL_sum_13 : decode cL_sum 13 = .ok (.iconst 1, 1) := by decide +kernel
theorem dL_sum_14 : decode cL_sum 14 = .ok (.ireturn, 1) := by decide +kernel
theorem dL_sum_15 : decode cL_sum 15 = .ok (.iconst 0, 1) := by decide +kernel
theorem dL_sum_16 : decode cL_sum 16 = .ok (.ireturn, 1) := by decide +kernel
abbrev cL_alternative : ByteArray := method_18_code
def yL_alternative : MethodName := ⟨"SendBestLaw", "alternative", "(LSendBest;I[J)I"⟩
theorem dL_alternative_0 : decode cL_alternative 0 = .ok (.aload_n 2, 1) := by decide +kernel
theorem dL_alternative_1 : decode cL_alternative 1 = .ok (.iconst 0, 1) := by decide +kernel
theorem dL_alternative_2 : decode cL_alternative 2 = .ok (.aload_n 0, 1) := by decide +kernel
theorem dL_alternative_3 : decode cL_alternative 3 = .ok (.iload_n 1, 1) := by decide +kernel
theorem dL_alternative_4 : decode cL_alternative 4 = .ok (.invokevirtual 69, 3) := by decide +kernel
theorem dL_alternative_7 : decode cL_alternative 7 = .ok (.i2l, 1) := by decide +kernel
theorem dL_alternative_8 : decode cL_alternative 8 = .ok (.lastore, 1) := by decide +kernel
theorem dL_alternative_9 : decode cL_alternative 9 = .ok (.goto 9, 3) := by decide +kernel
theorem dL_alternative_12 : decode cL_alternative 12 = .ok (.astore_n 3, 1) := by decide +kernel
theorem dL_alternative_13 : decode cL_alternative 13 = .ok (.iconst 1, 1) := by decide +kernel
theorem dL_alternative_14 : decode cL_alternative 14 = .ok (.ireturn, 1) := by decide +kernel
theorem dL_alternative_15 : decode cL_alternative 15 = .ok (.astore_n 3, 1) := by decide +kernel
theorem dL_alternative_16 : decode cL_alternative 16 = .ok (.iconst 2, 1) := by decide +kernel
theorem dL_alternative_17 : decode cL_alternative 17 = .ok (.ireturn, 1) := by decide +kernel
theorem dL_alternative_18 : decode cL_alternative 18 = .ok (.iconst 0, 1) := by decide +kernel
theorem dL_alternative_19 : decode cL_alternative 19 = .ok (.ireturn, 1) := by decide +kernel
abbrev cL_never : ByteArray := method_19_code
def yL_never : MethodName := ⟨"SendBestLaw", "never", "(LSendBest;I[J)I"⟩
theorem dL_never_0 : decode cL_never 0 = .ok (.aload_n 2, 1) := by decide +kernel
theorem dL_never_1 : decode cL_never 1 = .ok (.iconst 0, 1) := by decide +kernel
theorem dL_never_2 : decode cL_never 2 = .ok (.aload_n 0, 1) := by decide +kernel
theorem dL_never_3 : decode cL_never 3 = .ok (.iload_n 1, 1) := by decide +kernel
theorem dL_never_4 : decode cL_never 4 = .ok (.invokevirtual 72, 3) := by decide +kernel
theorem dL_never_7 : decode cL_never 7 = .ok (.i2l, 1) := by decide +kernel
theorem dL_never_8 : decode cL_never 8 = .ok (.lastore, 1) := by decide +kernel
theorem dL_never_9 : decode cL_never 9 = .ok (.goto 6, 3) := by decide +kernel
theorem dL_never_12 : decode cL_never 12 = .ok (.astore_n 3, 1) := by decide +kernel
theorem dL_never_13 : decode cL_never 13 = .ok (.iconst 1, 1) := by decide +kernel
theorem dL_never_14 : decode cL_never 14 = .ok (.ireturn, 1) := by decide +kernel
theorem dL_never_15 : decode cL_never 15 = .ok (.iconst 0, 1) := by decide +kernel
theorem dL_never_16 : decode cL_never 16 = .ok (.ireturn, 1) := by decide +kernel
def wp_L_unit (po : Int32 → wF → wA → wB → Prop) (x1 : Int32) (f : wF) (a : wA) (b : wB) : Prop := wp_S_unit (fun r f1 a1 b1 => po 0 f1 a1 (va_up (mgB b b1) 57 (vp_updL ((mgB b b1) 57) (0 : Int32).toNatClampNeg r.toInt64))) (fun E f1 a1 b1 => (E = "java/lang/IndexOutOfBoundsException" ∧ po 1 f1 a1 (mgB b b1)) ∨ (E = "java/lang/UnsupportedOperationException" ∧ po 2 f1 a1 (mgB b b1))) x1 f a b
def wp_L_incident (po : Int32 → wF → wA → wB → Prop) (x1 : Int32) (f : wF) (a : wA) (b : wB) : Prop := wp_S_incident (fun r f1 a1 b1 => po 0 f1 a1 (va_up (mgB b b1) 57 (vp_updL ((mgB b b1) 57) (0 : Int32).toNatClampNeg r.toInt64))) (fun E f1 a1 b1 => (E = "java/lang/IndexOutOfBoundsException" ∧ po 1 f1 a1 (mgB b b1)) ∨ (E = "java/lang/UnsupportedOperationException" ∧ po 2 f1 a1 (mgB b b1))) x1 f a b
def wp_L_rank (po : Int32 → wF → wA → wB → Prop) (x1 : Int32) (x2 : Int32) (f : wF) (a : wA) (b : wB) : Prop := wp_S_rank (fun f1 a1 b1 => po 0 f1 a1 (mgB b b1)) (fun E f1 a1 b1 => (E = "java/lang/IllegalArgumentException" ∧ po 1 f1 a1 (mgB b b1)) ∨ (E = "java/lang/IndexOutOfBoundsException" ∧ po 2 f1 a1 (mgB b b1)) ∨ (E = "java/lang/IllegalStateException" ∧ po 3 f1 a1 (mgB b b1))) x1 x2 f a b
def wp_L_need (po : Int32 → wF → wA → wB → Prop) (x1 : Int32) (x2 : Int32) (x3 : Int32) (f : wF) (a : wA) (b : wB) : Prop := wp_S_need (fun r f1 a1 b1 => po 0 f1 a1 (va_up (mgB b b1) 57 (vp_updL ((mgB b b1) 57) (0 : Int32).toNatClampNeg r.toInt64))) (fun E f1 a1 b1 => (E = "java/lang/IllegalArgumentException" ∧ po 1 f1 a1 (mgB b b1)) ∨ (E = "java/lang/IndexOutOfBoundsException" ∧ po 2 f1 a1 (mgB b b1)) ∨ (E = "java/lang/IllegalStateException" ∧ po 3 f1 a1 (mgB b b1)) ∨ (E = "java/lang/UnsupportedOperationException" ∧ po 4 f1 a1 (mgB b b1))) x1 x2 x3 f a b
def wp_L_seconds (po : Int32 → wF → wA → wB → Prop) (x1 : Int32) (x2 : Int32) (x3 : Int32) (f : wF) (a : wA) (b : wB) : Prop := wp_S_seconds (fun f1 a1 b1 => po 0 f1 a1 (mgB b b1)) (fun E f1 a1 b1 => (E = "java/lang/IllegalArgumentException" ∧ po 1 f1 a1 (mgB b b1)) ∨ (E = "java/lang/IndexOutOfBoundsException" ∧ po 2 f1 a1 (mgB b b1))) x1 x2 x3 f a b
def wp_L_limit (po : Int32 → wF → wA → wB → Prop) (x1 : Int32) (x2 : Int32) (f : wF) (a : wA) (b : wB) : Prop := wp_S_limit (fun f1 a1 b1 => po 0 f1 a1 (mgB b b1)) (fun E f1 a1 b1 => (E = "java/lang/IllegalArgumentException" ∧ po 1 f1 a1 (mgB b b1)) ∨ (E = "java/lang/IndexOutOfBoundsException" ∧ po 2 f1 a1 (mgB b b1))) x1 x2 f a b
def wp_L_reserve (po : Int32 → wF → wA → wB → Prop) (x1 : Int32) (x2 : Int32) (f : wF) (a : wA) (b : wB) : Prop := wp_S_reserve (fun f1 a1 b1 => po 0 f1 a1 (mgB b b1)) (fun E f1 a1 b1 => (E = "java/lang/IndexOutOfBoundsException" ∧ po 1 f1 a1 (mgB b b1))) x1 x2 f a b
def wp_L_broken (po : Int32 → wF → wA → wB → Prop) (x1 : Int32) (x2 : Int32) (f : wF) (a : wA) (b : wB) : Prop := wp_S_broken (fun f1 a1 b1 => po 0 f1 a1 (mgB b b1)) (fun E f1 a1 b1 => (E = "java/lang/IllegalArgumentException" ∧ po 1 f1 a1 (mgB b b1)) ∨ (E = "java/lang/IllegalStateException" ∧ po 2 f1 a1 (mgB b b1))) x1 x2 f a b
def wp_L_send (po : Int32 → wF → wA → wB → Prop) (x1 : Int32) (f : wF) (a : wA) (b : wB) : Prop := wp_S_send (fun r f1 a1 b1 => po 0 f1 a1 (va_up (mgB b b1) 57 (vp_updL ((mgB b b1) 57) (0 : Int32).toNatClampNeg r.toInt64))) (fun E f1 a1 b1 => (E = "java/lang/IndexOutOfBoundsException" ∧ po 1 f1 a1 (mgB b b1))) x1 f a b
def wp_L_stay (po : Int32 → wF → wA → wB → Prop) (x1 : Int32) (x2 : Int32) (f : wF) (a : wA) (b : wB) : Prop := wp_S_stay (fun f1 a1 b1 => po 0 f1 a1 (mgB b b1)) (fun E f1 a1 b1 => (E = "java/lang/IllegalArgumentException" ∧ po 1 f1 a1 (mgB b b1)) ∨ (E = "java/lang/IllegalStateException" ∧ po 2 f1 a1 (mgB b b1))) x1 x2 f a b
def wp_L_recall (po : Int32 → wF → wA → wB → Prop) (x1 : Int32) (f : wF) (a : wA) (b : wB) : Prop := wp_S_recall (fun f1 a1 b1 => po 0 f1 a1 (mgB b b1)) (fun E f1 a1 b1 => (E = "java/lang/IllegalArgumentException" ∧ po 1 f1 a1 (mgB b b1)) ∨ (E = "java/lang/IllegalStateException" ∧ po 2 f1 a1 (mgB b b1))) x1 f a b
def wp_L_close (po : Int32 → wF → wA → wB → Prop) (x1 : Int32) (f : wF) (a : wA) (b : wB) : Prop := wp_S_close (fun f1 a1 b1 => po 0 f1 a1 (mgB b b1)) (fun E f1 a1 b1 => (E = "java/lang/IllegalArgumentException" ∧ po 1 f1 a1 (mgB b b1)) ∨ (E = "java/lang/IllegalStateException" ∧ po 2 f1 a1 (mgB b b1))) x1 f a b
def wp_L_needAt (po : Int32 → wF → wA → wB → Prop) (x1 : Int32) (x2 : Int32) (f : wF) (a : wA) (b : wB) : Prop := wp_S_needAt (fun r f1 a1 b1 => po 0 f1 a1 (va_up (mgB b b1) 57 (vp_updL ((mgB b b1) 57) (0 : Int32).toNatClampNeg r.toInt64))) (fun E f1 a1 b1 => (E = "java/lang/IllegalArgumentException" ∧ po 1 f1 a1 (mgB b b1))) x1 x2 f a b
def wp_L_fills (po : Int32 → wF → wA → wB → Prop) (x1 : Int32) (f : wF) (a : wA) (b : wB) : Prop := wp_S_fills (fun r f1 a1 b1 => po 0 f1 a1 (va_up (mgB b b1) 57 (vp_updL ((mgB b b1) 57) (0 : Int32).toNatClampNeg r.toInt64))) (fun E f1 a1 b1 => (E = "java/lang/IllegalArgumentException" ∧ po 1 f1 a1 (mgB b b1))) x1 f a b
def wp_L_sum (po : Int32 → wF → wA → wB → Prop) (x1 : Int32) (f : wF) (a : wA) (b : wB) : Prop := wp_S_sum (fun r f1 a1 b1 => po 0 f1 a1 (va_up (mgB b b1) 57 (vp_updL ((mgB b b1) 57) (0 : Int32).toNatClampNeg r.toInt64))) (fun E f1 a1 b1 => (E = "java/lang/IllegalArgumentException" ∧ po 1 f1 a1 (mgB b b1))) x1 f a b
def wp_L_alternative (po : Int32 → wF → wA → wB → Prop) (x1 : Int32) (f : wF) (a : wA) (b : wB) : Prop := wp_S_alternative (fun r f1 a1 b1 => po 0 f1 a1 (va_up (mgB b b1) 57 (vp_updL ((mgB b b1) 57) (0 : Int32).toNatClampNeg r.toInt64))) (fun E f1 a1 b1 => (E = "java/lang/IllegalArgumentException" ∧ po 1 f1 a1 (mgB b b1)) ∨ (E = "java/lang/IllegalStateException" ∧ po 2 f1 a1 (mgB b b1))) x1 f a b
def wp_L_never (po : Int32 → wF → wA → wB → Prop) (x1 : Int32) (f : wF) (a : wA) (b : wB) : Prop := wp_S_never (fun r f1 a1 b1 => po 0 f1 a1 (va_up (mgB b b1) 57 (vp_updL ((mgB b b1) 57) (0 : Int32).toNatClampNeg r.toInt64))) (fun E f1 a1 b1 => (E = "java/lang/IndexOutOfBoundsException" ∧ po 1 f1 a1 (mgB b b1))) x1 f a b
set_option maxHeartbeats 4000000 in
set_option maxRecDepth 100000 in
theorem met_L_unit {l : Launch} (hl9 : l.stackTraces = false) (D : va_G) (ad : Nat → Nat) (ca : Nat → ClassId) (sa : Nat → Nat) (sz : Nat) (x1 : Int32) (f : wF) (a : wA) (b : wB) (po : Int32 → wF → wA → wB → Prop) (hw : wp_L_unit po x1 f a b) : mI nW kW (tyS ca) txS D vwCl l yL_unit (Cond.codeWith yL_unit cL_unit 4 (some .int) [(0, 9, 12, 13), (0, 9, 15, 15)] :: Wl) ({ frames := 7, cells := 1, slots := 6, locals := 103 }) [.ref (ad 0), .int x1, .ref (ad 57)] ad ca sa sz f a b po (fun _ _ _ _ => False) 1 6 := by
  refine ofIH (by decide) hl9 (Nat.le_of_ble_eq_true rfl) ?_
  intro p e s m below meth c ls X hTab hr K hl
  obtain ⟨hx, hb, hml, hown, hts, hK, hA, hth, hlk, hl9⟩ := id X
  have hl : lv_has ls 4 [(0, .ref (ad 0)), (1, .int x1), (2, .ref (ad 57))] := hl
  dsimp only [wp_L_unit] at hw
  refine lv_aload_n hx hb dL_unit_0 rfl (lv_at hl 2 rfl) ?_
  refine lv_iconst (v := (0 : Int32)) hx hb dL_unit_1 (by decide) ?_
  refine lv_aload_n hx hb dL_unit_2 rfl (lv_at hl 0 rfl) ?_
  refine lv_iload_n hx hb dL_unit_3 rfl (lv_at hl 1 rfl) ?_
  refine geI X K embS (fun f1 => f1) (fun a1 => a1) (mgB b) embS2 embSr (n0 := 1) (As := [.int x1]) (rest := [.int (0 : Int32), .ref (ad 57)]) (hM := (met_S_unit hl9 D ad ca sa _ x1 f a b _ _ hw)) (r0 := 0) (ho := by decide) (hko := kS_o0) (hci := rfl) (w1 := (tm1 (i := 139) rfl rfl)) (w2 := (tm1 (i := 140) rfl rfl)) (w3 := (tm1 (i := 141) rfl rfl)) (w4 := (tm1 (i := 1) rfl rfl)) (w5 := (tm1 (i := 142) rfl rfl)) (hd := ⟨rfl, by decide, by decide, by decide +kernel⟩) (hrc := rfl) (hrs := rfl) (hR := ⟨Nat.le_of_ble_eq_true rfl, Nat.le_of_ble_eq_true rfl⟩) (hn := rfl) (hsz := hl.1) (hst := rfl) (hW := Nat.le_of_ble_eq_true rfl) (hdg := dL_unit_4) (hf := ⟨Nat.le_of_ble_eq_true rfl, Nat.le_of_ble_eq_true rfl⟩) (fun E ce q9 f1 a1 b1 H locs hw K hce hv hcl => ?_) (fun r f1 a1 b1 H locs hw K => ?_)
  · rcases hw with ⟨rfl, hw⟩ | ⟨rfl, hw⟩
    · refine vx_catch (own := "SendBestLaw") (name := "java/lang/IndexOutOfBoundsException") (E := "java/lang/IndexOutOfBoundsException") hown [] ⟨0, 9, 12, 13⟩ [⟨0, 9, 15, 15⟩] (by rw [hTab]; rfl) (fun z hz => nomatch hz) (by decide) (by decide) (hts _ (tm1 (i := 137) rfl rfl)) (va_Nw.use rfl (hth.2.2.2.2.1 _ (by decide))) hce hv hcl ?_
      refine lv_astore_n (lv' := [(3, .ref q9), (0, .ref (ad 0)), (1, .int x1), (2, .ref (ad 57))]) hx hb dL_unit_12 rfl hl (by decide) rfl (fun ls hl => ?_)
      refine lv_iconst (v := (1 : Int32)) hx hb dL_unit_13 (by decide) ?_
      exact endI X K hr rfl hw (by decide) (by decide) dL_unit_14
    · refine vx_catch (own := "SendBestLaw") (name := "java/lang/UnsupportedOperationException") (E := "java/lang/UnsupportedOperationException") hown [⟨0, 9, 12, 13⟩] ⟨0, 9, 15, 15⟩ [] (by rw [hTab]; rfl) (fun z hz => by
        simp only [List.mem_cons, List.not_mem_nil, or_false] at hz
        rcases hz with rfl
        · exact Or.inr ⟨by decide, "java/lang/IndexOutOfBoundsException", hts _ (tm1 (i := 137) rfl rfl), hth.2.2.2.2.2 _ (by decide) _ (by decide) (by decide)⟩) (by decide) (by decide) (hts _ (tm1 (i := 138) rfl rfl)) (va_Nw.use rfl (hth.2.2.2.2.1 _ (by decide))) hce hv hcl ?_
      refine lv_astore_n (lv' := [(3, .ref q9), (0, .ref (ad 0)), (1, .int x1), (2, .ref (ad 57))]) hx hb dL_unit_15 rfl hl (by decide) rfl (fun ls hl => ?_)
      refine lv_iconst (v := (2 : Int32)) hx hb dL_unit_16 (by decide) ?_
      exact endI X K hr rfl hw (by decide) (by decide) dL_unit_17
  · skip
    refine lv_i2l (v := r.toInt64) hx hb dL_unit_7 rfl ?_
    refine glst X K (o := 57) (t0 := 2) (by decide) kW_c57 rfl (by unfold vp_in; decide) dL_unit_8 kW_p57 (fun H locs K => ?_)
    refine lv_goto (tgt := 18) hx hb dL_unit_9 (by decide) ?_
    refine lv_iconst (v := (0 : Int32)) hx hb dL_unit_18 (by decide) ?_
    exact endI X K hr rfl hw (by decide) (by decide) dL_unit_19
set_option maxHeartbeats 4000000 in
set_option maxRecDepth 100000 in
theorem met_L_incident {l : Launch} (hl9 : l.stackTraces = false) (D : va_G) (ad : Nat → Nat) (ca : Nat → ClassId) (sa : Nat → Nat) (sz : Nat) (x1 : Int32) (f : wF) (a : wA) (b : wB) (po : Int32 → wF → wA → wB → Prop) (hw : wp_L_incident po x1 f a b) : mI nW kW (tyS ca) txS D vwCl l yL_incident (Cond.codeWith yL_incident cL_incident 4 (some .int) [(0, 9, 12, 13), (0, 9, 15, 15)] :: Wl) ({ frames := 8, cells := 2, slots := 12, locals := 123 }) [.ref (ad 0), .int x1, .ref (ad 57)] ad ca sa sz f a b po (fun _ _ _ _ => False) 2 12 := by
  refine ofIH (by decide) hl9 (Nat.le_of_ble_eq_true rfl) ?_
  intro p e s m below meth c ls X hTab hr K hl
  obtain ⟨hx, hb, hml, hown, hts, hK, hA, hth, hlk, hl9⟩ := id X
  have hl : lv_has ls 4 [(0, .ref (ad 0)), (1, .int x1), (2, .ref (ad 57))] := hl
  dsimp only [wp_L_incident] at hw
  refine lv_aload_n hx hb dL_incident_0 rfl (lv_at hl 2 rfl) ?_
  refine lv_iconst (v := (0 : Int32)) hx hb dL_incident_1 (by decide) ?_
  refine lv_aload_n hx hb dL_incident_2 rfl (lv_at hl 0 rfl) ?_
  refine lv_iload_n hx hb dL_incident_3 rfl (lv_at hl 1 rfl) ?_
  refine geI X K embS (fun f1 => f1) (fun a1 => a1) (mgB b) embS2 embSr (n0 := 1) (As := [.int x1]) (rest := [.int (0 : Int32), .ref (ad 57)]) (hM := (met_S_incident hl9 D ad ca sa _ x1 f a b _ _ hw)) (r0 := 0) (ho := by decide) (hko := kS_o0) (hci := rfl) (w1 := (tm1 (i := 232) rfl rfl)) (w2 := (tm1 (i := 233) rfl rfl)) (w3 := (tm1 (i := 234) rfl rfl)) (w4 := (tm1 (i := 1) rfl rfl)) (w5 := (tm1 (i := 235) rfl rfl)) (hd := ⟨rfl, by decide, by decide, by decide +kernel⟩) (hrc := rfl) (hrs := rfl) (hR := ⟨Nat.le_of_ble_eq_true rfl, Nat.le_of_ble_eq_true rfl⟩) (hn := rfl) (hsz := hl.1) (hst := rfl) (hW := Nat.le_of_ble_eq_true rfl) (hdg := dL_incident_4) (hf := ⟨Nat.le_of_ble_eq_true rfl, Nat.le_of_ble_eq_true rfl⟩) (fun E ce q9 f1 a1 b1 H locs hw K hce hv hcl => ?_) (fun r f1 a1 b1 H locs hw K => ?_)
  · rcases hw with ⟨rfl, hw⟩ | ⟨rfl, hw⟩
    · refine vx_catch (own := "SendBestLaw") (name := "java/lang/IndexOutOfBoundsException") (E := "java/lang/IndexOutOfBoundsException") hown [] ⟨0, 9, 12, 13⟩ [⟨0, 9, 15, 15⟩] (by rw [hTab]; rfl) (fun z hz => nomatch hz) (by decide) (by decide) (hts _ (tm1 (i := 137) rfl rfl)) (va_Nw.use rfl (hth.2.2.2.2.1 _ (by decide))) hce hv hcl ?_
      refine lv_astore_n (lv' := [(3, .ref q9), (0, .ref (ad 0)), (1, .int x1), (2, .ref (ad 57))]) hx hb dL_incident_12 rfl hl (by decide) rfl (fun ls hl => ?_)
      refine lv_iconst (v := (1 : Int32)) hx hb dL_incident_13 (by decide) ?_
      exact endI X K hr rfl hw (by decide) (by decide) dL_incident_14
    · refine vx_catch (own := "SendBestLaw") (name := "java/lang/UnsupportedOperationException") (E := "java/lang/UnsupportedOperationException") hown [⟨0, 9, 12, 13⟩] ⟨0, 9, 15, 15⟩ [] (by rw [hTab]; rfl) (fun z hz => by
        simp only [List.mem_cons, List.not_mem_nil, or_false] at hz
        rcases hz with rfl
        · exact Or.inr ⟨by decide, "java/lang/IndexOutOfBoundsException", hts _ (tm1 (i := 137) rfl rfl), hth.2.2.2.2.2 _ (by decide) _ (by decide) (by decide)⟩) (by decide) (by decide) (hts _ (tm1 (i := 138) rfl rfl)) (va_Nw.use rfl (hth.2.2.2.2.1 _ (by decide))) hce hv hcl ?_
      refine lv_astore_n (lv' := [(3, .ref q9), (0, .ref (ad 0)), (1, .int x1), (2, .ref (ad 57))]) hx hb dL_incident_15 rfl hl (by decide) rfl (fun ls hl => ?_)
      refine lv_iconst (v := (2 : Int32)) hx hb dL_incident_16 (by decide) ?_
      exact endI X K hr rfl hw (by decide) (by decide) dL_incident_17
  · skip
    refine lv_i2l (v := r.toInt64) hx hb dL_incident_7 rfl ?_
    refine glst X K (o := 57) (t0 := 2) (by decide) kW_c57 rfl (by unfold vp_in; decide) dL_incident_8 kW_p57 (fun H locs K => ?_)
    refine lv_goto (tgt := 18) hx hb dL_incident_9 (by decide) ?_
    refine lv_iconst (v := (0 : Int32)) hx hb dL_incident_18 (by decide) ?_
    exact endI X K hr rfl hw (by decide) (by decide) dL_incident_19
set_option maxHeartbeats 4000000 in
set_option maxRecDepth 100000 in
theorem met_L_rank {l : Launch} (hl9 : l.stackTraces = false) (D : va_G) (ad : Nat → Nat) (ca : Nat → ClassId) (sa : Nat → Nat) (sz : Nat) (x1 : Int32) (x2 : Int32) (f : wF) (a : wA) (b : wB) (po : Int32 → wF → wA → wB → Prop) (hw : wp_L_rank po x1 x2 f a b) : mI nW kW (tyS ca) txS D vwCl l yL_rank (Cond.codeWith yL_rank cL_rank 4 (some .int) [(0, 6, 9, 24), (0, 6, 12, 13), (0, 6, 15, 26)] :: Wl) ({ frames := 8, cells := 3, slots := 18, locals := 125 }) [.ref (ad 0), .int x1, .int x2] ad ca sa sz f a b po (fun _ _ _ _ => False) 3 18 := by
  refine ofIH (by decide) hl9 (Nat.le_of_ble_eq_true rfl) ?_
  intro p e s m below meth c ls X hTab hr K hl
  obtain ⟨hx, hb, hml, hown, hts, hK, hA, hth, hlk, hl9⟩ := id X
  have hl : lv_has ls 4 [(0, .ref (ad 0)), (1, .int x1), (2, .int x2)] := hl
  dsimp only [wp_L_rank] at hw
  refine lv_aload_n hx hb dL_rank_0 rfl (lv_at hl 0 rfl) ?_
  refine lv_iload_n hx hb dL_rank_1 rfl (lv_at hl 1 rfl) ?_
  refine lv_iload_n hx hb dL_rank_2 rfl (lv_at hl 2 rfl) ?_
  refine geV X K embS (fun f1 => f1) (fun a1 => a1) (mgB b) embS2 embSr (n0 := 2) (As := [.int x1, .int x2]) (rest := []) (hM := (met_S_rank hl9 D ad ca sa _ x1 x2 f a b _ _ hw)) (r0 := 0) (ho := by decide) (hko := kS_o0) (hci := rfl) (w1 := (tm2 (i := 6) rfl rfl)) (w2 := (tm2 (i := 7) rfl rfl)) (w3 := (tm2 (i := 8) rfl rfl)) (w4 := (tm1 (i := 1) rfl rfl)) (w5 := (tm2 (i := 9) rfl rfl)) (hd := ⟨rfl, by decide, by decide, by decide +kernel⟩) (hrc := rfl) (hrs := rfl) (hR := ⟨Nat.le_of_ble_eq_true rfl, Nat.le_of_ble_eq_true rfl⟩) (hn := rfl) (hsz := hl.1) (hst := rfl) (hW := Nat.le_of_ble_eq_true rfl) (hdg := dL_rank_3) (hf := ⟨Nat.le_of_ble_eq_true rfl, Nat.le_of_ble_eq_true rfl⟩) (fun E ce q9 f1 a1 b1 H locs hw K hce hv hcl => ?_) (fun f1 a1 b1 H locs hw K => ?_)
  · rcases hw with ⟨rfl, hw⟩ | ⟨rfl, hw⟩ | ⟨rfl, hw⟩
    · refine vx_catch (own := "SendBestLaw") (name := "java/lang/IllegalArgumentException") (E := "java/lang/IllegalArgumentException") hown [] ⟨0, 6, 9, 24⟩ [⟨0, 6, 12, 13⟩, ⟨0, 6, 15, 26⟩] (by rw [hTab]; rfl) (fun z hz => nomatch hz) (by decide) (by decide) (hts _ (tm2 (i := 4) rfl rfl)) (va_Nw.use rfl (hth.2.2.2.2.1 _ (by decide))) hce hv hcl ?_
      refine lv_astore_n (lv' := [(3, .ref q9), (0, .ref (ad 0)), (1, .int x1), (2, .int x2)]) hx hb dL_rank_9 rfl hl (by decide) rfl (fun ls hl => ?_)
      refine lv_iconst (v := (1 : Int32)) hx hb dL_rank_10 (by decide) ?_
      exact endI X K hr rfl hw (by decide) (by decide) dL_rank_11
    · refine vx_catch (own := "SendBestLaw") (name := "java/lang/IndexOutOfBoundsException") (E := "java/lang/IndexOutOfBoundsException") hown [⟨0, 6, 9, 24⟩] ⟨0, 6, 12, 13⟩ [⟨0, 6, 15, 26⟩] (by rw [hTab]; rfl) (fun z hz => by
        simp only [List.mem_cons, List.not_mem_nil, or_false] at hz
        rcases hz with rfl
        · exact Or.inr ⟨by decide, "java/lang/IllegalArgumentException", hts _ (tm2 (i := 4) rfl rfl), hth.2.2.2.2.2 _ (by decide) _ (by decide) (by decide)⟩) (by decide) (by decide) (hts _ (tm1 (i := 137) rfl rfl)) (va_Nw.use rfl (hth.2.2.2.2.1 _ (by decide))) hce hv hcl ?_
      refine lv_astore_n (lv' := [(3, .ref q9), (0, .ref (ad 0)), (1, .int x1), (2, .int x2)]) hx hb dL_rank_12 rfl hl (by decide) rfl (fun ls hl => ?_)
      refine lv_iconst (v := (2 : Int32)) hx hb dL_rank_13 (by decide) ?_
      exact endI X K hr rfl hw (by decide) (by decide) dL_rank_14
    · refine vx_catch (own := "SendBestLaw") (name := "java/lang/IllegalStateException") (E := "java/lang/IllegalStateException") hown [⟨0, 6, 9, 24⟩, ⟨0, 6, 12, 13⟩] ⟨0, 6, 15, 26⟩ [] (by rw [hTab]; rfl) (fun z hz => by
        simp only [List.mem_cons, List.not_mem_nil, or_false] at hz
        rcases hz with rfl | rfl
        · exact Or.inr ⟨by decide, "java/lang/IllegalArgumentException", hts _ (tm2 (i := 4) rfl rfl), hth.2.2.2.2.2 _ (by decide) _ (by decide) (by decide)⟩
        · exact Or.inr ⟨by decide, "java/lang/IndexOutOfBoundsException", hts _ (tm1 (i := 137) rfl rfl), hth.2.2.2.2.2 _ (by decide) _ (by decide) (by decide)⟩) (by decide) (by decide) (hts _ (tm2 (i := 5) rfl rfl)) (va_Nw.use rfl (hth.2.2.2.2.1 _ (by decide))) hce hv hcl ?_
      refine lv_astore_n (lv' := [(3, .ref q9), (0, .ref (ad 0)), (1, .int x1), (2, .int x2)]) hx hb dL_rank_15 rfl hl (by decide) rfl (fun ls hl => ?_)
      refine lv_iconst (v := (3 : Int32)) hx hb dL_rank_16 (by decide) ?_
      exact endI X K hr rfl hw (by decide) (by decide) dL_rank_17
  · skip
    refine lv_goto (tgt := 18) hx hb dL_rank_6 (by decide) ?_
    refine lv_iconst (v := (0 : Int32)) hx hb dL_rank_18 (by decide) ?_
    exact endI X K hr rfl hw (by decide) (by decide) dL_rank_19
set_option maxHeartbeats 4000000 in
set_option maxRecDepth 100000 in
theorem met_L_need {l : Launch} (hl9 : l.stackTraces = false) (D : va_G) (ad : Nat → Nat) (ca : Nat → ClassId) (sa : Nat → Nat) (sz : Nat) (x1 : Int32) (x2 : Int32) (x3 : Int32) (f : wF) (a : wA) (b : wB) (po : Int32 → wF → wA → wB → Prop) (hw : wp_L_need po x1 x2 x3 f a b) : mI nW kW (tyS ca) txS D vwCl l yL_need (Cond.codeWith yL_need cL_need 6 (some .int) [(0, 12, 15, 24), (0, 12, 19, 13), (0, 12, 23, 26), (0, 12, 27, 15)] :: Wl) ({ frames := 8, cells := 4, slots := 24, locals := 127 }) [.ref (ad 0), .int x1, .int x2, .int x3, .ref (ad 57)] ad ca sa sz f a b po (fun _ _ _ _ => False) 4 24 := by
  refine ofIH (by decide) hl9 (Nat.le_of_ble_eq_true rfl) ?_
  intro p e s m below meth c ls X hTab hr K hl
  obtain ⟨hx, hb, hml, hown, hts, hK, hA, hth, hlk, hl9⟩ := id X
  have hl : lv_has ls 6 [(0, .ref (ad 0)), (1, .int x1), (2, .int x2), (3, .int x3), (4, .ref (ad 57))] := hl
  dsimp only [wp_L_need] at hw
  refine lv_aload hx hb dL_need_0 (lv_at hl 4 rfl) ?_
  refine lv_iconst (v := (0 : Int32)) hx hb dL_need_2 (by decide) ?_
  refine lv_aload_n hx hb dL_need_3 rfl (lv_at hl 0 rfl) ?_
  refine lv_iload_n hx hb dL_need_4 rfl (lv_at hl 1 rfl) ?_
  refine lv_iload_n hx hb dL_need_5 rfl (lv_at hl 2 rfl) ?_
  refine lv_iload_n hx hb dL_need_6 rfl (lv_at hl 3 rfl) ?_
  refine geI X K embS (fun f1 => f1) (fun a1 => a1) (mgB b) embS2 embSr (n0 := 3) (As := [.int x1, .int x2, .int x3]) (rest := [.int (0 : Int32), .ref (ad 57)]) (hM := (met_S_need hl9 D ad ca sa _ x1 x2 x3 f a b _ _ hw)) (r0 := 0) (ho := by decide) (hko := kS_o0) (hci := rfl) (w1 := (tm2 (i := 53) rfl rfl)) (w2 := (tm2 (i := 54) rfl rfl)) (w3 := (tm2 (i := 55) rfl rfl)) (w4 := (tm1 (i := 1) rfl rfl)) (w5 := (tm2 (i := 56) rfl rfl)) (hd := ⟨rfl, by decide, by decide, by decide +kernel⟩) (hrc := rfl) (hrs := rfl) (hR := ⟨Nat.le_of_ble_eq_true rfl, Nat.le_of_ble_eq_true rfl⟩) (hn := rfl) (hsz := hl.1) (hst := rfl) (hW := Nat.le_of_ble_eq_true rfl) (hdg := dL_need_7) (hf := ⟨Nat.le_of_ble_eq_true rfl, Nat.le_of_ble_eq_true rfl⟩) (fun E ce q9 f1 a1 b1 H locs hw K hce hv hcl => ?_) (fun r f1 a1 b1 H locs hw K => ?_)
  · rcases hw with ⟨rfl, hw⟩ | ⟨rfl, hw⟩ | ⟨rfl, hw⟩ | ⟨rfl, hw⟩
    · refine vx_catch (own := "SendBestLaw") (name := "java/lang/IllegalArgumentException") (E := "java/lang/IllegalArgumentException") hown [] ⟨0, 12, 15, 24⟩ [⟨0, 12, 19, 13⟩, ⟨0, 12, 23, 26⟩, ⟨0, 12, 27, 15⟩] (by rw [hTab]; rfl) (fun z hz => nomatch hz) (by decide) (by decide) (hts _ (tm2 (i := 4) rfl rfl)) (va_Nw.use rfl (hth.2.2.2.2.1 _ (by decide))) hce hv hcl ?_
      refine lv_astore (lv' := [(5, .ref q9), (0, .ref (ad 0)), (1, .int x1), (2, .int x2), (3, .int x3), (4, .ref (ad 57))]) hx hb dL_need_15 hl (by decide) rfl (fun ls hl => ?_)
      refine lv_iconst (v := (1 : Int32)) hx hb dL_need_17 (by decide) ?_
      exact endI X K hr rfl hw (by decide) (by decide) dL_need_18
    · refine vx_catch (own := "SendBestLaw") (name := "java/lang/IndexOutOfBoundsException") (E := "java/lang/IndexOutOfBoundsException") hown [⟨0, 12, 15, 24⟩] ⟨0, 12, 19, 13⟩ [⟨0, 12, 23, 26⟩, ⟨0, 12, 27, 15⟩] (by rw [hTab]; rfl) (fun z hz => by
        simp only [List.mem_cons, List.not_mem_nil, or_false] at hz
        rcases hz with rfl
        · exact Or.inr ⟨by decide, "java/lang/IllegalArgumentException", hts _ (tm2 (i := 4) rfl rfl), hth.2.2.2.2.2 _ (by decide) _ (by decide) (by decide)⟩) (by decide) (by decide) (hts _ (tm1 (i := 137) rfl rfl)) (va_Nw.use rfl (hth.2.2.2.2.1 _ (by decide))) hce hv hcl ?_
      refine lv_astore (lv' := [(5, .ref q9), (0, .ref (ad 0)), (1, .int x1), (2, .int x2), (3, .int x3), (4, .ref (ad 57))]) hx hb dL_need_19 hl (by decide) rfl (fun ls hl => ?_)
      refine lv_iconst (v := (2 : Int32)) hx hb dL_need_21 (by decide) ?_
      exact endI X K hr rfl hw (by decide) (by decide) dL_need_22
    · refine vx_catch (own := "SendBestLaw") (name := "java/lang/IllegalStateException") (E := "java/lang/IllegalStateException") hown [⟨0, 12, 15, 24⟩, ⟨0, 12, 19, 13⟩] ⟨0, 12, 23, 26⟩ [⟨0, 12, 27, 15⟩] (by rw [hTab]; rfl) (fun z hz => by
        simp only [List.mem_cons, List.not_mem_nil, or_false] at hz
        rcases hz with rfl | rfl
        · exact Or.inr ⟨by decide, "java/lang/IllegalArgumentException", hts _ (tm2 (i := 4) rfl rfl), hth.2.2.2.2.2 _ (by decide) _ (by decide) (by decide)⟩
        · exact Or.inr ⟨by decide, "java/lang/IndexOutOfBoundsException", hts _ (tm1 (i := 137) rfl rfl), hth.2.2.2.2.2 _ (by decide) _ (by decide) (by decide)⟩) (by decide) (by decide) (hts _ (tm2 (i := 5) rfl rfl)) (va_Nw.use rfl (hth.2.2.2.2.1 _ (by decide))) hce hv hcl ?_
      refine lv_astore (lv' := [(5, .ref q9), (0, .ref (ad 0)), (1, .int x1), (2, .int x2), (3, .int x3), (4, .ref (ad 57))]) hx hb dL_need_23 hl (by decide) rfl (fun ls hl => ?_)
      refine lv_iconst (v := (3 : Int32)) hx hb dL_need_25 (by decide) ?_
      exact endI X K hr rfl hw (by decide) (by decide) dL_need_26
    · refine vx_catch (own := "SendBestLaw") (name := "java/lang/UnsupportedOperationException") (E := "java/lang/UnsupportedOperationException") hown [⟨0, 12, 15, 24⟩, ⟨0, 12, 19, 13⟩, ⟨0, 12, 23, 26⟩] ⟨0, 12, 27, 15⟩ [] (by rw [hTab]; rfl) (fun z hz => by
        simp only [List.mem_cons, List.not_mem_nil, or_false] at hz
        rcases hz with rfl | rfl | rfl
        · exact Or.inr ⟨by decide, "java/lang/IllegalArgumentException", hts _ (tm2 (i := 4) rfl rfl), hth.2.2.2.2.2 _ (by decide) _ (by decide) (by decide)⟩
        · exact Or.inr ⟨by decide, "java/lang/IndexOutOfBoundsException", hts _ (tm1 (i := 137) rfl rfl), hth.2.2.2.2.2 _ (by decide) _ (by decide) (by decide)⟩
        · exact Or.inr ⟨by decide, "java/lang/IllegalStateException", hts _ (tm2 (i := 5) rfl rfl), hth.2.2.2.2.2 _ (by decide) _ (by decide) (by decide)⟩) (by decide) (by decide) (hts _ (tm1 (i := 138) rfl rfl)) (va_Nw.use rfl (hth.2.2.2.2.1 _ (by decide))) hce hv hcl ?_
      refine lv_astore (lv' := [(5, .ref q9), (0, .ref (ad 0)), (1, .int x1), (2, .int x2), (3, .int x3), (4, .ref (ad 57))]) hx hb dL_need_27 hl (by decide) rfl (fun ls hl => ?_)
      refine lv_iconst (v := (4 : Int32)) hx hb dL_need_29 (by decide) ?_
      exact endI X K hr rfl hw (by decide) (by decide) dL_need_30
  · skip
    refine lv_i2l (v := r.toInt64) hx hb dL_need_10 rfl ?_
    refine glst X K (o := 57) (t0 := 2) (by decide) kW_c57 rfl (by unfold vp_in; decide) dL_need_11 kW_p57 (fun H locs K => ?_)
    refine lv_goto (tgt := 31) hx hb dL_need_12 (by decide) ?_
    refine lv_iconst (v := (0 : Int32)) hx hb dL_need_31 (by decide) ?_
    exact endI X K hr rfl hw (by decide) (by decide) dL_need_32
set_option maxHeartbeats 4000000 in
set_option maxRecDepth 100000 in
theorem met_L_seconds {l : Launch} (hl9 : l.stackTraces = false) (D : va_G) (ad : Nat → Nat) (ca : Nat → ClassId) (sa : Nat → Nat) (sz : Nat) (x1 : Int32) (x2 : Int32) (x3 : Int32) (f : wF) (a : wA) (b : wB) (po : Int32 → wF → wA → wB → Prop) (hw : wp_L_seconds po x1 x2 x3 f a b) : mI nW kW (tyS ca) txS D vwCl l yL_seconds (Cond.codeWith yL_seconds cL_seconds 5 (some .int) [(0, 7, 10, 24), (0, 7, 14, 13)] :: Wl) ({ frames := 8, cells := 3, slots := 18, locals := 126 }) [.ref (ad 0), .int x1, .int x2, .int x3] ad ca sa sz f a b po (fun _ _ _ _ => False) 3 18 := by
  refine ofIH (by decide) hl9 (Nat.le_of_ble_eq_true rfl) ?_
  intro p e s m below meth c ls X hTab hr K hl
  obtain ⟨hx, hb, hml, hown, hts, hK, hA, hth, hlk, hl9⟩ := id X
  have hl : lv_has ls 5 [(0, .ref (ad 0)), (1, .int x1), (2, .int x2), (3, .int x3)] := hl
  dsimp only [wp_L_seconds] at hw
  refine lv_aload_n hx hb dL_seconds_0 rfl (lv_at hl 0 rfl) ?_
  refine lv_iload_n hx hb dL_seconds_1 rfl (lv_at hl 1 rfl) ?_
  refine lv_iload_n hx hb dL_seconds_2 rfl (lv_at hl 2 rfl) ?_
  refine lv_iload_n hx hb dL_seconds_3 rfl (lv_at hl 3 rfl) ?_
  refine geV X K embS (fun f1 => f1) (fun a1 => a1) (mgB b) embS2 embSr (n0 := 3) (As := [.int x1, .int x2, .int x3]) (rest := []) (hM := (met_S_seconds hl9 D ad ca sa _ x1 x2 x3 f a b _ _ hw)) (r0 := 0) (ho := by decide) (hko := kS_o0) (hci := rfl) (w1 := (tm2 (i := 66) rfl rfl)) (w2 := (tm2 (i := 67) rfl rfl)) (w3 := (tm2 (i := 68) rfl rfl)) (w4 := (tm1 (i := 1) rfl rfl)) (w5 := (tm2 (i := 69) rfl rfl)) (hd := ⟨rfl, by decide, by decide, by decide +kernel⟩) (hrc := rfl) (hrs := rfl) (hR := ⟨Nat.le_of_ble_eq_true rfl, Nat.le_of_ble_eq_true rfl⟩) (hn := rfl) (hsz := hl.1) (hst := rfl) (hW := Nat.le_of_ble_eq_true rfl) (hdg := dL_seconds_4) (hf := ⟨Nat.le_of_ble_eq_true rfl, Nat.le_of_ble_eq_true rfl⟩) (fun E ce q9 f1 a1 b1 H locs hw K hce hv hcl => ?_) (fun f1 a1 b1 H locs hw K => ?_)
  · rcases hw with ⟨rfl, hw⟩ | ⟨rfl, hw⟩
    · refine vx_catch (own := "SendBestLaw") (name := "java/lang/IllegalArgumentException") (E := "java/lang/IllegalArgumentException") hown [] ⟨0, 7, 10, 24⟩ [⟨0, 7, 14, 13⟩] (by rw [hTab]; rfl) (fun z hz => nomatch hz) (by decide) (by decide) (hts _ (tm2 (i := 4) rfl rfl)) (va_Nw.use rfl (hth.2.2.2.2.1 _ (by decide))) hce hv hcl ?_
      refine lv_astore (lv' := [(4, .ref q9), (0, .ref (ad 0)), (1, .int x1), (2, .int x2), (3, .int x3)]) hx hb dL_seconds_10 hl (by decide) rfl (fun ls hl => ?_)
      refine lv_iconst (v := (1 : Int32)) hx hb dL_seconds_12 (by decide) ?_
      exact endI X K hr rfl hw (by decide) (by decide) dL_seconds_13
    · refine vx_catch (own := "SendBestLaw") (name := "java/lang/IndexOutOfBoundsException") (E := "java/lang/IndexOutOfBoundsException") hown [⟨0, 7, 10, 24⟩] ⟨0, 7, 14, 13⟩ [] (by rw [hTab]; rfl) (fun z hz => by
        simp only [List.mem_cons, List.not_mem_nil, or_false] at hz
        rcases hz with rfl
        · exact Or.inr ⟨by decide, "java/lang/IllegalArgumentException", hts _ (tm2 (i := 4) rfl rfl), hth.2.2.2.2.2 _ (by decide) _ (by decide) (by decide)⟩) (by decide) (by decide) (hts _ (tm1 (i := 137) rfl rfl)) (va_Nw.use rfl (hth.2.2.2.2.1 _ (by decide))) hce hv hcl ?_
      refine lv_astore (lv' := [(4, .ref q9), (0, .ref (ad 0)), (1, .int x1), (2, .int x2), (3, .int x3)]) hx hb dL_seconds_14 hl (by decide) rfl (fun ls hl => ?_)
      refine lv_iconst (v := (2 : Int32)) hx hb dL_seconds_16 (by decide) ?_
      exact endI X K hr rfl hw (by decide) (by decide) dL_seconds_17
  · skip
    refine lv_goto (tgt := 18) hx hb dL_seconds_7 (by decide) ?_
    refine lv_iconst (v := (0 : Int32)) hx hb dL_seconds_18 (by decide) ?_
    exact endI X K hr rfl hw (by decide) (by decide) dL_seconds_19
set_option maxHeartbeats 4000000 in
set_option maxRecDepth 100000 in
theorem met_L_limit {l : Launch} (hl9 : l.stackTraces = false) (D : va_G) (ad : Nat → Nat) (ca : Nat → ClassId) (sa : Nat → Nat) (sz : Nat) (x1 : Int32) (x2 : Int32) (f : wF) (a : wA) (b : wB) (po : Int32 → wF → wA → wB → Prop) (hw : wp_L_limit po x1 x2 f a b) : mI nW kW (tyS ca) txS D vwCl l yL_limit (Cond.codeWith yL_limit cL_limit 4 (some .int) [(0, 6, 9, 24), (0, 6, 12, 13)] :: Wl) ({ frames := 8, cells := 2, slots := 12, locals := 124 }) [.ref (ad 0), .int x1, .int x2] ad ca sa sz f a b po (fun _ _ _ _ => False) 2 12 := by
  refine ofIH (by decide) hl9 (Nat.le_of_ble_eq_true rfl) ?_
  intro p e s m below meth c ls X hTab hr K hl
  obtain ⟨hx, hb, hml, hown, hts, hK, hA, hth, hlk, hl9⟩ := id X
  have hl : lv_has ls 4 [(0, .ref (ad 0)), (1, .int x1), (2, .int x2)] := hl
  dsimp only [wp_L_limit] at hw
  refine lv_aload_n hx hb dL_limit_0 rfl (lv_at hl 0 rfl) ?_
  refine lv_iload_n hx hb dL_limit_1 rfl (lv_at hl 1 rfl) ?_
  refine lv_iload_n hx hb dL_limit_2 rfl (lv_at hl 2 rfl) ?_
  refine geV X K embS (fun f1 => f1) (fun a1 => a1) (mgB b) embS2 embSr (n0 := 2) (As := [.int x1, .int x2]) (rest := []) (hM := (met_S_limit hl9 D ad ca sa _ x1 x2 f a b _ _ hw)) (r0 := 0) (ho := by decide) (hko := kS_o0) (hci := rfl) (w1 := (tm2 (i := 83) rfl rfl)) (w2 := (tm2 (i := 84) rfl rfl)) (w3 := (tm2 (i := 85) rfl rfl)) (w4 := (tm1 (i := 1) rfl rfl)) (w5 := (tm2 (i := 86) rfl rfl)) (hd := ⟨rfl, by decide, by decide, by decide +kernel⟩) (hrc := rfl) (hrs := rfl) (hR := ⟨Nat.le_of_ble_eq_true rfl, Nat.le_of_ble_eq_true rfl⟩) (hn := rfl) (hsz := hl.1) (hst := rfl) (hW := Nat.le_of_ble_eq_true rfl) (hdg := dL_limit_3) (hf := ⟨Nat.le_of_ble_eq_true rfl, Nat.le_of_ble_eq_true rfl⟩) (fun E ce q9 f1 a1 b1 H locs hw K hce hv hcl => ?_) (fun f1 a1 b1 H locs hw K => ?_)
  · rcases hw with ⟨rfl, hw⟩ | ⟨rfl, hw⟩
    · refine vx_catch (own := "SendBestLaw") (name := "java/lang/IllegalArgumentException") (E := "java/lang/IllegalArgumentException") hown [] ⟨0, 6, 9, 24⟩ [⟨0, 6, 12, 13⟩] (by rw [hTab]; rfl) (fun z hz => nomatch hz) (by decide) (by decide) (hts _ (tm2 (i := 4) rfl rfl)) (va_Nw.use rfl (hth.2.2.2.2.1 _ (by decide))) hce hv hcl ?_
      refine lv_astore_n (lv' := [(3, .ref q9), (0, .ref (ad 0)), (1, .int x1), (2, .int x2)]) hx hb dL_limit_9 rfl hl (by decide) rfl (fun ls hl => ?_)
      refine lv_iconst (v := (1 : Int32)) hx hb dL_limit_10 (by decide) ?_
      exact endI X K hr rfl hw (by decide) (by decide) dL_limit_11
    · refine vx_catch (own := "SendBestLaw") (name := "java/lang/IndexOutOfBoundsException") (E := "java/lang/IndexOutOfBoundsException") hown [⟨0, 6, 9, 24⟩] ⟨0, 6, 12, 13⟩ [] (by rw [hTab]; rfl) (fun z hz => by
        simp only [List.mem_cons, List.not_mem_nil, or_false] at hz
        rcases hz with rfl
        · exact Or.inr ⟨by decide, "java/lang/IllegalArgumentException", hts _ (tm2 (i := 4) rfl rfl), hth.2.2.2.2.2 _ (by decide) _ (by decide) (by decide)⟩) (by decide) (by decide) (hts _ (tm1 (i := 137) rfl rfl)) (va_Nw.use rfl (hth.2.2.2.2.1 _ (by decide))) hce hv hcl ?_
      refine lv_astore_n (lv' := [(3, .ref q9), (0, .ref (ad 0)), (1, .int x1), (2, .int x2)]) hx hb dL_limit_12 rfl hl (by decide) rfl (fun ls hl => ?_)
      refine lv_iconst (v := (2 : Int32)) hx hb dL_limit_13 (by decide) ?_
      exact endI X K hr rfl hw (by decide) (by decide) dL_limit_14
  · skip
    refine lv_goto (tgt := 15) hx hb dL_limit_6 (by decide) ?_
    refine lv_iconst (v := (0 : Int32)) hx hb dL_limit_15 (by decide) ?_
    exact endI X K hr rfl hw (by decide) (by decide) dL_limit_16
set_option maxHeartbeats 4000000 in
set_option maxRecDepth 100000 in
theorem met_L_reserve {l : Launch} (hl9 : l.stackTraces = false) (D : va_G) (ad : Nat → Nat) (ca : Nat → ClassId) (sa : Nat → Nat) (sz : Nat) (x1 : Int32) (x2 : Int32) (f : wF) (a : wA) (b : wB) (po : Int32 → wF → wA → wB → Prop) (hw : wp_L_reserve po x1 x2 f a b) : mI nW kW (tyS ca) txS D vwCl l yL_reserve (Cond.codeWith yL_reserve cL_reserve 4 (some .int) [(0, 6, 9, 13)] :: Wl) ({ frames := 7, cells := 1, slots := 6, locals := 104 }) [.ref (ad 0), .int x1, .int x2] ad ca sa sz f a b po (fun _ _ _ _ => False) 1 6 := by
  refine ofIH (by decide) hl9 (Nat.le_of_ble_eq_true rfl) ?_
  intro p e s m below meth c ls X hTab hr K hl
  obtain ⟨hx, hb, hml, hown, hts, hK, hA, hth, hlk, hl9⟩ := id X
  have hl : lv_has ls 4 [(0, .ref (ad 0)), (1, .int x1), (2, .int x2)] := hl
  dsimp only [wp_L_reserve] at hw
  refine lv_aload_n hx hb dL_reserve_0 rfl (lv_at hl 0 rfl) ?_
  refine lv_iload_n hx hb dL_reserve_1 rfl (lv_at hl 1 rfl) ?_
  refine lv_iload_n hx hb dL_reserve_2 rfl (lv_at hl 2 rfl) ?_
  refine geV X K embS (fun f1 => f1) (fun a1 => a1) (mgB b) embS2 embSr (n0 := 2) (As := [.int x1, .int x2]) (rest := []) (hM := (met_S_reserve hl9 D ad ca sa _ x1 x2 f a b _ _ hw)) (r0 := 0) (ho := by decide) (hko := kS_o0) (hci := rfl) (w1 := (tm2 (i := 90) rfl rfl)) (w2 := (tm2 (i := 91) rfl rfl)) (w3 := (tm2 (i := 92) rfl rfl)) (w4 := (tm1 (i := 1) rfl rfl)) (w5 := (tm2 (i := 93) rfl rfl)) (hd := ⟨rfl, by decide, by decide, by decide +kernel⟩) (hrc := rfl) (hrs := rfl) (hR := ⟨Nat.le_of_ble_eq_true rfl, Nat.le_of_ble_eq_true rfl⟩) (hn := rfl) (hsz := hl.1) (hst := rfl) (hW := Nat.le_of_ble_eq_true rfl) (hdg := dL_reserve_3) (hf := ⟨Nat.le_of_ble_eq_true rfl, Nat.le_of_ble_eq_true rfl⟩) (fun E ce q9 f1 a1 b1 H locs hw K hce hv hcl => ?_) (fun f1 a1 b1 H locs hw K => ?_)
  · rcases hw with ⟨rfl, hw⟩
    · refine vx_catch (own := "SendBestLaw") (name := "java/lang/IndexOutOfBoundsException") (E := "java/lang/IndexOutOfBoundsException") hown [] ⟨0, 6, 9, 13⟩ [] (by rw [hTab]; rfl) (fun z hz => nomatch hz) (by decide) (by decide) (hts _ (tm1 (i := 137) rfl rfl)) (va_Nw.use rfl (hth.2.2.2.2.1 _ (by decide))) hce hv hcl ?_
      refine lv_astore_n (lv' := [(3, .ref q9), (0, .ref (ad 0)), (1, .int x1), (2, .int x2)]) hx hb dL_reserve_9 rfl hl (by decide) rfl (fun ls hl => ?_)
      refine lv_iconst (v := (1 : Int32)) hx hb dL_reserve_10 (by decide) ?_
      exact endI X K hr rfl hw (by decide) (by decide) dL_reserve_11
  · skip
    refine lv_goto (tgt := 12) hx hb dL_reserve_6 (by decide) ?_
    refine lv_iconst (v := (0 : Int32)) hx hb dL_reserve_12 (by decide) ?_
    exact endI X K hr rfl hw (by decide) (by decide) dL_reserve_13
set_option maxHeartbeats 4000000 in
set_option maxRecDepth 100000 in
theorem met_L_broken {l : Launch} (hl9 : l.stackTraces = false) (D : va_G) (ad : Nat → Nat) (ca : Nat → ClassId) (sa : Nat → Nat) (sz : Nat) (x1 : Int32) (x2 : Int32) (f : wF) (a : wA) (b : wB) (po : Int32 → wF → wA → wB → Prop) (hw : wp_L_broken po x1 x2 f a b) : mI nW kW (tyS ca) txS D vwCl l yL_broken (Cond.codeWith yL_broken cL_broken 4 (some .int) [(0, 6, 9, 24), (0, 6, 12, 26)] :: Wl) ({ frames := 8, cells := 2, slots := 12, locals := 125 }) [.ref (ad 0), .int x1, .int x2] ad ca sa sz f a b po (fun _ _ _ _ => False) 2 12 := by
  refine ofIH (by decide) hl9 (Nat.le_of_ble_eq_true rfl) ?_
  intro p e s m below meth c ls X hTab hr K hl
  obtain ⟨hx, hb, hml, hown, hts, hK, hA, hth, hlk, hl9⟩ := id X
  have hl : lv_has ls 4 [(0, .ref (ad 0)), (1, .int x1), (2, .int x2)] := hl
  dsimp only [wp_L_broken] at hw
  refine lv_aload_n hx hb dL_broken_0 rfl (lv_at hl 0 rfl) ?_
  refine lv_iload_n hx hb dL_broken_1 rfl (lv_at hl 1 rfl) ?_
  refine lv_iload_n hx hb dL_broken_2 rfl (lv_at hl 2 rfl) ?_
  refine geV X K embS (fun f1 => f1) (fun a1 => a1) (mgB b) embS2 embSr (n0 := 2) (As := [.int x1, .int x2]) (rest := []) (hM := (met_S_broken hl9 D ad ca sa _ x1 x2 f a b _ _ hw)) (r0 := 0) (ho := by decide) (hko := kS_o0) (hci := rfl) (w1 := (tm2 (i := 99) rfl rfl)) (w2 := (tm2 (i := 100) rfl rfl)) (w3 := (tm2 (i := 101) rfl rfl)) (w4 := (tm1 (i := 1) rfl rfl)) (w5 := (tm2 (i := 102) rfl rfl)) (hd := ⟨rfl, by decide, by decide, by decide +kernel⟩) (hrc := rfl) (hrs := rfl) (hR := ⟨Nat.le_of_ble_eq_true rfl, Nat.le_of_ble_eq_true rfl⟩) (hn := rfl) (hsz := hl.1) (hst := rfl) (hW := Nat.le_of_ble_eq_true rfl) (hdg := dL_broken_3) (hf := ⟨Nat.le_of_ble_eq_true rfl, Nat.le_of_ble_eq_true rfl⟩) (fun E ce q9 f1 a1 b1 H locs hw K hce hv hcl => ?_) (fun f1 a1 b1 H locs hw K => ?_)
  · rcases hw with ⟨rfl, hw⟩ | ⟨rfl, hw⟩
    · refine vx_catch (own := "SendBestLaw") (name := "java/lang/IllegalArgumentException") (E := "java/lang/IllegalArgumentException") hown [] ⟨0, 6, 9, 24⟩ [⟨0, 6, 12, 26⟩] (by rw [hTab]; rfl) (fun z hz => nomatch hz) (by decide) (by decide) (hts _ (tm2 (i := 4) rfl rfl)) (va_Nw.use rfl (hth.2.2.2.2.1 _ (by decide))) hce hv hcl ?_
      refine lv_astore_n (lv' := [(3, .ref q9), (0, .ref (ad 0)), (1, .int x1), (2, .int x2)]) hx hb dL_broken_9 rfl hl (by decide) rfl (fun ls hl => ?_)
      refine lv_iconst (v := (1 : Int32)) hx hb dL_broken_10 (by decide) ?_
      exact endI X K hr rfl hw (by decide) (by decide) dL_broken_11
    · refine vx_catch (own := "SendBestLaw") (name := "java/lang/IllegalStateException") (E := "java/lang/IllegalStateException") hown [⟨0, 6, 9, 24⟩] ⟨0, 6, 12, 26⟩ [] (by rw [hTab]; rfl) (fun z hz => by
        simp only [List.mem_cons, List.not_mem_nil, or_false] at hz
        rcases hz with rfl
        · exact Or.inr ⟨by decide, "java/lang/IllegalArgumentException", hts _ (tm2 (i := 4) rfl rfl), hth.2.2.2.2.2 _ (by decide) _ (by decide) (by decide)⟩) (by decide) (by decide) (hts _ (tm2 (i := 5) rfl rfl)) (va_Nw.use rfl (hth.2.2.2.2.1 _ (by decide))) hce hv hcl ?_
      refine lv_astore_n (lv' := [(3, .ref q9), (0, .ref (ad 0)), (1, .int x1), (2, .int x2)]) hx hb dL_broken_12 rfl hl (by decide) rfl (fun ls hl => ?_)
      refine lv_iconst (v := (2 : Int32)) hx hb dL_broken_13 (by decide) ?_
      exact endI X K hr rfl hw (by decide) (by decide) dL_broken_14
  · skip
    refine lv_goto (tgt := 15) hx hb dL_broken_6 (by decide) ?_
    refine lv_iconst (v := (0 : Int32)) hx hb dL_broken_15 (by decide) ?_
    exact endI X K hr rfl hw (by decide) (by decide) dL_broken_16
set_option maxHeartbeats 4000000 in
set_option maxRecDepth 100000 in
theorem met_L_send {l : Launch} (hl9 : l.stackTraces = false) (D : va_G) (ad : Nat → Nat) (ca : Nat → ClassId) (sa : Nat → Nat) (sz : Nat) (x1 : Int32) (f : wF) (a : wA) (b : wB) (po : Int32 → wF → wA → wB → Prop) (hw : wp_L_send po x1 f a b) : mI nW kW (tyS ca) txS D vwCl l yL_send (Cond.codeWith yL_send cL_send 4 (some .int) [(0, 9, 12, 13)] :: Wl) ({ frames := 7, cells := 1, slots := 6, locals := 167 }) [.ref (ad 0), .int x1, .ref (ad 57)] ad ca sa sz f a b po (fun _ _ _ _ => False) 1 6 := by
  refine ofIH (by decide) hl9 (Nat.le_of_ble_eq_true rfl) ?_
  intro p e s m below meth c ls X hTab hr K hl
  obtain ⟨hx, hb, hml, hown, hts, hK, hA, hth, hlk, hl9⟩ := id X
  have hl : lv_has ls 4 [(0, .ref (ad 0)), (1, .int x1), (2, .ref (ad 57))] := hl
  dsimp only [wp_L_send] at hw
  refine lv_aload_n hx hb dL_send_0 rfl (lv_at hl 2 rfl) ?_
  refine lv_iconst (v := (0 : Int32)) hx hb dL_send_1 (by decide) ?_
  refine lv_aload_n hx hb dL_send_2 rfl (lv_at hl 0 rfl) ?_
  refine lv_iload_n hx hb dL_send_3 rfl (lv_at hl 1 rfl) ?_
  refine geI X K embS (fun f1 => f1) (fun a1 => a1) (mgB b) embS2 embSr (n0 := 1) (As := [.int x1]) (rest := [.int (0 : Int32), .ref (ad 57)]) (hM := (met_S_send hl9 D ad ca sa _ x1 f a b _ _ hw)) (r0 := 0) (ho := by decide) (hko := kS_o0) (hci := rfl) (w1 := (tm2 (i := 111) rfl rfl)) (w2 := (tm2 (i := 112) rfl rfl)) (w3 := (tm2 (i := 113) rfl rfl)) (w4 := (tm1 (i := 1) rfl rfl)) (w5 := (tm2 (i := 114) rfl rfl)) (hd := ⟨rfl, by decide, by decide, by decide +kernel⟩) (hrc := rfl) (hrs := rfl) (hR := ⟨Nat.le_of_ble_eq_true rfl, Nat.le_of_ble_eq_true rfl⟩) (hn := rfl) (hsz := hl.1) (hst := rfl) (hW := Nat.le_of_ble_eq_true rfl) (hdg := dL_send_4) (hf := ⟨Nat.le_of_ble_eq_true rfl, Nat.le_of_ble_eq_true rfl⟩) (fun E ce q9 f1 a1 b1 H locs hw K hce hv hcl => ?_) (fun r f1 a1 b1 H locs hw K => ?_)
  · rcases hw with ⟨rfl, hw⟩
    · refine vx_catch (own := "SendBestLaw") (name := "java/lang/IndexOutOfBoundsException") (E := "java/lang/IndexOutOfBoundsException") hown [] ⟨0, 9, 12, 13⟩ [] (by rw [hTab]; rfl) (fun z hz => nomatch hz) (by decide) (by decide) (hts _ (tm1 (i := 137) rfl rfl)) (va_Nw.use rfl (hth.2.2.2.2.1 _ (by decide))) hce hv hcl ?_
      refine lv_astore_n (lv' := [(3, .ref q9), (0, .ref (ad 0)), (1, .int x1), (2, .ref (ad 57))]) hx hb dL_send_12 rfl hl (by decide) rfl (fun ls hl => ?_)
      refine lv_iconst (v := (1 : Int32)) hx hb dL_send_13 (by decide) ?_
      exact endI X K hr rfl hw (by decide) (by decide) dL_send_14
  · skip
    refine lv_i2l (v := r.toInt64) hx hb dL_send_7 rfl ?_
    refine glst X K (o := 57) (t0 := 2) (by decide) kW_c57 rfl (by unfold vp_in; decide) dL_send_8 kW_p57 (fun H locs K => ?_)
    refine lv_goto (tgt := 15) hx hb dL_send_9 (by decide) ?_
    refine lv_iconst (v := (0 : Int32)) hx hb dL_send_15 (by decide) ?_
    exact endI X K hr rfl hw (by decide) (by decide) dL_send_16
set_option maxHeartbeats 4000000 in
set_option maxRecDepth 100000 in
theorem met_L_stay {l : Launch} (hl9 : l.stackTraces = false) (D : va_G) (ad : Nat → Nat) (ca : Nat → ClassId) (sa : Nat → Nat) (sz : Nat) (x1 : Int32) (x2 : Int32) (f : wF) (a : wA) (b : wB) (po : Int32 → wF → wA → wB → Prop) (hw : wp_L_stay po x1 x2 f a b) : mI nW kW (tyS ca) txS D vwCl l yL_stay (Cond.codeWith yL_stay cL_stay 4 (some .int) [(0, 6, 9, 24), (0, 6, 12, 26)] :: Wl) ({ frames := 8, cells := 3, slots := 18, locals := 125 }) [.ref (ad 0), .int x1, .int x2] ad ca sa sz f a b po (fun _ _ _ _ => False) 3 18 := by
  refine ofIH (by decide) hl9 (Nat.le_of_ble_eq_true rfl) ?_
  intro p e s m below meth c ls X hTab hr K hl
  obtain ⟨hx, hb, hml, hown, hts, hK, hA, hth, hlk, hl9⟩ := id X
  have hl : lv_has ls 4 [(0, .ref (ad 0)), (1, .int x1), (2, .int x2)] := hl
  dsimp only [wp_L_stay] at hw
  refine lv_aload_n hx hb dL_stay_0 rfl (lv_at hl 0 rfl) ?_
  refine lv_iload_n hx hb dL_stay_1 rfl (lv_at hl 1 rfl) ?_
  refine lv_iload_n hx hb dL_stay_2 rfl (lv_at hl 2 rfl) ?_
  refine geV X K embS (fun f1 => f1) (fun a1 => a1) (mgB b) embS2 embSr (n0 := 2) (As := [.int x1, .int x2]) (rest := []) (hM := (met_S_stay hl9 D ad ca sa _ x1 x2 f a b _ _ hw)) (r0 := 0) (ho := by decide) (hko := kS_o0) (hci := rfl) (w1 := (tm3 (i := 18) rfl rfl)) (w2 := (tm3 (i := 19) rfl rfl)) (w3 := (tm3 (i := 20) rfl rfl)) (w4 := (tm1 (i := 1) rfl rfl)) (w5 := (tm3 (i := 21) rfl rfl)) (hd := ⟨rfl, by decide, by decide, by decide +kernel⟩) (hrc := rfl) (hrs := rfl) (hR := ⟨Nat.le_of_ble_eq_true rfl, Nat.le_of_ble_eq_true rfl⟩) (hn := rfl) (hsz := hl.1) (hst := rfl) (hW := Nat.le_of_ble_eq_true rfl) (hdg := dL_stay_3) (hf := ⟨Nat.le_of_ble_eq_true rfl, Nat.le_of_ble_eq_true rfl⟩) (fun E ce q9 f1 a1 b1 H locs hw K hce hv hcl => ?_) (fun f1 a1 b1 H locs hw K => ?_)
  · rcases hw with ⟨rfl, hw⟩ | ⟨rfl, hw⟩
    · refine vx_catch (own := "SendBestLaw") (name := "java/lang/IllegalArgumentException") (E := "java/lang/IllegalArgumentException") hown [] ⟨0, 6, 9, 24⟩ [⟨0, 6, 12, 26⟩] (by rw [hTab]; rfl) (fun z hz => nomatch hz) (by decide) (by decide) (hts _ (tm2 (i := 4) rfl rfl)) (va_Nw.use rfl (hth.2.2.2.2.1 _ (by decide))) hce hv hcl ?_
      refine lv_astore_n (lv' := [(3, .ref q9), (0, .ref (ad 0)), (1, .int x1), (2, .int x2)]) hx hb dL_stay_9 rfl hl (by decide) rfl (fun ls hl => ?_)
      refine lv_iconst (v := (1 : Int32)) hx hb dL_stay_10 (by decide) ?_
      exact endI X K hr rfl hw (by decide) (by decide) dL_stay_11
    · refine vx_catch (own := "SendBestLaw") (name := "java/lang/IllegalStateException") (E := "java/lang/IllegalStateException") hown [⟨0, 6, 9, 24⟩] ⟨0, 6, 12, 26⟩ [] (by rw [hTab]; rfl) (fun z hz => by
        simp only [List.mem_cons, List.not_mem_nil, or_false] at hz
        rcases hz with rfl
        · exact Or.inr ⟨by decide, "java/lang/IllegalArgumentException", hts _ (tm2 (i := 4) rfl rfl), hth.2.2.2.2.2 _ (by decide) _ (by decide) (by decide)⟩) (by decide) (by decide) (hts _ (tm2 (i := 5) rfl rfl)) (va_Nw.use rfl (hth.2.2.2.2.1 _ (by decide))) hce hv hcl ?_
      refine lv_astore_n (lv' := [(3, .ref q9), (0, .ref (ad 0)), (1, .int x1), (2, .int x2)]) hx hb dL_stay_12 rfl hl (by decide) rfl (fun ls hl => ?_)
      refine lv_iconst (v := (2 : Int32)) hx hb dL_stay_13 (by decide) ?_
      exact endI X K hr rfl hw (by decide) (by decide) dL_stay_14
  · skip
    refine lv_goto (tgt := 15) hx hb dL_stay_6 (by decide) ?_
    refine lv_iconst (v := (0 : Int32)) hx hb dL_stay_15 (by decide) ?_
    exact endI X K hr rfl hw (by decide) (by decide) dL_stay_16
set_option maxHeartbeats 4000000 in
set_option maxRecDepth 100000 in
theorem met_L_recall {l : Launch} (hl9 : l.stackTraces = false) (D : va_G) (ad : Nat → Nat) (ca : Nat → ClassId) (sa : Nat → Nat) (sz : Nat) (x1 : Int32) (f : wF) (a : wA) (b : wB) (po : Int32 → wF → wA → wB → Prop) (hw : wp_L_recall po x1 f a b) : mI nW kW (tyS ca) txS D vwCl l yL_recall (Cond.codeWith yL_recall cL_recall 3 (some .int) [(0, 5, 8, 24), (0, 5, 11, 26)] :: Wl) ({ frames := 8, cells := 2, slots := 12, locals := 124 }) [.ref (ad 0), .int x1] ad ca sa sz f a b po (fun _ _ _ _ => False) 2 12 := by
  refine ofIH (by decide) hl9 (Nat.le_of_ble_eq_true rfl) ?_
  intro p e s m below meth c ls X hTab hr K hl
  obtain ⟨hx, hb, hml, hown, hts, hK, hA, hth, hlk, hl9⟩ := id X
  have hl : lv_has ls 3 [(0, .ref (ad 0)), (1, .int x1)] := hl
  dsimp only [wp_L_recall] at hw
  refine lv_aload_n hx hb dL_recall_0 rfl (lv_at hl 0 rfl) ?_
  refine lv_iload_n hx hb dL_recall_1 rfl (lv_at hl 1 rfl) ?_
  refine geV X K embS (fun f1 => f1) (fun a1 => a1) (mgB b) embS2 embSr (n0 := 1) (As := [.int x1]) (rest := []) (hM := (met_S_recall hl9 D ad ca sa _ x1 f a b _ _ hw)) (r0 := 0) (ho := by decide) (hko := kS_o0) (hci := rfl) (w1 := (tm3 (i := 30) rfl rfl)) (w2 := (tm3 (i := 31) rfl rfl)) (w3 := (tm3 (i := 32) rfl rfl)) (w4 := (tm1 (i := 1) rfl rfl)) (w5 := (tm3 (i := 33) rfl rfl)) (hd := ⟨rfl, by decide, by decide, by decide +kernel⟩) (hrc := rfl) (hrs := rfl) (hR := ⟨Nat.le_of_ble_eq_true rfl, Nat.le_of_ble_eq_true rfl⟩) (hn := rfl) (hsz := hl.1) (hst := rfl) (hW := Nat.le_of_ble_eq_true rfl) (hdg := dL_recall_2) (hf := ⟨Nat.le_of_ble_eq_true rfl, Nat.le_of_ble_eq_true rfl⟩) (fun E ce q9 f1 a1 b1 H locs hw K hce hv hcl => ?_) (fun f1 a1 b1 H locs hw K => ?_)
  · rcases hw with ⟨rfl, hw⟩ | ⟨rfl, hw⟩
    · refine vx_catch (own := "SendBestLaw") (name := "java/lang/IllegalArgumentException") (E := "java/lang/IllegalArgumentException") hown [] ⟨0, 5, 8, 24⟩ [⟨0, 5, 11, 26⟩] (by rw [hTab]; rfl) (fun z hz => nomatch hz) (by decide) (by decide) (hts _ (tm2 (i := 4) rfl rfl)) (va_Nw.use rfl (hth.2.2.2.2.1 _ (by decide))) hce hv hcl ?_
      refine lv_astore_n (lv' := [(2, .ref q9), (0, .ref (ad 0)), (1, .int x1)]) hx hb dL_recall_8 rfl hl (by decide) rfl (fun ls hl => ?_)
      refine lv_iconst (v := (1 : Int32)) hx hb dL_recall_9 (by decide) ?_
      exact endI X K hr rfl hw (by decide) (by decide) dL_recall_10
    · refine vx_catch (own := "SendBestLaw") (name := "java/lang/IllegalStateException") (E := "java/lang/IllegalStateException") hown [⟨0, 5, 8, 24⟩] ⟨0, 5, 11, 26⟩ [] (by rw [hTab]; rfl) (fun z hz => by
        simp only [List.mem_cons, List.not_mem_nil, or_false] at hz
        rcases hz with rfl
        · exact Or.inr ⟨by decide, "java/lang/IllegalArgumentException", hts _ (tm2 (i := 4) rfl rfl), hth.2.2.2.2.2 _ (by decide) _ (by decide) (by decide)⟩) (by decide) (by decide) (hts _ (tm2 (i := 5) rfl rfl)) (va_Nw.use rfl (hth.2.2.2.2.1 _ (by decide))) hce hv hcl ?_
      refine lv_astore_n (lv' := [(2, .ref q9), (0, .ref (ad 0)), (1, .int x1)]) hx hb dL_recall_11 rfl hl (by decide) rfl (fun ls hl => ?_)
      refine lv_iconst (v := (2 : Int32)) hx hb dL_recall_12 (by decide) ?_
      exact endI X K hr rfl hw (by decide) (by decide) dL_recall_13
  · skip
    refine lv_goto (tgt := 14) hx hb dL_recall_5 (by decide) ?_
    refine lv_iconst (v := (0 : Int32)) hx hb dL_recall_14 (by decide) ?_
    exact endI X K hr rfl hw (by decide) (by decide) dL_recall_15
set_option maxHeartbeats 4000000 in
set_option maxRecDepth 100000 in
theorem met_L_close {l : Launch} (hl9 : l.stackTraces = false) (D : va_G) (ad : Nat → Nat) (ca : Nat → ClassId) (sa : Nat → Nat) (sz : Nat) (x1 : Int32) (f : wF) (a : wA) (b : wB) (po : Int32 → wF → wA → wB → Prop) (hw : wp_L_close po x1 f a b) : mI nW kW (tyS ca) txS D vwCl l yL_close (Cond.codeWith yL_close cL_close 3 (some .int) [(0, 5, 8, 24), (0, 5, 11, 26)] :: Wl) ({ frames := 8, cells := 2, slots := 12, locals := 125 }) [.ref (ad 0), .int x1] ad ca sa sz f a b po (fun _ _ _ _ => False) 2 12 := by
  refine ofIH (by decide) hl9 (Nat.le_of_ble_eq_true rfl) ?_
  intro p e s m below meth c ls X hTab hr K hl
  obtain ⟨hx, hb, hml, hown, hts, hK, hA, hth, hlk, hl9⟩ := id X
  have hl : lv_has ls 3 [(0, .ref (ad 0)), (1, .int x1)] := hl
  dsimp only [wp_L_close] at hw
  refine lv_aload_n hx hb dL_close_0 rfl (lv_at hl 0 rfl) ?_
  refine lv_iload_n hx hb dL_close_1 rfl (lv_at hl 1 rfl) ?_
  refine geV X K embS (fun f1 => f1) (fun a1 => a1) (mgB b) embS2 embSr (n0 := 1) (As := [.int x1]) (rest := []) (hM := (met_S_close hl9 D ad ca sa _ x1 f a b _ _ hw)) (r0 := 0) (ho := by decide) (hko := kS_o0) (hci := rfl) (w1 := (tm3 (i := 37) rfl rfl)) (w2 := (tm3 (i := 38) rfl rfl)) (w3 := (tm3 (i := 39) rfl rfl)) (w4 := (tm1 (i := 1) rfl rfl)) (w5 := (tm3 (i := 40) rfl rfl)) (hd := ⟨rfl, by decide, by decide, by decide +kernel⟩) (hrc := rfl) (hrs := rfl) (hR := ⟨Nat.le_of_ble_eq_true rfl, Nat.le_of_ble_eq_true rfl⟩) (hn := rfl) (hsz := hl.1) (hst := rfl) (hW := Nat.le_of_ble_eq_true rfl) (hdg := dL_close_2) (hf := ⟨Nat.le_of_ble_eq_true rfl, Nat.le_of_ble_eq_true rfl⟩) (fun E ce q9 f1 a1 b1 H locs hw K hce hv hcl => ?_) (fun f1 a1 b1 H locs hw K => ?_)
  · rcases hw with ⟨rfl, hw⟩ | ⟨rfl, hw⟩
    · refine vx_catch (own := "SendBestLaw") (name := "java/lang/IllegalArgumentException") (E := "java/lang/IllegalArgumentException") hown [] ⟨0, 5, 8, 24⟩ [⟨0, 5, 11, 26⟩] (by rw [hTab]; rfl) (fun z hz => nomatch hz) (by decide) (by decide) (hts _ (tm2 (i := 4) rfl rfl)) (va_Nw.use rfl (hth.2.2.2.2.1 _ (by decide))) hce hv hcl ?_
      refine lv_astore_n (lv' := [(2, .ref q9), (0, .ref (ad 0)), (1, .int x1)]) hx hb dL_close_8 rfl hl (by decide) rfl (fun ls hl => ?_)
      refine lv_iconst (v := (1 : Int32)) hx hb dL_close_9 (by decide) ?_
      exact endI X K hr rfl hw (by decide) (by decide) dL_close_10
    · refine vx_catch (own := "SendBestLaw") (name := "java/lang/IllegalStateException") (E := "java/lang/IllegalStateException") hown [⟨0, 5, 8, 24⟩] ⟨0, 5, 11, 26⟩ [] (by rw [hTab]; rfl) (fun z hz => by
        simp only [List.mem_cons, List.not_mem_nil, or_false] at hz
        rcases hz with rfl
        · exact Or.inr ⟨by decide, "java/lang/IllegalArgumentException", hts _ (tm2 (i := 4) rfl rfl), hth.2.2.2.2.2 _ (by decide) _ (by decide) (by decide)⟩) (by decide) (by decide) (hts _ (tm2 (i := 5) rfl rfl)) (va_Nw.use rfl (hth.2.2.2.2.1 _ (by decide))) hce hv hcl ?_
      refine lv_astore_n (lv' := [(2, .ref q9), (0, .ref (ad 0)), (1, .int x1)]) hx hb dL_close_11 rfl hl (by decide) rfl (fun ls hl => ?_)
      refine lv_iconst (v := (2 : Int32)) hx hb dL_close_12 (by decide) ?_
      exact endI X K hr rfl hw (by decide) (by decide) dL_close_13
  · skip
    refine lv_goto (tgt := 14) hx hb dL_close_5 (by decide) ?_
    refine lv_iconst (v := (0 : Int32)) hx hb dL_close_14 (by decide) ?_
    exact endI X K hr rfl hw (by decide) (by decide) dL_close_15
set_option maxHeartbeats 4000000 in
set_option maxRecDepth 100000 in
theorem met_L_needAt {l : Launch} (hl9 : l.stackTraces = false) (D : va_G) (ad : Nat → Nat) (ca : Nat → ClassId) (sa : Nat → Nat) (sz : Nat) (x1 : Int32) (x2 : Int32) (f : wF) (a : wA) (b : wB) (po : Int32 → wF → wA → wB → Prop) (hw : wp_L_needAt po x1 x2 f a b) : mI nW kW (tyS ca) txS D vwCl l yL_needAt (Cond.codeWith yL_needAt cL_needAt 5 (some .int) [(0, 10, 13, 24)] :: Wl) ({ frames := 8, cells := 2, slots := 12, locals := 125 }) [.ref (ad 0), .int x1, .int x2, .ref (ad 57)] ad ca sa sz f a b po (fun _ _ _ _ => False) 2 12 := by
  refine ofIH (by decide) hl9 (Nat.le_of_ble_eq_true rfl) ?_
  intro p e s m below meth c ls X hTab hr K hl
  obtain ⟨hx, hb, hml, hown, hts, hK, hA, hth, hlk, hl9⟩ := id X
  have hl : lv_has ls 5 [(0, .ref (ad 0)), (1, .int x1), (2, .int x2), (3, .ref (ad 57))] := hl
  dsimp only [wp_L_needAt] at hw
  refine lv_aload_n hx hb dL_needAt_0 rfl (lv_at hl 3 rfl) ?_
  refine lv_iconst (v := (0 : Int32)) hx hb dL_needAt_1 (by decide) ?_
  refine lv_aload_n hx hb dL_needAt_2 rfl (lv_at hl 0 rfl) ?_
  refine lv_iload_n hx hb dL_needAt_3 rfl (lv_at hl 1 rfl) ?_
  refine lv_iload_n hx hb dL_needAt_4 rfl (lv_at hl 2 rfl) ?_
  refine geI X K embS (fun f1 => f1) (fun a1 => a1) (mgB b) embS2 embSr (n0 := 2) (As := [.int x1, .int x2]) (rest := [.int (0 : Int32), .ref (ad 57)]) (hM := (met_S_needAt hl9 D ad ca sa _ x1 x2 f a b _ _ hw)) (r0 := 0) (ho := by decide) (hko := kS_o0) (hci := rfl) (w1 := (tm3 (i := 44) rfl rfl)) (w2 := (tm3 (i := 45) rfl rfl)) (w3 := (tm3 (i := 46) rfl rfl)) (w4 := (tm1 (i := 1) rfl rfl)) (w5 := (tm3 (i := 47) rfl rfl)) (hd := ⟨rfl, by decide, by decide, by decide +kernel⟩) (hrc := rfl) (hrs := rfl) (hR := ⟨Nat.le_of_ble_eq_true rfl, Nat.le_of_ble_eq_true rfl⟩) (hn := rfl) (hsz := hl.1) (hst := rfl) (hW := Nat.le_of_ble_eq_true rfl) (hdg := dL_needAt_5) (hf := ⟨Nat.le_of_ble_eq_true rfl, Nat.le_of_ble_eq_true rfl⟩) (fun E ce q9 f1 a1 b1 H locs hw K hce hv hcl => ?_) (fun r f1 a1 b1 H locs hw K => ?_)
  · rcases hw with ⟨rfl, hw⟩
    · refine vx_catch (own := "SendBestLaw") (name := "java/lang/IllegalArgumentException") (E := "java/lang/IllegalArgumentException") hown [] ⟨0, 10, 13, 24⟩ [] (by rw [hTab]; rfl) (fun z hz => nomatch hz) (by decide) (by decide) (hts _ (tm2 (i := 4) rfl rfl)) (va_Nw.use rfl (hth.2.2.2.2.1 _ (by decide))) hce hv hcl ?_
      refine lv_astore (lv' := [(4, .ref q9), (0, .ref (ad 0)), (1, .int x1), (2, .int x2), (3, .ref (ad 57))]) hx hb dL_needAt_13 hl (by decide) rfl (fun ls hl => ?_)
      refine lv_iconst (v := (1 : Int32)) hx hb dL_needAt_15 (by decide) ?_
      exact endI X K hr rfl hw (by decide) (by decide) dL_needAt_16
  · skip
    refine lv_i2l (v := r.toInt64) hx hb dL_needAt_8 rfl ?_
    refine glst X K (o := 57) (t0 := 2) (by decide) kW_c57 rfl (by unfold vp_in; decide) dL_needAt_9 kW_p57 (fun H locs K => ?_)
    refine lv_goto (tgt := 17) hx hb dL_needAt_10 (by decide) ?_
    refine lv_iconst (v := (0 : Int32)) hx hb dL_needAt_17 (by decide) ?_
    exact endI X K hr rfl hw (by decide) (by decide) dL_needAt_18
set_option maxHeartbeats 4000000 in
set_option maxRecDepth 100000 in
theorem met_L_fills {l : Launch} (hl9 : l.stackTraces = false) (D : va_G) (ad : Nat → Nat) (ca : Nat → ClassId) (sa : Nat → Nat) (sz : Nat) (x1 : Int32) (f : wF) (a : wA) (b : wB) (po : Int32 → wF → wA → wB → Prop) (hw : wp_L_fills po x1 f a b) : mI nW kW (tyS ca) txS D vwCl l yL_fills (Cond.codeWith yL_fills cL_fills 4 (some .int) [(0, 9, 12, 24)] :: Wl) ({ frames := 8, cells := 1, slots := 6, locals := 124 }) [.ref (ad 0), .int x1, .ref (ad 57)] ad ca sa sz f a b po (fun _ _ _ _ => False) 1 6 := by
  refine ofIH (by decide) hl9 (Nat.le_of_ble_eq_true rfl) ?_
  intro p e s m below meth c ls X hTab hr K hl
  obtain ⟨hx, hb, hml, hown, hts, hK, hA, hth, hlk, hl9⟩ := id X
  have hl : lv_has ls 4 [(0, .ref (ad 0)), (1, .int x1), (2, .ref (ad 57))] := hl
  dsimp only [wp_L_fills] at hw
  refine lv_aload_n hx hb dL_fills_0 rfl (lv_at hl 2 rfl) ?_
  refine lv_iconst (v := (0 : Int32)) hx hb dL_fills_1 (by decide) ?_
  refine lv_aload_n hx hb dL_fills_2 rfl (lv_at hl 0 rfl) ?_
  refine lv_iload_n hx hb dL_fills_3 rfl (lv_at hl 1 rfl) ?_
  refine geI X K embS (fun f1 => f1) (fun a1 => a1) (mgB b) embS2 embSr (n0 := 1) (As := [.int x1]) (rest := [.int (0 : Int32), .ref (ad 57)]) (hM := (met_S_fills hl9 D ad ca sa _ x1 f a b _ _ hw)) (r0 := 0) (ho := by decide) (hko := kS_o0) (hci := rfl) (w1 := (tm3 (i := 57) rfl rfl)) (w2 := (tm3 (i := 58) rfl rfl)) (w3 := (tm3 (i := 59) rfl rfl)) (w4 := (tm1 (i := 1) rfl rfl)) (w5 := (tm3 (i := 60) rfl rfl)) (hd := ⟨rfl, by decide, by decide, by decide +kernel⟩) (hrc := rfl) (hrs := rfl) (hR := ⟨Nat.le_of_ble_eq_true rfl, Nat.le_of_ble_eq_true rfl⟩) (hn := rfl) (hsz := hl.1) (hst := rfl) (hW := Nat.le_of_ble_eq_true rfl) (hdg := dL_fills_4) (hf := ⟨Nat.le_of_ble_eq_true rfl, Nat.le_of_ble_eq_true rfl⟩) (fun E ce q9 f1 a1 b1 H locs hw K hce hv hcl => ?_) (fun r f1 a1 b1 H locs hw K => ?_)
  · rcases hw with ⟨rfl, hw⟩
    · refine vx_catch (own := "SendBestLaw") (name := "java/lang/IllegalArgumentException") (E := "java/lang/IllegalArgumentException") hown [] ⟨0, 9, 12, 24⟩ [] (by rw [hTab]; rfl) (fun z hz => nomatch hz) (by decide) (by decide) (hts _ (tm2 (i := 4) rfl rfl)) (va_Nw.use rfl (hth.2.2.2.2.1 _ (by decide))) hce hv hcl ?_
      refine lv_astore_n (lv' := [(3, .ref q9), (0, .ref (ad 0)), (1, .int x1), (2, .ref (ad 57))]) hx hb dL_fills_12 rfl hl (by decide) rfl (fun ls hl => ?_)
      refine lv_iconst (v := (1 : Int32)) hx hb dL_fills_13 (by decide) ?_
      exact endI X K hr rfl hw (by decide) (by decide) dL_fills_14
  · skip
    refine lv_i2l (v := r.toInt64) hx hb dL_fills_7 rfl ?_
    refine glst X K (o := 57) (t0 := 2) (by decide) kW_c57 rfl (by unfold vp_in; decide) dL_fills_8 kW_p57 (fun H locs K => ?_)
    refine lv_goto (tgt := 15) hx hb dL_fills_9 (by decide) ?_
    refine lv_iconst (v := (0 : Int32)) hx hb dL_fills_15 (by decide) ?_
    exact endI X K hr rfl hw (by decide) (by decide) dL_fills_16
set_option maxHeartbeats 4000000 in
set_option maxRecDepth 100000 in
theorem met_L_sum {l : Launch} (hl9 : l.stackTraces = false) (D : va_G) (ad : Nat → Nat) (ca : Nat → ClassId) (sa : Nat → Nat) (sz : Nat) (x1 : Int32) (f : wF) (a : wA) (b : wB) (po : Int32 → wF → wA → wB → Prop) (hw : wp_L_sum po x1 f a b) : mI nW kW (tyS ca) txS D vwCl l yL_sum (Cond.codeWith yL_sum cL_sum 4 (some .int) [(0, 9, 12, 24)] :: Wl) ({ frames := 7, cells := 1, slots := 6, locals := 105 }) [.ref (ad 0), .int x1, .ref (ad 57)] ad ca sa sz f a b po (fun _ _ _ _ => False) 1 6 := by
  refine ofIH (by decide) hl9 (Nat.le_of_ble_eq_true rfl) ?_
  intro p e s m below meth c ls X hTab hr K hl
  obtain ⟨hx, hb, hml, hown, hts, hK, hA, hth, hlk, hl9⟩ := id X
  have hl : lv_has ls 4 [(0, .ref (ad 0)), (1, .int x1), (2, .ref (ad 57))] := hl
  dsimp only [wp_L_sum] at hw
  refine lv_aload_n hx hb dL_sum_0 rfl (lv_at hl 2 rfl) ?_
  refine lv_iconst (v := (0 : Int32)) hx hb dL_sum_1 (by decide) ?_
  refine lv_aload_n hx hb dL_sum_2 rfl (lv_at hl 0 rfl) ?_
  refine lv_iload_n hx hb dL_sum_3 rfl (lv_at hl 1 rfl) ?_
  refine geI X K embS (fun f1 => f1) (fun a1 => a1) (mgB b) embS2 embSr (n0 := 1) (As := [.int x1]) (rest := [.int (0 : Int32), .ref (ad 57)]) (hM := (met_S_sum hl9 D ad ca sa _ x1 f a b _ _ hw)) (r0 := 0) (ho := by decide) (hko := kS_o0) (hci := rfl) (w1 := (tm3 (i := 64) rfl rfl)) (w2 := (tm3 (i := 65) rfl rfl)) (w3 := (tm3 (i := 66) rfl rfl)) (w4 := (tm1 (i := 1) rfl rfl)) (w5 := (tm3 (i := 67) rfl rfl)) (hd := ⟨rfl, by decide, by decide, by decide +kernel⟩) (hrc := rfl) (hrs := rfl) (hR := ⟨Nat.le_of_ble_eq_true rfl, Nat.le_of_ble_eq_true rfl⟩) (hn := rfl) (hsz := hl.1) (hst := rfl) (hW := Nat.le_of_ble_eq_true rfl) (hdg := dL_sum_4) (hf := ⟨Nat.le_of_ble_eq_true rfl, Nat.le_of_ble_eq_true rfl⟩) (fun E ce q9 f1 a1 b1 H locs hw K hce hv hcl => ?_) (fun r f1 a1 b1 H locs hw K => ?_)
  · rcases hw with ⟨rfl, hw⟩
    · refine vx_catch (own := "SendBestLaw") (name := "java/lang/IllegalArgumentException") (E := "java/lang/IllegalArgumentException") hown [] ⟨0, 9, 12, 24⟩ [] (by rw [hTab]; rfl) (fun z hz => nomatch hz) (by decide) (by decide) (hts _ (tm2 (i := 4) rfl rfl)) (va_Nw.use rfl (hth.2.2.2.2.1 _ (by decide))) hce hv hcl ?_
      refine lv_astore_n (lv' := [(3, .ref q9), (0, .ref (ad 0)), (1, .int x1), (2, .ref (ad 57))]) hx hb dL_sum_12 rfl hl (by decide) rfl (fun ls hl => ?_)
      refine lv_iconst (v := (1 : Int32)) hx hb dL_sum_13 (by decide) ?_
      exact endI X K hr rfl hw (by decide) (by decide) dL_sum_14
  · skip
    refine lv_i2l (v := r.toInt64) hx hb dL_sum_7 rfl ?_
    refine glst X K (o := 57) (t0 := 2) (by decide) kW_c57 rfl (by unfold vp_in; decide) dL_sum_8 kW_p57 (fun H locs K => ?_)
    refine lv_goto (tgt := 15) hx hb dL_sum_9 (by decide) ?_
    refine lv_iconst (v := (0 : Int32)) hx hb dL_sum_15 (by decide) ?_
    exact endI X K hr rfl hw (by decide) (by decide) dL_sum_16
set_option maxHeartbeats 4000000 in
set_option maxRecDepth 100000 in
theorem met_L_alternative {l : Launch} (hl9 : l.stackTraces = false) (D : va_G) (ad : Nat → Nat) (ca : Nat → ClassId) (sa : Nat → Nat) (sz : Nat) (x1 : Int32) (f : wF) (a : wA) (b : wB) (po : Int32 → wF → wA → wB → Prop) (hw : wp_L_alternative po x1 f a b) : mI nW kW (tyS ca) txS D vwCl l yL_alternative (Cond.codeWith yL_alternative cL_alternative 4 (some .int) [(0, 9, 12, 24), (0, 9, 15, 26)] :: Wl) ({ frames := 8, cells := 2, slots := 12, locals := 126 }) [.ref (ad 0), .int x1, .ref (ad 57)] ad ca sa sz f a b po (fun _ _ _ _ => False) 2 12 := by
  refine ofIH (by decide) hl9 (Nat.le_of_ble_eq_true rfl) ?_
  intro p e s m below meth c ls X hTab hr K hl
  obtain ⟨hx, hb, hml, hown, hts, hK, hA, hth, hlk, hl9⟩ := id X
  have hl : lv_has ls 4 [(0, .ref (ad 0)), (1, .int x1), (2, .ref (ad 57))] := hl
  dsimp only [wp_L_alternative] at hw
  refine lv_aload_n hx hb dL_alternative_0 rfl (lv_at hl 2 rfl) ?_
  refine lv_iconst (v := (0 : Int32)) hx hb dL_alternative_1 (by decide) ?_
  refine lv_aload_n hx hb dL_alternative_2 rfl (lv_at hl 0 rfl) ?_
  refine lv_iload_n hx hb dL_alternative_3 rfl (lv_at hl 1 rfl) ?_
  refine geI X K embS (fun f1 => f1) (fun a1 => a1) (mgB b) embS2 embSr (n0 := 1) (As := [.int x1]) (rest := [.int (0 : Int32), .ref (ad 57)]) (hM := (met_S_alternative hl9 D ad ca sa _ x1 f a b _ _ hw)) (r0 := 0) (ho := by decide) (hko := kS_o0) (hci := rfl) (w1 := (tm3 (i := 80) rfl rfl)) (w2 := (tm3 (i := 81) rfl rfl)) (w3 := (tm3 (i := 82) rfl rfl)) (w4 := (tm1 (i := 1) rfl rfl)) (w5 := (tm3 (i := 83) rfl rfl)) (hd := ⟨rfl, by decide, by decide, by decide +kernel⟩) (hrc := rfl) (hrs := rfl) (hR := ⟨Nat.le_of_ble_eq_true rfl, Nat.le_of_ble_eq_true rfl⟩) (hn := rfl) (hsz := hl.1) (hst := rfl) (hW := Nat.le_of_ble_eq_true rfl) (hdg := dL_alternative_4) (hf := ⟨Nat.le_of_ble_eq_true rfl, Nat.le_of_ble_eq_true rfl⟩) (fun E ce q9 f1 a1 b1 H locs hw K hce hv hcl => ?_) (fun r f1 a1 b1 H locs hw K => ?_)
  · rcases hw with ⟨rfl, hw⟩ | ⟨rfl, hw⟩
    · refine vx_catch (own := "SendBestLaw") (name := "java/lang/IllegalArgumentException") (E := "java/lang/IllegalArgumentException") hown [] ⟨0, 9, 12, 24⟩ [⟨0, 9, 15, 26⟩] (by rw [hTab]; rfl) (fun z hz => nomatch hz) (by decide) (by decide) (hts _ (tm2 (i := 4) rfl rfl)) (va_Nw.use rfl (hth.2.2.2.2.1 _ (by decide))) hce hv hcl ?_
      refine lv_astore_n (lv' := [(3, .ref q9), (0, .ref (ad 0)), (1, .int x1), (2, .ref (ad 57))]) hx hb dL_alternative_12 rfl hl (by decide) rfl (fun ls hl => ?_)
      refine lv_iconst (v := (1 : Int32)) hx hb dL_alternative_13 (by decide) ?_
      exact endI X K hr rfl hw (by decide) (by decide) dL_alternative_14
    · refine vx_catch (own := "SendBestLaw") (name := "java/lang/IllegalStateException") (E := "java/lang/IllegalStateException") hown [⟨0, 9, 12, 24⟩] ⟨0, 9, 15, 26⟩ [] (by rw [hTab]; rfl) (fun z hz => by
        simp only [List.mem_cons, List.not_mem_nil, or_false] at hz
        rcases hz with rfl
        · exact Or.inr ⟨by decide, "java/lang/IllegalArgumentException", hts _ (tm2 (i := 4) rfl rfl), hth.2.2.2.2.2 _ (by decide) _ (by decide) (by decide)⟩) (by decide) (by decide) (hts _ (tm2 (i := 5) rfl rfl)) (va_Nw.use rfl (hth.2.2.2.2.1 _ (by decide))) hce hv hcl ?_
      refine lv_astore_n (lv' := [(3, .ref q9), (0, .ref (ad 0)), (1, .int x1), (2, .ref (ad 57))]) hx hb dL_alternative_15 rfl hl (by decide) rfl (fun ls hl => ?_)
      refine lv_iconst (v := (2 : Int32)) hx hb dL_alternative_16 (by decide) ?_
      exact endI X K hr rfl hw (by decide) (by decide) dL_alternative_17
  · skip
    refine lv_i2l (v := r.toInt64) hx hb dL_alternative_7 rfl ?_
    refine glst X K (o := 57) (t0 := 2) (by decide) kW_c57 rfl (by unfold vp_in; decide) dL_alternative_8 kW_p57 (fun H locs K => ?_)
    refine lv_goto (tgt := 18) hx hb dL_alternative_9 (by decide) ?_
    refine lv_iconst (v := (0 : Int32)) hx hb dL_alternative_18 (by decide) ?_
    exact endI X K hr rfl hw (by decide) (by decide) dL_alternative_19
set_option maxHeartbeats 4000000 in
set_option maxRecDepth 100000 in
theorem met_L_never {l : Launch} (hl9 : l.stackTraces = false) (D : va_G) (ad : Nat → Nat) (ca : Nat → ClassId) (sa : Nat → Nat) (sz : Nat) (x1 : Int32) (f : wF) (a : wA) (b : wB) (po : Int32 → wF → wA → wB → Prop) (hw : wp_L_never po x1 f a b) : mI nW kW (tyS ca) txS D vwCl l yL_never (Cond.codeWith yL_never cL_never 4 (some .int) [(0, 9, 12, 13)] :: Wl) ({ frames := 7, cells := 1, slots := 6, locals := 105 }) [.ref (ad 0), .int x1, .ref (ad 57)] ad ca sa sz f a b po (fun _ _ _ _ => False) 1 6 := by
  refine ofIH (by decide) hl9 (Nat.le_of_ble_eq_true rfl) ?_
  intro p e s m below meth c ls X hTab hr K hl
  obtain ⟨hx, hb, hml, hown, hts, hK, hA, hth, hlk, hl9⟩ := id X
  have hl : lv_has ls 4 [(0, .ref (ad 0)), (1, .int x1), (2, .ref (ad 57))] := hl
  dsimp only [wp_L_never] at hw
  refine lv_aload_n hx hb dL_never_0 rfl (lv_at hl 2 rfl) ?_
  refine lv_iconst (v := (0 : Int32)) hx hb dL_never_1 (by decide) ?_
  refine lv_aload_n hx hb dL_never_2 rfl (lv_at hl 0 rfl) ?_
  refine lv_iload_n hx hb dL_never_3 rfl (lv_at hl 1 rfl) ?_
  refine geI X K embS (fun f1 => f1) (fun a1 => a1) (mgB b) embS2 embSr (n0 := 1) (As := [.int x1]) (rest := [.int (0 : Int32), .ref (ad 57)]) (hM := (met_S_never hl9 D ad ca sa _ x1 f a b _ _ hw)) (r0 := 0) (ho := by decide) (hko := kS_o0) (hci := rfl) (w1 := (tm3 (i := 87) rfl rfl)) (w2 := (tm3 (i := 88) rfl rfl)) (w3 := (tm3 (i := 89) rfl rfl)) (w4 := (tm1 (i := 1) rfl rfl)) (w5 := (tm3 (i := 90) rfl rfl)) (hd := ⟨rfl, by decide, by decide, by decide +kernel⟩) (hrc := rfl) (hrs := rfl) (hR := ⟨Nat.le_of_ble_eq_true rfl, Nat.le_of_ble_eq_true rfl⟩) (hn := rfl) (hsz := hl.1) (hst := rfl) (hW := Nat.le_of_ble_eq_true rfl) (hdg := dL_never_4) (hf := ⟨Nat.le_of_ble_eq_true rfl, Nat.le_of_ble_eq_true rfl⟩) (fun E ce q9 f1 a1 b1 H locs hw K hce hv hcl => ?_) (fun r f1 a1 b1 H locs hw K => ?_)
  · rcases hw with ⟨rfl, hw⟩
    · refine vx_catch (own := "SendBestLaw") (name := "java/lang/IndexOutOfBoundsException") (E := "java/lang/IndexOutOfBoundsException") hown [] ⟨0, 9, 12, 13⟩ [] (by rw [hTab]; rfl) (fun z hz => nomatch hz) (by decide) (by decide) (hts _ (tm1 (i := 137) rfl rfl)) (va_Nw.use rfl (hth.2.2.2.2.1 _ (by decide))) hce hv hcl ?_
      refine lv_astore_n (lv' := [(3, .ref q9), (0, .ref (ad 0)), (1, .int x1), (2, .ref (ad 57))]) hx hb dL_never_12 rfl hl (by decide) rfl (fun ls hl => ?_)
      refine lv_iconst (v := (1 : Int32)) hx hb dL_never_13 (by decide) ?_
      exact endI X K hr rfl hw (by decide) (by decide) dL_never_14
  · skip
    refine lv_i2l (v := r.toInt64) hx hb dL_never_7 rfl ?_
    refine glst X K (o := 57) (t0 := 2) (by decide) kW_c57 rfl (by unfold vp_in; decide) dL_never_8 kW_p57 (fun H locs K => ?_)
    refine lv_goto (tgt := 15) hx hb dL_never_9 (by decide) ?_
    refine lv_iconst (v := (0 : Int32)) hx hb dL_never_15 (by decide) ?_
    exact endI X K hr rfl hw (by decide) (by decide) dL_never_16
