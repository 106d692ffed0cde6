theorem dX5_wants_24 : decode cX5_wants 24 = .ok (.goto 18, 3) := by decide +kernel
theorem dX5_wants_27 : decode cX5_wants 27 = .ok (.aload_n 0, 1) := by decide +kernel
theorem dX5_wants_28 : decode cX5_wants 28 = .ok (.getfield 51, 3) := by decide +kernel
theorem dX5_wants_31 : decode cX5_wants 31 = .ok (.iload_n 1, 1) := by decide +kernel
theorem dX5_wants_32 : decode cX5_wants 32 = .ok (.iaload, 1) := by decide +kernel
theorem dX5_wants_33 : decode cX5_wants 33 = .ok (.ifCond .ne 8, 3) := by decide +kernel
theorem dX5_wants_36 : decode cX5_wants 36 = .ok (.bipush (-3), 2) := by decide +kernel
theorem dX5_wants_38 : decode cX5_wants 38 = .ok (.goto 4, 3) := by decide +kernel
theorem dX5_wants_41 : decode cX5_wants 41 = .ok (.iconst 0, 1) := by decide +kernel
theorem dX5_wants_42 : decode cX5_wants 42 = .ok (.ireturn, 1) := by decide +kernel
theorem dX5_intAt_0 : decode cX5_intAt 0 = .ok (.aload_n 0, 1) := by decide +kernel
theorem dX5_intAt_1 : decode cX5_intAt 1 = .ok (.getfield 63, 3) := by decide +kernel
theorem dX5_intAt_4 : decode cX5_intAt 4 = .ok (.sipush 160, 3) := by decide +kernel
theorem dX5_intAt_7 : decode cX5_intAt 7 = .ok (.iload_n 1, 1) := by decide +kernel
theorem dX5_intAt_8 : decode cX5_intAt 8 = .ok (.imul, 1) := by decide +kernel
theorem dX5_intAt_9 : decode cX5_intAt 9 = .ok (.iload_n 2, 1) := by decide +kernel
theorem dX5_intAt_10 : decode cX5_intAt 10 = .ok (.iadd, 1) := by decide +kernel
theorem dX5_intAt_11 : decode cX5_intAt 11 = .ok (.laload, 1) := by decide +kernel
theorem dX5_intAt_12 : decode cX5_intAt 12 = .ok (.l2i, 1) := by decide +kernel
theorem dX5_intAt_13 : decode cX5_intAt 13 = .ok (.ireturn, 1) := by decide +kernel
theorem dX5_facts_0 : decode cX5_facts 0 = .ok (.aload_n 0, 1) := by decide +kernel
theorem dX5_facts_1 : decode cX5_facts 1 = .ok (.getfield 33, 3) := by decide +kernel
theorem dX5_facts_4 : decode cX5_facts 4 = .ok (.aload_n 0, 1) := by decide +kernel
theorem dX5_facts_5 : decode cX5_facts 5 = .ok (.getfield 89, 3) := by decide +kernel
theorem dX5_facts_8 : decode cX5_facts 8 = .ok (.iload_n 1, 1) := by decide +kernel
theorem dX5_facts_9 : decode cX5_facts 9 = .ok (.iastore, 1) := by decide +kernel
theorem dX5_facts_10 : decode cX5_facts 10 = .ok (.aload_n 0, 1) := by decide +kernel
theorem dX5_facts_11 : decode cX5_facts 11 = .ok (.dup, 1) := by decide +kernel
theorem dX5_facts_12 : decode cX5_facts 12 = .ok (.getfield 25, 3) := by decide +kernel
theorem dX5_facts_15 : decode cX5_facts 15 = .ok (.aload_n 0, 1) := by decide +kernel
theorem dX5_facts_16 : decode cX5_facts 16 = .ok (.getfield 25, 3) := by decide +kernel
theorem dX5_facts_19 : decode cX5_facts 19 = .ok (.iconst 1, 1) := by decide +kernel
theorem dX5_facts_20 : decode cX5_facts 20 = .ok (.aload_n 0, 1) := by decide +kernel
theorem dX5_facts_21 : decode cX5_facts 21 = .ok (.getfield 89, 3) := by decide +kernel
theorem dX5_facts_24 : decode cX5_facts 24 = .ok (.ishl, 1) := by decide +kernel
theorem dX5_facts_25 : decode cX5_facts 25 = .ok (.lshl, 1) := by decide +kernel
theorem dX5_facts_26 : decode cX5_facts 26 = .ok (.lor, 1) := by decide +kernel
theorem dX5_facts_27 : decode cX5_facts 27 = .ok (.putfield 25, 3) := by decide +kernel
theorem dX5_facts_30 : decode cX5_facts 30 = .ok (.aload_n 0, 1) := by decide +kernel
theorem dX5_facts_31 : decode cX5_facts 31 = .ok (.dup, 1) := by decide +kernel
theorem dX5_facts_32 : decode cX5_facts 32 = .ok (.getfield 89, 3) := by decide +kernel
theorem dX5_facts_35 : decode cX5_facts 35 = .ok (.dup_x1, 1) := by decide +kernel
theorem dX5_facts_36 : decode cX5_facts 36 = .ok (.iconst 1, 1) := by decide +kernel
theorem dX5_facts_37 : decode cX5_facts 37 = .ok (.iadd, 1) := by decide +kernel
theorem dX5_facts_38 : decode cX5_facts 38 = .ok (.putfield 89, 3) := by decide +kernel
theorem dX5_facts_41 : decode cX5_facts 41 = .ok (.ireturn, 1) := by decide +kernel
theorem dX5_fact_0 : decode cX5_fact 0 = .ok (.iload_n 1, 1) := by decide +kernel
theorem dX5_fact_1 : decode cX5_fact 1 = .ok (.ifCond .lt 9, 3) := by decide +kernel
theorem dX5_fact_4 : decode cX5_fact 4 = .ok (.iload_n 1, 1) := by decide +kernel
theorem dX5_fact_5 : decode cX5_fact 5 = .ok (.bipush 99, 2) := by decide +kernel
theorem dX5_fact_7 : decode cX5_fact 7 = .ok (.if_icmp .le 10, 3) := by decide +kernel
theorem dX5_fact_10 : decode cX5_fact 10 = .ok (.aload_n 0, 1) := by decide +kernel
theorem dX5_fact_11 : decode cX5_fact 11 = .ok (.bipush (-6), 2) := by decide +kernel
theorem dX5_fact_13 : decode cX5_fact 13 = .ok (.invokevirtual 99, 3) := by decide +kernel
theorem dX5_fact_16 : decode cX5_fact 16 = .ok (.ireturn, 1) := by decide +kernel
theorem dX5_fact_17 : decode cX5_fact 17 = .ok (.aload_n 0, 1) := by decide +kernel
theorem dX5_fact_18 : decode cX5_fact 18 = .ok (.getfield 89, 3) := by decide +kernel
theorem dX5_fact_21 : decode cX5_fact 21 = .ok (.bipush 6, 2) := by decide +kernel
theorem dX5_fact_23 : decode cX5_fact 23 = .ok (.if_icmp .ne 12, 3) := by decide +kernel
theorem dX5_fact_26 : decode cX5_fact 26 = .ok (.aload_n 0, 1) := by decide +kernel
theorem dX5_fact_27 : decode cX5_fact 27 = .ok (.bipush (-7), 2) := by decide +kernel
theorem dX5_fact_29 : decode cX5_fact 29 = .ok (.invokevirtual 99, 3) := by decide +kernel
theorem dX5_fact_32 : decode cX5_fact 32 = .ok (.goto 8, 3) := by decide +kernel
theorem dX5_fact_35 : decode cX5_fact 35 = .ok (.aload_n 0, 1) := by decide +kernel
theorem dX5_fact_36 : decode cX5_fact 36 = .ok (.iload_n 1, 1) := by decide +kernel
theorem dX5_fact_37 : decode cX5_fact 37 = .ok (.invokevirtual 113, 3) := by decide +kernel
theorem dX5_fact_40 : decode cX5_fact 40 = .ok (.ireturn, 1) := by decide +kernel
theorem dX5_speakers_0 : decode cX5_speakers 0 = .ok (.aload_n 0, 1) := by decide +kernel
theorem dX5_speakers_1 : decode cX5_speakers 1 = .ok (.getfield 36, 3) := by decide +kernel
theorem dX5_speakers_4 : decode cX5_speakers 4 = .ok (.aload_n 0, 1) := by decide +kernel
theorem dX5_speakers_5 : decode cX5_speakers 5 = .ok (.getfield 92, 3) := by decide +kernel
theorem dX5_speakers_8 : decode cX5_speakers 8 = .ok (.iload_n 1, 1) := by decide +kernel
theorem dX5_speakers_9 : decode cX5_speakers 9 = .ok (.iastore, 1) := by decide +kernel
theorem dX5_speakers_10 : decode cX5_speakers 10 = .ok (.aload_n 0, 1) := by decide +kernel
theorem dX5_speakers_11 : decode cX5_speakers 11 = .ok (.getfield 39, 3) := by decide +kernel
theorem dX5_speakers_14 : decode cX5_speakers 14 = .ok (.aload_n 0, 1) := by decide +kernel
theorem dX5_speakers_15 : decode cX5_speakers 15 = .ok (.getfield 92, 3) := by decide +kernel
theorem dX5_speakers_18 : decode cX5_speakers 18 = .ok (.iload_n 2, 1) := by decide +kernel
theorem dX5_speakers_19 : decode cX5_speakers 19 = .ok (.iastore, 1) := by decide +kernel
theorem dX5_speakers_20 : decode cX5_speakers 20 = .ok (.aload_n 0, 1) := by decide +kernel
theorem dX5_speakers_21 : decode cX5_speakers 21 = .ok (.dup, 1) := by decide +kernel
theorem dX5_speakers_22 : decode cX5_speakers 22 = .ok (.getfield 92, 3) := by decide +kernel
theorem dX5_speakers_25 : decode cX5_speakers 25 = .ok (.dup_x1, 1) := by decide +kernel
theorem dX5_speakers_26 : decode cX5_speakers 26 = .ok (.iconst 1, 1) := by decide +kernel
theorem dX5_speakers_27 : decode cX5_speakers 27 = .ok (.iadd, 1) := by decide +kernel
theorem dX5_speakers_28 : decode cX5_speakers 28 = .ok (.putfield 92, 3) := by decide +kernel
theorem dX5_speakers_31 : decode cX5_speakers 31 = .ok (.ireturn, 1) := by decide +kernel
theorem dX5_speaker_0 : decode cX5_speaker 0 = .ok (.iload_n 1, 1) := by decide +kernel
theorem dX5_speaker_1 : decode cX5_speaker 1 = .ok (.ifCond .lt 9, 3) := by decide +kernel
theorem dX5_speaker_4 : decode cX5_speaker 4 = .ok (.iload_n 1, 1) := by decide +kernel
theorem dX5_speaker_5 : decode cX5_speaker 5 = .ok (.bipush 6, 2) := by decide +kernel
theorem dX5_speaker_7 : decode cX5_speaker 7 = .ok (.if_icmp .le 9, 3) := by decide +kernel
theorem dX5_speaker_10 : decode cX5_speaker 10 = .ok (.aload_n 0, 1) := by decide +kernel
theorem dX5_speaker_11 : decode cX5_speaker 11 = .ok (.iconst (-1), 1) := by decide +kernel
theorem dX5_speaker_12 : decode cX5_speaker 12 = .ok (.invokevirtual 99, 3) := by decide +kernel
theorem dX5_speaker_15 : decode cX5_speaker 15 = .ok (.ireturn, 1) := by decide +kernel
theorem dX5_speaker_16 : decode cX5_speaker 16 = .ok (.iload_n 2, 1) := by decide +kernel
theorem dX5_speaker_17 : decode cX5_speaker 17 = .ok (.ifCond .lt 10, 3) := by decide +kernel
theorem dX5_speaker_20 : decode cX5_speaker 20 = .ok (.iload_n 2, 1) := by decide +kernel
theorem dX5_speaker_21 : decode cX5_speaker 21 = .ok (.sipush 1023, 3) := by decide +kernel
theorem dX5_speaker_24 : decode cX5_speaker 24 = .ok (.if_icmp .le 10, 3) := by decide +kernel
theorem dX5_speaker_27 : decode cX5_speaker 27 = .ok (.aload_n 0, 1) := by decide +kernel
theorem dX5_speaker_28 : decode cX5_speaker 28 = .ok (.bipush (-6), 2) := by decide +kernel
theorem dX5_speaker_30 : decode cX5_speaker 30 = .ok (.invokevirtual 99, 3) := by decide +kernel
theorem dX5_speaker_33 : decode cX5_speaker 33 = .ok (.ireturn, 1) := by decide +kernel
theorem dX5_speaker_34 : decode cX5_speaker 34 = .ok (.aload_n 0, 1) := by decide +kernel
theorem dX5_speaker_35 : decode cX5_speaker 35 = .ok (.getfield 92, 3) := by decide +kernel
theorem dX5_speaker_38 : decode cX5_speaker 38 = .ok (.bipush 6, 2) := by decide +kernel
theorem dX5_speaker_40 : decode cX5_speaker 40 = .ok (.if_icmp .ne 12, 3) := by decide +kernel
theorem dX5_speaker_43 : decode cX5_speaker 43 = .ok (.aload_n 0, 1) := by decide +kernel
theorem dX5_speaker_44 : decode cX5_speaker 44 = .ok (.bipush (-7), 2) := by decide +kernel
theorem dX5_speaker_46 : decode cX5_speaker 46 = .ok (.invokevirtual 99, 3) := by decide +kernel
theorem dX5_speaker_49 : decode cX5_speaker 49 = .ok (.goto 9, 3) := by decide +kernel
theorem dX5_speaker_52 : decode cX5_speaker 52 = .ok (.aload_n 0, 1) := by decide +kernel
theorem dX5_speaker_53 : decode cX5_speaker 53 = .ok (.iload_n 1, 1) := by decide +kernel
theorem dX5_speaker_54 : decode cX5_speaker 54 = .ok (.iload_n 2, 1) := by decide +kernel
theorem dX5_speaker_55 : decode cX5_speaker 55 = .ok (.invokevirtual 115, 3) := by decide +kernel
theorem dX5_speaker_58 : decode cX5_speaker 58 = .ok (.ireturn, 1) := by decide +kernel
theorem dX5_law_0 : decode cX5_law 0 = .ok (.iload_n 1, 1) := by decide +kernel
theorem dX5_law_1 : decode cX5_law 1 = .ok (.iconst 2, 1) := by decide +kernel
theorem dX5_law_2 : decode cX5_law 2 = .ok (.if_icmp .lt 25, 3) := by decide +kernel
theorem dX5_law_5 : decode cX5_law 5 = .ok (.iload_n 1, 1) := by decide +kernel
theorem dX5_law_6 : decode cX5_law 6 = .ok (.bipush 10, 2) := by decide +kernel
theorem dX5_law_8 : decode cX5_law 8 = .ok (.if_icmp .gt 19, 3) := by decide +kernel
theorem dX5_law_11 : decode cX5_law 11 = .ok (.iload_n 2, 1) := by decide +kernel
theorem dX5_law_12 : decode cX5_law 12 = .ok (.ifCond .lt 15, 3) := by decide +kernel
theorem dX5_law_15 : decode cX5_law 15 = .ok (.iload_n 2, 1) := by decide +kernel
theorem dX5_law_16 : decode cX5_law 16 = .ok (.iload_n 1, 1) := by decide +kernel
theorem dX5_law_17 : decode cX5_law 17 = .ok (.if_icmp .gt 10, 3) := by decide +kernel
theorem dX5_law_20 : decode cX5_law 20 = .ok (.aload_n 0, 1) := by decide +kernel
theorem dX5_law_21 : decode cX5_law 21 = .ok (.getfield 118, 3) := by decide +kernel
theorem dX5_law_24 : decode cX5_law 24 = .ok (.ifCond .le 10, 3) := by decide +kernel
theorem dX5_law_27 : decode cX5_law 27 = .ok (.aload_n 0, 1) := by decide +kernel
theorem dX5_law_28 : decode cX5_law 28 = .ok (.bipush (-6), 2) := by decide +kernel
theorem dX5_law_30 : decode cX5_law 30 = .ok (.invokevirtual 99, 3) := by decide +kernel
theorem dX5_law_33 : decode cX5_law 33 = .ok (.ireturn, 1) := by decide +kernel
theorem dX5_law_34 : decode cX5_law 34 = .ok (.bipush 100, 2) := by decide +kernel
theorem dX5_law_36 : decode cX5_law 36 = .ok (.aload_n 0, 1) := by decide +kernel
theorem dX5_law_37 : decode cX5_law 37 = .ok (.getfield 7, 3) := by decide +kernel
theorem dX5_law_40 : decode cX5_law 40 = .ok (.imul, 1) := by decide +kernel
theorem dX5_law_41 : decode cX5_law 41 = .ok (.aload_n 0, 1) := by decide +kernel
theorem dX5_law_42 : decode cX5_law 42 = .ok (.getfield 13, 3) := by decide +kernel
theorem dX5_law_45 : decode cX5_law 45 = .ok (.iadd, 1) := by decide +kernel
theorem dX5_law_46 : decode cX5_law 46 = .ok (.istore_n 3, 1) := by decide +kernel
theorem dX5_law_47 : decode cX5_law 47 = .ok (.aload_n 0, 1) := by decide +kernel
theorem dX5_law_48 : decode cX5_law 48 = .ok (.iload_n 1, 1) := by decide +kernel
theorem dX5_law_49 : decode cX5_law 49 = .ok (.putfield 7, 3) := by decide +kernel
theorem dX5_law_52 : decode cX5_law 52 = .ok (.aload_n 0, 1) := by decide +kernel
theorem dX5_law_53 : decode cX5_law 53 = .ok (.iload_n 2, 1) := by decide +kernel
theorem dX5_law_54 : decode cX5_law 54 = .ok (.putfield 13, 3) := by decide +kernel
theorem dX5_law_57 : decode cX5_law 57 = .ok (.iload_n 3, 1) := by decide +kernel
theorem dX5_law_58 : decode cX5_law 58 = .ok (.ireturn, 1) := by decide +kernel
theorem dX5_saidBy_0 : decode cX5_saidBy 0 = .ok (.iconst 0, 1) := by decide +kernel
theorem dX5_saidBy_1 : decode cX5_saidBy 1 = .ok (.istore_n 2, 1) := by decide +kernel
theorem dX5_saidBy_2 : decode cX5_saidBy 2 = .ok (.iconst 0, 1) := by decide +kernel
theorem dX5_saidBy_3 : decode cX5_saidBy 3 = .ok (.istore_n 3, 1) := by decide +kernel
theorem dX5_saidBy_4 : decode cX5_saidBy 4 = .ok (.iload_n 3, 1) := by decide +kernel
theorem dX5_saidBy_5 : decode cX5_saidBy 5 = .ok (.aload_n 0, 1) := by decide +kernel
theorem dX5_saidBy_6 : decode cX5_saidBy 6 = .ok (.getfield 118, 3) := by decide +kernel
theorem dX5_saidBy_9 : decode cX5_saidBy 9 = .ok (.if_icmp .ge 27, 3) := by decide +kernel
theorem dX5_saidBy_12 : decode cX5_saidBy 12 = .ok (.iload_n 2, 1) := by decide +kernel
theorem dX5_saidBy_13 : decode cX5_saidBy 13 = .ok (.aload_n 0, 1) := by decide +kernel
theorem dX5_saidBy_14 : decode cX5_saidBy 14 = .ok (.getfield 42, 3) := by decide +kernel
theorem dX5_saidBy_17 : decode cX5_saidBy 17 = .ok (.iload_n 3, 1) := by decide +kernel
theorem dX5_saidBy_18 : decode cX5_saidBy 18 = .ok (.iaload, 1) := by decide +kernel
theorem dX5_saidBy_19 : decode cX5_saidBy 19 = .ok (.iload_n 1, 1) := by decide +kernel
theorem dX5_saidBy_20 : decode cX5_saidBy 20 = .ok (.if_icmp .ne 7, 3) := by decide +kernel
theorem dX5_saidBy_23 : decode cX5_saidBy 23 = .ok (.iconst 1, 1) := by decide +kernel
theorem dX5_saidBy_24 : decode cX5_saidBy 24 = .ok (.goto 4, 3) := by decide +kernel
theorem dX5_saidBy_27 : decode cX5_saidBy 27 = .ok (.iconst 0, 1) := by decide +kernel
theorem dX5_saidBy_28 : decode cX5_saidBy 28 = .ok (.iadd, 1) := by decide +kernel
theorem dX5_saidBy_29 : decode cX5_saidBy 29 = .ok (.istore_n 2, 1) := by decide +kernel
theorem dX5_saidBy_30 : decode cX5_saidBy 30 = .ok (.iinc 3 1, 3) := by decide +kernel
theorem dX5_saidBy_33 : decode cX5_saidBy 33 = .ok (.goto (-29), 3) := by decide +kernel
theorem dX5_saidBy_36 : decode cX5_saidBy 36 = .ok (.iload_n 2, 1) := by decide +kernel
theorem dX5_saidBy_37 : decode cX5_saidBy 37 = .ok (.ireturn, 1) := by decide +kernel
theorem dX5_speakerOf_0 : decode cX5_speakerOf 0 = .ok (.aload_n 0, 1) := by decide +kernel
theorem dX5_speakerOf_1 : decode cX5_speakerOf 1 = .ok (.iload_n 1, 1) := by decide +kernel
theorem dX5_speakerOf_2 : decode cX5_speakerOf 2 = .ok (.invokevirtual 103, 3) := by decide +kernel
theorem dX5_speakerOf_5 : decode cX5_speakerOf 5 = .ok (.ifCond .eq 12, 3) := by decide +kernel
theorem dX5_speakerOf_8 : decode cX5_speakerOf 8 = .ok (.iload_n 2, 1) := by decide +kernel
theorem dX5_speakerOf_9 : decode cX5_speakerOf 9 = .ok (.ifCond .lt 8, 3) := by decide +kernel
theorem dX5_speakerOf_12 : decode cX5_speakerOf 12 = .ok (.iload_n 2, 1) := by decide +kernel
theorem dX5_speakerOf_13 : decode cX5_speakerOf 13 = .ok (.iconst 2, 1) := by decide +kernel
theorem dX5_speakerOf_14 : decode cX5_speakerOf 14 = .ok (.if_icmp .le 10, 3) := by decide +kernel
theorem dX5_speakerOf_17 : decode cX5_speakerOf 17 = .ok (.aload_n 0, 1) := by decide +kernel
theorem dX5_speakerOf_18 : decode cX5_speakerOf 18 = .ok (.bipush (-5), 2) := by decide +kernel
theorem dX5_speakerOf_20 : decode cX5_speakerOf 20 = .ok (.invokevirtual 99, 3) := by decide +kernel
theorem dX5_speakerOf_23 : decode cX5_speakerOf 23 = .ok (.ireturn, 1) := by decide +kernel
theorem dX5_speakerOf_24 : decode cX5_speakerOf 24 = .ok (.iload_n 2, 1) := by decide +kernel
theorem dX5_speakerOf_25 : decode cX5_speakerOf 25 = .ok (.ifCond .ne 12, 3) := by decide +kernel
theorem dX5_speakerOf_28 : decode cX5_speakerOf 28 = .ok (.aload_n 0, 1) := by decide +kernel
theorem dX5_speakerOf_29 : decode cX5_speakerOf 29 = .ok (.getfield 36, 3) := by decide +kernel
theorem dX5_speakerOf_32 : decode cX5_speakerOf 32 = .ok (.iload_n 1, 1) := by decide +kernel
theorem dX5_speakerOf_33 : decode cX5_speakerOf 33 = .ok (.iaload, 1) := by decide +kernel
theorem dX5_speakerOf_34 : decode cX5_speakerOf 34 = .ok (.goto 22, 3) := by decide +kernel
theorem dX5_speakerOf_37 : decode cX5_speakerOf 37 = .ok (.iload_n 2, 1) := by decide +kernel
theorem dX5_speakerOf_38 : decode cX5_speakerOf 38 = .ok (.iconst 1, 1) := by decide +kernel
theorem dX5_speakerOf_39 : decode cX5_speakerOf 39 = .ok (.if_icmp .ne 12, 3) := by decide +kernel
theorem dX5_speakerOf_42 : decode cX5_speakerOf 42 = .ok (.aload_n 0, 1) := by decide +kernel
theorem dX5_speakerOf_43 : decode cX5_speakerOf 43 = .ok (.getfield 39, 3) := by decide +kernel
theorem dX5_speakerOf_46 : decode cX5_speakerOf 46 = .ok (.iload_n 1, 1) := by decide +kernel
theorem dX5_speakerOf_47 : decode cX5_speakerOf 47 = .ok (.iaload, 1) := by decide +kernel
theorem dX5_speakerOf_48 : decode cX5_speakerOf 48 = .ok (.goto 8, 3) := by decide +kernel
theorem dX5_speakerOf_51 : decode cX5_speakerOf 51 = .ok (.aload_n 0, 1) := by decide +kernel
theorem dX5_speakerOf_52 : decode cX5_speakerOf 52 = .ok (.iload_n 1, 1) := by decide +kernel
theorem dX5_speakerOf_53 : decode cX5_speakerOf 53 = .ok (.invokevirtual 106, 3) := by decide +kernel
theorem dX5_speakerOf_56 : decode cX5_speakerOf 56 = .ok (.ireturn, 1) := by decide +kernel
theorem dX5_harm_0 : decode cX5_harm 0 = .ok (.aload_n 0, 1) := by decide +kernel
theorem dX5_harm_1 : decode cX5_harm 1 = .ok (.iload_n 1, 1) := by decide +kernel
theorem dX5_harm_2 : decode cX5_harm 2 = .ok (.invokevirtual 121, 3) := by decide +kernel
theorem dX5_harm_5 : decode cX5_harm 5 = .ok (.ifCond .ne 9, 3) := by decide +kernel
theorem dX5_harm_8 : decode cX5_harm 8 = .ok (.aload_n 0, 1) := by decide +kernel
theorem dX5_harm_9 : decode cX5_harm 9 = .ok (.iconst (-1), 1) := by decide +kernel
theorem dX5_harm_10 : decode cX5_harm 10 = .ok (.invokevirtual 99, 3) := by decide +kernel
theorem dX5_harm_13 : decode cX5_harm 13 = .ok (.ireturn, 1) := by decide +kernel
theorem dX5_harm_14 : decode cX5_harm 14 = .ok (.iload_n 2, 1) := by decide +kernel
theorem dX5_harm_15 : decode cX5_harm 15 = .ok (.ifCond .lt 9, 3) := by decide +kernel
theorem dX5_harm_18 : decode cX5_harm 18 = .ok (.iload_n 2, 1) := by decide +kernel
theorem dX5_harm_19 : decode cX5_harm 19 = .ok (.bipush 99, 2) := by decide +kernel
theorem dX5_harm_21 : decode cX5_harm 21 = .ok (.if_icmp .le 10, 3) := by decide +kernel
theorem dX5_harm_24 : decode cX5_harm 24 = .ok (.aload_n 0, 1) := by decide +kernel
theorem dX5_harm_25 : decode cX5_harm 25 = .ok (.bipush (-6), 2) := by decide +kernel
theorem dX5_harm_27 : decode cX5_harm 27 = .ok (.invokevirtual 99, 3) := by decide +kernel
theorem dX5_harm_30 : decode cX5_harm 30 = .ok (.ireturn, 1) := by decide +kernel
theorem dX5_harm_31 : decode cX5_harm 31 = .ok (.aload_n 0, 1) := by decide +kernel
theorem dX5_harm_32 : decode cX5_harm 32 = .ok (.getfield 33, 3) := by decide +kernel
theorem dX5_harm_35 : decode cX5_harm 35 = .ok (.iload_n 1, 1) := by decide +kernel
theorem dX5_harm_36 : decode cX5_harm 36 = .ok (.iaload, 1) := by decide +kernel
theorem dX5_harm_37 : decode cX5_harm 37 = .ok (.istore_n 3, 1) := by decide +kernel
theorem dX5_harm_38 : decode cX5_harm 38 = .ok (.aload_n 0, 1) := by decide +kernel
theorem dX5_harm_39 : decode cX5_harm 39 = .ok (.getfield 33, 3) := by decide +kernel
theorem dX5_harm_42 : decode cX5_harm 42 = .ok (.iload_n 1, 1) := by decide +kernel
theorem dX5_harm_43 : decode cX5_harm 43 = .ok (.iload_n 2, 1) := by decide +kernel
theorem dX5_harm_44 : decode cX5_harm 44 = .ok (.iastore, 1) := by decide +kernel
theorem dX5_harm_45 : decode cX5_harm 45 = .ok (.iload_n 3, 1) := by decide +kernel
theorem dX5_harm_46 : decode cX5_harm 46 = .ok (.ireturn, 1) := by decide +kernel
theorem dX5_isTrue_0 : decode cX5_isTrue 0 = .ok (.aload_n 0, 1) := by decide +kernel
theorem dX5_isTrue_1 : decode cX5_isTrue 1 = .ok (.getfield 36, 3) := by decide +kernel
theorem dX5_isTrue_4 : decode cX5_isTrue 4 = .ok (.iload_n 1, 1) := by decide +kernel
theorem dX5_isTrue_5 : decode cX5_isTrue 5 = .ok (.iaload, 1) := by decide +kernel
theorem dX5_isTrue_6 : decode cX5_isTrue 6 = .ok (.tableswitch 141 1 4 #[30, 44, 63, 121], 30) := by decide +kernel
theorem dX5_isTrue_36 : decode cX5_isTrue 36 = .ok (.iload_n 2, 1) := by decide +kernel
theorem dX5_isTrue_37 : decode cX5_isTrue 37 = .ok (.aload_n 0, 1) := by decide +kernel
theorem dX5_isTrue_38 : decode cX5_isTrue 38 = .ok (.getfield 13, 3) := by decide +kernel
theorem dX5_isTrue_41 : decode cX5_isTrue 41 = .ok (.if_icmp .ge 7, 3) := by decide +kernel
theorem dX5_isTrue_44 : decode cX5_isTrue 44 = .ok (.iconst 1, 1) := by decide +kernel
theorem dX5_isTrue_45 : decode cX5_isTrue 45 = .ok (.goto 4, 3) := by decide +kernel
theorem dX5_isTrue_48 : decode cX5_isTrue 48 = .ok (.iconst 0, 1) := by decide +kernel
theorem dX5_isTrue_49 : decode cX5_isTrue 49 = .ok (.ireturn, 1) := by decide +kernel
theorem dX5_isTrue_50 : decode cX5_isTrue 50 = .ok (.iload_n 2, 1) := by decide +kernel
theorem dX5_isTrue_51 : decode cX5_isTrue 51 = .ok (.aload_n 0, 1) := by decide +kernel
theorem dX5_isTrue_52 : decode cX5_isTrue 52 = .ok (.getfield 7, 3) := by decide +kernel
theorem dX5_isTrue_55 : decode cX5_isTrue 55 = .ok (.aload_n 0, 1) := by decide +kernel
theorem dX5_isTrue_56 : decode cX5_isTrue 56 = .ok (.getfield 13, 3) := by decide +kernel
theorem dX5_isTrue_59 : decode cX5_isTrue 59 = .ok (.isub, 1) := by decide +kernel
theorem dX5_isTrue_60 : decode cX5_isTrue 60 = .ok (.if_icmp .lt 7, 3) := by decide +kernel
theorem dX5_isTrue_63 : decode cX5_isTrue 63 = .ok (.iconst 1, 1) := by decide +kernel
theorem dX5_isTrue_64 : decode cX5_isTrue 64 = .ok (.goto 4, 3) := by decide +kernel
theorem dX5_isTrue_67 : decode cX5_isTrue 67 = .ok (.iconst 0, 1) := by decide +kernel
theorem dX5_isTrue_68 : decode cX5_isTrue 68 = .ok (.ireturn, 1) := by decide +kernel
theorem dX5_isTrue_69 : decode cX5_isTrue 69 = .ok (.aload_n 0, 1) := by decide +kernel
theorem dX5_isTrue_70 : decode cX5_isTrue 70 = .ok (.getfield 13, 3) := by decide +kernel
theorem dX5_isTrue_73 : decode cX5_isTrue 73 = .ok (.ifCond .eq 14, 3) := by decide +kernel
theorem dX5_isTrue_76 : decode cX5_isTrue 76 = .ok (.aload_n 0, 1) := by decide +kernel
theorem dX5_isTrue_77 : decode cX5_isTrue 77 = .ok (.getfield 13, 3) := by decide +kernel
theorem dX5_isTrue_80 : decode cX5_isTrue 80 = .ok (.aload_n 0, 1) := by decide +kernel
theorem dX5_isTrue_81 : decode cX5_isTrue 81 = .ok (.getfield 7, 3) := by decide +kernel
theorem dX5_isTrue_84 : decode cX5_isTrue 84 = .ok (.if_icmp .ne 17, 3) := by decide +kernel
theorem dX5_isTrue_87 : decode cX5_isTrue 87 = .ok (.iload_n 2, 1) := by decide +kernel
theorem dX5_isTrue_88 : decode cX5_isTrue 88 = .ok (.aload_n 0, 1) := by decide +kernel
theorem dX5_isTrue_89 : decode cX5_isTrue 89 = .ok (.getfield 13, 3) := by decide +kernel
theorem dX5_isTrue_92 : decode cX5_isTrue 92 = .ok (.if_icmp .ge 7, 3) := by decide +kernel
theorem dX5_isTrue_95 : decode cX5_isTrue 95 = .ok (.iconst 1, 1) := by decide +kernel
theorem dX5_isTrue_96 : decode cX5_isTrue 96 = .ok (.goto 4, 3) := by decide +kernel
theorem dX5_isTrue_99 : decode cX5_isTrue 99 = .ok (.iconst 0, 1) := by decide +kernel
theorem dX5_isTrue_100 : decode cX5_isTrue 100 = .ok (.ireturn, 1) := by decide +kernel
theorem dX5_isTrue_101 : decode cX5_isTrue 101 = .ok (.iload_n 2, 1) := by decide +kernel
theorem dX5_isTrue_102 : decode cX5_isTrue 102 = .ok (.aload_n 0, 1) := by decide +kernel
theorem dX5_isTrue_103 : decode cX5_isTrue 103 = .ok (.getfield 13, 3) := by decide +kernel
theorem dX5_isTrue_106 : decode cX5_isTrue 106 = .ok (.iconst 1, 1) := by decide +kernel
theorem dX5_isTrue_107 : decode cX5_isTrue 107 = .ok (.isub, 1) := by decide +kernel
theorem dX5_isTrue_108 : decode cX5_isTrue 108 = .ok (.if_icmp .lt 13, 3) := by decide +kernel
theorem dX5_isTrue_111 : decode cX5_isTrue 111 = .ok (.iload_n 2, 1) := by decide +kernel
theorem dX5_isTrue_112 : decode cX5_isTrue 112 = .ok (.aload_n 0, 1) := by decide +kernel
theorem dX5_isTrue_113 : decode cX5_isTrue 113 = .ok (.getfield 7, 3) := by decide +kernel
theorem dX5_isTrue_116 : decode cX5_isTrue 116 = .ok (.iconst 1, 1) := by decide +kernel
theorem dX5_isTrue_117 : decode cX5_isTrue 117 = .ok (.isub, 1) := by decide +kernel
theorem dX5_isTrue_118 : decode cX5_isTrue 118 = .ok (.if_icmp .ne 7, 3) := by decide +kernel
theorem dX5_isTrue_121 : decode cX5_isTrue 121 = .ok (.iconst 1, 1) := by decide +kernel
theorem dX5_isTrue_122 : decode cX5_isTrue 122 = .ok (.goto 4, 3) := by decide +kernel
theorem dX5_isTrue_125 : decode cX5_isTrue 125 = .ok (.iconst 0, 1) := by decide +kernel
theorem dX5_isTrue_126 : decode cX5_isTrue 126 = .ok (.ireturn, 1) := by decide +kernel
theorem dX5_isTrue_127 : decode cX5_isTrue 127 = .ok (.aload_n 0, 1) := by decide +kernel
theorem dX5_isTrue_128 : decode cX5_isTrue 128 = .ok (.getfield 39, 3) := by decide +kernel
theorem dX5_isTrue_131 : decode cX5_isTrue 131 = .ok (.iload_n 1, 1) := by decide +kernel
theorem dX5_isTrue_132 : decode cX5_isTrue 132 = .ok (.iaload, 1) := by decide +kernel
theorem dX5_isTrue_133 : decode cX5_isTrue 133 = .ok (.iload_n 2, 1) := by decide +kernel
theorem dX5_isTrue_134 : decode cX5_isTrue 134 = .ok (.ishr, 1) := by decide +kernel
theorem dX5_isTrue_135 : decode cX5_isTrue 135 = .ok (.iconst 1, 1) := by decide +kernel
theorem dX5_isTrue_136 : decode cX5_isTrue 136 = .ok (.iand, 1) := by decide +kernel
theorem dX5_isTrue_137 : decode cX5_isTrue 137 = .ok (.iconst 1, 1) := by decide +kernel
theorem dX5_isTrue_138 : decode cX5_isTrue 138 = .ok (.if_icmp .ne 7, 3) := by decide +kernel
theorem dX5_isTrue_141 : decode cX5_isTrue 141 = .ok (.iconst 1, 1) := by decide +kernel
theorem dX5_isTrue_142 : decode cX5_isTrue 142 = .ok (.goto 4, 3) := by decide +kernel
theorem dX5_isTrue_145 : decode cX5_isTrue 145 = .ok (.iconst 0, 1) := by decide +kernel
theorem dX5_isTrue_146 : decode cX5_isTrue 146 = .ok (.ireturn, 1) := by decide +kernel
theorem dX5_isTrue_147 : decode cX5_isTrue 147 = .ok (.aload_n 0, 1) := by decide +kernel
theorem dX5_isTrue_148 : decode cX5_isTrue 148 = .ok (.getfield 39, 3) := by decide +kernel
theorem dX5_isTrue_151 : decode cX5_isTrue 151 = .ok (.iload_n 1, 1) := by decide +kernel
theorem dX5_isTrue_152 : decode cX5_isTrue 152 = .ok (.iaload, 1) := by decide +kernel
theorem dX5_isTrue_153 : decode cX5_isTrue 153 = .ok (.iload_n 2, 1) := by decide +kernel
theorem dX5_isTrue_154 : decode cX5_isTrue 154 = .ok (.ishr, 1) := by decide +kernel
theorem dX5_isTrue_155 : decode cX5_isTrue 155 = .ok (.iconst 1, 1) := by decide +kernel
theorem dX5_isTrue_156 : decode cX5_isTrue 156 = .ok (.iand, 1) := by decide +kernel
theorem dX5_isTrue_157 : decode cX5_isTrue 157 = .ok (.ifCond .ne 7, 3) := by decide +kernel
theorem dX5_isTrue_160 : decode cX5_isTrue 160 = .ok (.iconst 1, 1) := by decide +kernel
theorem dX5_isTrue_161 : decode cX5_isTrue 161 = .ok (.goto 4, 3) := by decide +kernel
theorem dX5_isTrue_164 : decode cX5_isTrue 164 = .ok (.iconst 0, 1) := by decide +kernel
theorem dX5_isTrue_165 : decode cX5_isTrue 165 = .ok (.ireturn, 1) := by decide +kernel
theorem dX5_isFree_0 : decode cX5_isFree 0 = .ok (.aload_n 0, 1) := by decide +kernel
theorem dX5_isFree_1 : decode cX5_isFree 1 = .ok (.getfield 36, 3) := by decide +kernel
theorem dX5_isFree_4 : decode cX5_isFree 4 = .ok (.iload_n 1, 1) := by decide +kernel
theorem dX5_isFree_5 : decode cX5_isFree 5 = .ok (.iaload, 1) := by decide +kernel
theorem dX5_isFree_6 : decode cX5_isFree 6 = .ok (.ifCond .eq 14, 3) := by decide +kernel
theorem dX5_isFree_9 : decode cX5_isFree 9 = .ok (.aload_n 0, 1) := by decide +kernel
theorem dX5_isFree_10 : decode cX5_isFree 10 = .ok (.getfield 36, 3) := by decide +kernel
theorem dX5_isFree_13 : decode cX5_isFree 13 = .ok (.iload_n 1, 1) := by decide +kernel
theorem dX5_isFree_14 : decode cX5_isFree 14 = .ok (.iaload, 1) := by decide +kernel
theorem dX5_isFree_15 : decode cX5_isFree 15 = .ok (.bipush 6, 2) := by decide +kernel
theorem dX5_isFree_17 : decode cX5_isFree 17 = .ok (.if_icmp .ne 7, 3) := by decide +kernel
theorem dX5_isFree_20 : decode cX5_isFree 20 = .ok (.iconst 1, 1) := by decide +kernel
theorem dX5_isFree_21 : decode cX5_isFree 21 = .ok (.goto 4, 3) := by decide +kernel
theorem dX5_isFree_24 : decode cX5_isFree 24 = .ok (.iconst 0, 1) := by decide +kernel
theorem dX5_isFree_25 : decode cX5_isFree 25 = .ok (.ireturn, 1) := by decide +kernel
theorem dX5_isSo_0 : decode cX5_isSo 0 = .ok (.iload_n 2, 1) := by decide +kernel
theorem dX5_isSo_1 : decode cX5_isSo 1 = .ok (.aload_n 0, 1) := by decide +kernel
theorem dX5_isSo_2 : decode cX5_isSo 2 = .ok (.getfield 45, 3) := by decide +kernel
theorem dX5_isSo_5 : decode cX5_isSo 5 = .ok (.iload_n 1, 1) := by decide +kernel
theorem dX5_isSo_6 : decode cX5_isSo 6 = .ok (.iaload, 1) := by decide +kernel
theorem dX5_isSo_7 : decode cX5_isSo 7 = .ok (.ishr, 1) := by decide +kernel
theorem dX5_isSo_8 : decode cX5_isSo 8 = .ok (.iconst 1, 1) := by decide +kernel
theorem dX5_isSo_9 : decode cX5_isSo 9 = .ok (.iand, 1) := by decide +kernel
theorem dX5_isSo_10 : decode cX5_isSo 10 = .ok (.aload_n 0, 1) := by decide +kernel
theorem dX5_isSo_11 : decode cX5_isSo 11 = .ok (.getfield 48, 3) := by decide +kernel
theorem dX5_isSo_14 : decode cX5_isSo 14 = .ok (.iload_n 1, 1) := by decide +kernel
theorem dX5_isSo_15 : decode cX5_isSo 15 = .ok (.iaload, 1) := by decide +kernel
theorem dX5_isSo_16 : decode cX5_isSo 16 = .ok (.if_icmp .ne 7, 3) := by decide +kernel
theorem dX5_isSo_19 : decode cX5_isSo 19 = .ok (.iconst 1, 1) := by decide +kernel
theorem dX5_isSo_20 : decode cX5_isSo 20 = .ok (.goto 4, 3) := by decide +kernel
theorem dX5_isSo_23 : decode cX5_isSo 23 = .ok (.iconst 0, 1) := by decide +kernel
theorem dX5_isSo_24 : decode cX5_isSo 24 = .ok (.ireturn, 1) := by decide +kernel
theorem dX5_canBeOf_0 : decode cX5_canBeOf 0 = .ok (.iconst 0, 1) := by decide +kernel
theorem dX5_canBeOf_1 : decode cX5_canBeOf 1 = .ok (.istore 4, 2) := by decide +kernel
theorem dX5_canBeOf_3 : decode cX5_canBeOf 3 = .ok (.iconst 0, 1) := by decide +kernel
theorem dX5_canBeOf_4 : decode cX5_canBeOf 4 = .ok (.istore 5, 2) := by decide +kernel
theorem dX5_canBeOf_6 : decode cX5_canBeOf 6 = .ok (.iconst 0, 1) := by decide +kernel
theorem dX5_canBeOf_7 : decode cX5_canBeOf 7 = .ok (.istore 6, 2) := by decide +kernel
theorem dX5_canBeOf_9 : decode cX5_canBeOf 9 = .ok (.aload_n 0, 1) := by decide +kernel
theorem dX5_canBeOf_10 : decode cX5_canBeOf 10 = .ok (.getfield 36, 3) := by decide +kernel
theorem dX5_canBeOf_13 : decode cX5_canBeOf 13 = .ok (.iload_n 1, 1) := by decide +kernel
theorem dX5_canBeOf_14 : decode cX5_canBeOf 14 = .ok (.iaload, 1) := by decide +kernel
theorem dX5_canBeOf_15 : decode cX5_canBeOf 15 = .ok (.istore 7, 2) := by decide +kernel
theorem dX5_canBeOf_17 : decode cX5_canBeOf 17 = .ok (.iconst (-1), 1) := by decide +kernel
theorem dX5_canBeOf_18 : decode cX5_canBeOf 18 = .ok (.istore 8, 2) := by decide +kernel
theorem dX5_canBeOf_20 : decode cX5_canBeOf 20 = .ok (.iconst 0, 1) := by decide +kernel
theorem dX5_canBeOf_21 : decode cX5_canBeOf 21 = .ok (.istore 9, 2) := by decide +kernel
theorem dX5_canBeOf_23 : decode cX5_canBeOf 23 = .ok (.iload 9, 2) := by decide +kernel
theorem dX5_canBeOf_25 : decode cX5_canBeOf 25 = .ok (.aload_n 0, 1) := by decide +kernel
theorem dX5_canBeOf_26 : decode cX5_canBeOf 26 = .ok (.getfield 118, 3) := by decide +kernel
theorem dX5_canBeOf_29 : decode cX5_canBeOf 29 = .ok (.if_icmp .ge 153, 3) := by decide +kernel
theorem dX5_canBeOf_32 : decode cX5_canBeOf 32 = .ok (.aload_n 0, 1) := by decide +kernel
theorem dX5_canBeOf_33 : decode cX5_canBeOf 33 = .ok (.getfield 42, 3) := by decide +kernel
theorem dX5_canBeOf_36 : decode cX5_canBeOf 36 = .ok (.iload 9, 2) := by decide +kernel
theorem dX5_canBeOf_38 : decode cX5_canBeOf 38 = .ok (.iaload, 1) := by decide +kernel
theorem dX5_canBeOf_39 : decode cX5_canBeOf 39 = .ok (.iload_n 1, 1) := by decide +kernel
theorem dX5_canBeOf_40 : decode cX5_canBeOf 40 = .ok (.if_icmp .eq 6, 3) := by decide +kernel
theorem dX5_canBeOf_43 : decode cX5_canBeOf 43 = .ok (.goto 133, 3) := by decide +kernel
theorem dX5_canBeOf_46 : decode cX5_canBeOf 46 = .ok (.iload_n 3, 1) := by decide +kernel
theorem dX5_canBeOf_47 : decode cX5_canBeOf 47 = .ok (.iload 9, 2) := by decide +kernel
theorem dX5_canBeOf_49 : decode cX5_canBeOf 49 = .ok (.ishr, 1) := by decide +kernel
theorem dX5_canBeOf_50 : decode cX5_canBeOf 50 = .ok (.iconst 1, 1) := by decide +kernel
theorem dX5_canBeOf_51 : decode cX5_canBeOf 51 = .ok (.iand, 1) := by decide +kernel
theorem dX5_canBeOf_52 : decode cX5_canBeOf 52 = .ok (.iconst 1, 1) := by decide +kernel
theorem dX5_canBeOf_53 : decode cX5_canBeOf 53 = .ok (.if_icmp .ne 7, 3) := by decide +kernel
theorem dX5_canBeOf_56 : decode cX5_canBeOf 56 = .ok (.iconst 1, 1) := by decide +kernel
theorem dX5_canBeOf_57 : decode cX5_canBeOf 57 = .ok (.goto 4, 3) := by decide +kernel
theorem dX5_canBeOf_60 : decode cX5_canBeOf 60 = .ok (.iconst 0, 1) := by decide +kernel
theorem dX5_canBeOf_61 : decode cX5_canBeOf 61 = .ok (.istore 10, 2) := by decide +kernel
theorem dX5_canBeOf_63 : decode cX5_canBeOf 63 = .ok (.aload_n 0, 1) := by decide +kernel
theorem dX5_canBeOf_64 : decode cX5_canBeOf 64 = .ok (.iload 9, 2) := by decide +kernel
theorem dX5_canBeOf_66 : decode cX5_canBeOf 66 = .ok (.iload_n 2, 1) := by decide +kernel
theorem dX5_canBeOf_67 : decode cX5_canBeOf 67 = .ok (.invokevirtual 124, 3) := by decide +kernel
theorem dX5_canBeOf_70 : decode cX5_canBeOf 70 = .ok (.istore 11, 2) := by decide +kernel
theorem dX5_canBeOf_72 : decode cX5_canBeOf 72 = .ok (.iload 10, 2) := by decide +kernel
theorem dX5_canBeOf_74 : decode cX5_canBeOf 74 = .ok (.ifCond .eq 71, 3) := by decide +kernel
theorem dX5_canBeOf_77 : decode cX5_canBeOf 77 = .ok (.iload 11, 2) := by decide +kernel
theorem dX5_canBeOf_79 : decode cX5_canBeOf 79 = .ok (.ifCond .eq 9, 3) := by decide +kernel
theorem dX5_canBeOf_82 : decode cX5_canBeOf 82 = .ok (.iinc 5 1, 3) := by decide +kernel
theorem dX5_canBeOf_85 : decode cX5_canBeOf 85 = .ok (.goto 6, 3) := by decide +kernel
theorem dX5_canBeOf_88 : decode cX5_canBeOf 88 = .ok (.iinc 6 1, 3) := by decide +kernel
theorem dX5_canBeOf_91 : decode cX5_canBeOf 91 = .ok (.aload_n 0, 1) := by decide +kernel
theorem dX5_canBeOf_92 : decode cX5_canBeOf 92 = .ok (.iload_n 1, 1) := by decide +kernel
theorem dX5_canBeOf_93 : decode cX5_canBeOf 93 = .ok (.invokevirtual 127, 3) := by decide +kernel
theorem dX5_canBeOf_96 : decode cX5_canBeOf 96 = .ok (.ifCond .ne 17, 3) := by decide +kernel
theorem dX5_canBeOf_99 : decode cX5_canBeOf 99 = .ok (.iload 11, 2) := by decide +kernel
theorem dX5_canBeOf_101 : decode cX5_canBeOf 101 = .ok (.aload_n 0, 1) := by decide +kernel
theorem dX5_canBeOf_102 : decode cX5_canBeOf 102 = .ok (.iload_n 1, 1) := by decide +kernel
theorem dX5_canBeOf_103 : decode cX5_canBeOf 103 = .ok (.iload 4, 2) := by decide +kernel
theorem dX5_canBeOf_105 : decode cX5_canBeOf 105 = .ok (.invokevirtual 109, 3) := by decide +kernel
theorem dX5_canBeOf_108 : decode cX5_canBeOf 108 = .ok (.if_icmp .eq 5, 3) := by decide +kernel
theorem dX5_canBeOf_111 : decode cX5_canBeOf 111 = .ok (.iconst 0, 1) := by decide +kernel
theorem dX5_canBeOf_112 : decode cX5_canBeOf 112 = .ok (.ireturn, 1) := by decide +kernel
theorem dX5_canBeOf_113 : decode cX5_canBeOf 113 = .ok (.iload 7, 2) := by decide +kernel
theorem dX5_canBeOf_115 : decode cX5_canBeOf 115 = .ok (.bipush 6, 2) := by decide +kernel
theorem dX5_canBeOf_117 : decode cX5_canBeOf 117 = .ok (.if_icmp .ne 28, 3) := by decide +kernel
theorem dX5_canBeOf_120 : decode cX5_canBeOf 120 = .ok (.iload 4, 2) := by decide +kernel
theorem dX5_canBeOf_122 : decode cX5_canBeOf 122 = .ok (.iconst 2, 1) := by decide +kernel
theorem dX5_canBeOf_123 : decode cX5_canBeOf 123 = .ok (.irem, 1) := by decide +kernel
theorem dX5_canBeOf_124 : decode cX5_canBeOf 124 = .ok (.iconst 1, 1) := by decide +kernel
theorem dX5_canBeOf_125 : decode cX5_canBeOf 125 = .ok (.if_icmp .ne 20, 3) := by decide +kernel
theorem dX5_canBeOf_128 : decode cX5_canBeOf 128 = .ok (.iload 8, 2) := by decide +kernel
theorem dX5_canBeOf_130 : decode cX5_canBeOf 130 = .ok (.iload 11, 2) := by decide +kernel
theorem dX5_canBeOf_132 : decode cX5_canBeOf 132 = .ok (.ifCond .eq 7, 3) := by decide +kernel
theorem dX5_canBeOf_135 : decode cX5_canBeOf 135 = .ok (.iconst 1, 1) := by decide +kernel
theorem dX5_canBeOf_136 : decode cX5_canBeOf 136 = .ok (.goto 4, 3) := by decide +kernel
theorem dX5_canBeOf_139 : decode cX5_canBeOf 139 = .ok (.iconst 0, 1) := by decide +kernel
theorem dX5_canBeOf_140 : decode cX5_canBeOf 140 = .ok (.if_icmp .ne 5, 3) := by decide +kernel
theorem dX5_canBeOf_143 : decode cX5_canBeOf 143 = .ok (.iconst 0, 1) := by decide +kernel
theorem dX5_canBeOf_144 : decode cX5_canBeOf 144 = .ok (.ireturn, 1) := by decide +kernel
theorem dX5_canBeOf_145 : decode cX5_canBeOf 145 = .ok (.iload 4, 2) := by decide +kernel
theorem dX5_canBeOf_147 : decode cX5_canBeOf 147 = .ok (.iconst 2, 1) := by decide +kernel
theorem dX5_canBeOf_148 : decode cX5_canBeOf 148 = .ok (.irem, 1) := by decide +kernel
theorem dX5_canBeOf_149 : decode cX5_canBeOf 149 = .ok (.ifCond .ne 21, 3) := by decide +kernel
theorem dX5_canBeOf_152 : decode cX5_canBeOf 152 = .ok (.iload 10, 2) := by decide +kernel
theorem dX5_canBeOf_154 : decode cX5_canBeOf 154 = .ok (.ifCond .eq 16, 3) := by decide +kernel
theorem dX5_canBeOf_157 : decode cX5_canBeOf 157 = .ok (.iload 11, 2) := by decide +kernel
theorem dX5_canBeOf_159 : decode cX5_canBeOf 159 = .ok (.ifCond .eq 7, 3) := by decide +kernel
theorem dX5_canBeOf_162 : decode cX5_canBeOf 162 = .ok (.iconst 1, 1) := by decide +kernel
theorem dX5_canBeOf_163 : decode cX5_canBeOf 163 = .ok (.goto 8, 3) := by decide +kernel
theorem dX5_canBeOf_166 : decode cX5_canBeOf 166 = .ok (.iconst 0, 1) := by decide +kernel
theorem dX5_canBeOf_167 : decode cX5_canBeOf 167 = .ok (.goto 4, 3) := by decide +kernel
theorem dX5_canBeOf_170 : decode cX5_canBeOf 170 = .ok (.iconst (-1), 1) := by decide +kernel
theorem dX5_canBeOf_171 : decode cX5_canBeOf 171 = .ok (.istore 8, 2) := by decide +kernel
theorem dX5_canBeOf_173 : decode cX5_canBeOf 173 = .ok (.iinc 4 1, 3) := by decide +kernel
theorem dX5_canBeOf_176 : decode cX5_canBeOf 176 = .ok (.iinc 9 1, 3) := by decide +kernel
theorem dX5_canBeOf_179 : decode cX5_canBeOf 179 = .ok (.goto (-156), 3) := by decide +kernel
theorem dX5_canBeOf_182 : decode cX5_canBeOf 182 = .ok (.iload 7, 2) := by decide +kernel
theorem dX5_canBeOf_184 : decode cX5_canBeOf 184 = .ok (.ifCond .ne 26, 3) := by decide +kernel
theorem dX5_canBeOf_187 : decode cX5_canBeOf 187 = .ok (.iload 5, 2) := by decide +kernel
theorem dX5_canBeOf_189 : decode cX5_canBeOf 189 = .ok (.aload_n 0, 1) := by decide +kernel
theorem dX5_canBeOf_190 : decode cX5_canBeOf 190 = .ok (.getfield 13, 3) := by decide +kernel
theorem dX5_canBeOf_193 : decode cX5_canBeOf 193 = .ok (.if_icmp .gt 21, 3) := by decide +kernel
theorem dX5_canBeOf_196 : decode cX5_canBeOf 196 = .ok (.iload 6, 2) := by decide +kernel
theorem dX5_canBeOf_198 : decode cX5_canBeOf 198 = .ok (.aload_n 0, 1) := by decide +kernel
theorem dX5_canBeOf_199 : decode cX5_canBeOf 199 = .ok (.getfield 7, 3) := by decide +kernel
theorem dX5_canBeOf_202 : decode cX5_canBeOf 202 = .ok (.aload_n 0, 1) := by decide +kernel
theorem dX5_canBeOf_203 : decode cX5_canBeOf 203 = .ok (.getfield 13, 3) := by decide +kernel
theorem dX5_canBeOf_206 : decode cX5_canBeOf 206 = .ok (.isub, 1) := by decide +kernel
theorem dX5_canBeOf_207 : decode cX5_canBeOf 207 = .ok (.if_icmp .gt 7, 3) := by decide +kernel
theorem dX5_canBeOf_210 : decode cX5_canBeOf 210 = .ok (.iconst 1, 1) := by decide +kernel
theorem dX5_canBeOf_211 : decode cX5_canBeOf 211 = .ok (.goto 4, 3) := by decide +kernel
theorem dX5_canBeOf_214 : decode cX5_canBeOf 214 = .ok (.iconst 0, 1) := by decide +kernel
theorem dX5_canBeOf_215 : decode cX5_canBeOf 215 = .ok (.ireturn, 1) := by decide +kernel
theorem dX5_worldsOf_0 : decode cX5_worldsOf 0 = .ok (.lconst 0, 1) := by decide +kernel
theorem dX5_worldsOf_1 : decode cX5_worldsOf 1 = .ok (.lstore_n 3, 1) := by decide +kernel
theorem dX5_worldsOf_2 : decode cX5_worldsOf 2 = .ok (.iconst 0, 1) := by decide +kernel
theorem dX5_worldsOf_3 : decode cX5_worldsOf 3 = .ok (.istore 5, 2) := by decide +kernel
theorem dX5_worldsOf_5 : decode cX5_worldsOf 5 = .ok (.iload 5, 2) := by decide +kernel
theorem dX5_worldsOf_7 : decode cX5_worldsOf 7 = .ok (.iconst 1, 1) := by decide +kernel
theorem dX5_worldsOf_8 : decode cX5_worldsOf 8 = .ok (.aload_n 0, 1) := by decide +kernel
theorem dX5_worldsOf_9 : decode cX5_worldsOf 9 = .ok (.getfield 89, 3) := by decide +kernel
theorem dX5_worldsOf_12 : decode cX5_worldsOf 12 = .ok (.ishl, 1) := by decide +kernel
theorem dX5_worldsOf_13 : decode cX5_worldsOf 13 = .ok (.if_icmp .ge 89, 3) := by decide +kernel
theorem dX5_worldsOf_16 : decode cX5_worldsOf 16 = .ok (.aload_n 0, 1) := by decide +kernel
theorem dX5_worldsOf_17 : decode cX5_worldsOf 17 = .ok (.getfield 25, 3) := by decide +kernel
theorem dX5_worldsOf_20 : decode cX5_worldsOf 20 = .ok (.iload 5, 2) := by decide +kernel
theorem dX5_worldsOf_22 : decode cX5_worldsOf 22 = .ok (.lshr, 1) := by decide +kernel
theorem dX5_worldsOf_23 : decode cX5_worldsOf 23 = .ok (.lconst 1, 1) := by decide +kernel
theorem dX5_worldsOf_24 : decode cX5_worldsOf 24 = .ok (.land, 1) := by decide +kernel
theorem dX5_worldsOf_25 : decode cX5_worldsOf 25 = .ok (.lconst 0, 1) := by decide +kernel
theorem dX5_worldsOf_26 : decode cX5_worldsOf 26 = .ok (.lcmp, 1) := by decide +kernel
theorem dX5_worldsOf_27 : decode cX5_worldsOf 27 = .ok (.ifCond .ne 6, 3) := by decide +kernel
theorem dX5_worldsOf_30 : decode cX5_worldsOf 30 = .ok (.goto 66, 3) := by decide +kernel
theorem dX5_worldsOf_33 : decode cX5_worldsOf 33 = .ok (.iconst 1, 1) := by decide +kernel
theorem dX5_worldsOf_34 : decode cX5_worldsOf 34 = .ok (.istore 6, 2) := by decide +kernel
theorem dX5_worldsOf_36 : decode cX5_worldsOf 36 = .ok (.iconst 0, 1) := by decide +kernel
theorem dX5_worldsOf_37 : decode cX5_worldsOf 37 = .ok (.istore 7, 2) := by decide +kernel
theorem dX5_worldsOf_39 : decode cX5_worldsOf 39 = .ok (.iload 7, 2) := by decide +kernel
theorem dX5_worldsOf_41 : decode cX5_worldsOf 41 = .ok (.aload_n 0, 1) := by decide +kernel
theorem dX5_worldsOf_42 : decode cX5_worldsOf 42 = .ok (.getfield 92, 3) := by decide +kernel
theorem dX5_worldsOf_45 : decode cX5_worldsOf 45 = .ok (.if_icmp .ge 39, 3) := by decide +kernel
theorem dX5_worldsOf_48 : decode cX5_worldsOf 48 = .ok (.iload 6, 2) := by decide +kernel
theorem dX5_worldsOf_50 : decode cX5_worldsOf 50 = .ok (.ifCond .eq 34, 3) := by decide +kernel
theorem dX5_worldsOf_53 : decode cX5_worldsOf 53 = .ok (.iload 7, 2) := by decide +kernel
theorem dX5_worldsOf_55 : decode cX5_worldsOf 55 = .ok (.iload_n 2, 1) := by decide +kernel
theorem dX5_worldsOf_56 : decode cX5_worldsOf 56 = .ok (.if_icmp .eq 15, 3) := by decide +kernel
theorem dX5_worldsOf_59 : decode cX5_worldsOf 59 = .ok (.aload_n 0, 1) := by decide +kernel
theorem dX5_worldsOf_60 : decode cX5_worldsOf 60 = .ok (.iload 7, 2) := by decide +kernel
theorem dX5_worldsOf_62 : decode cX5_worldsOf 62 = .ok (.iload 5, 2) := by decide +kernel
theorem dX5_worldsOf_64 : decode cX5_worldsOf 64 = .ok (.iload_n 1, 1) := by decide +kernel
theorem dX5_worldsOf_65 : decode cX5_worldsOf 65 = .ok (.invokevirtual 130, 3) := by decide +kernel
theorem dX5_worldsOf_68 : decode cX5_worldsOf 68 = .ok (.ifCond .eq 7, 3) := by decide +kernel
theorem dX5_worldsOf_71 : decode cX5_worldsOf 71 = .ok (.iconst 1, 1) := by decide +kernel
theorem dX5_worldsOf_72 : decode cX5_worldsOf 72 = .ok (.goto 4, 3) := by decide +kernel
theorem dX5_worldsOf_75 : decode cX5_worldsOf 75 = .ok (.iconst 0, 1) := by decide +kernel
theorem dX5_worldsOf_76 : decode cX5_worldsOf 76 = .ok (.istore 6, 2) := by decide +kernel
theorem dX5_worldsOf_78 : decode cX5_worldsOf 78 = .ok (.iinc 7 1, 3) := by decide +kernel
theorem dX5_worldsOf_81 : decode cX5_worldsOf 81 = .ok (.goto (-42), 3) := by decide +kernel
theorem dX5_worldsOf_84 : decode cX5_worldsOf 84 = .ok (.iload 6, 2) := by decide +kernel
theorem dX5_worldsOf_86 : decode cX5_worldsOf 86 = .ok (.ifCond .eq 10, 3) := by decide +kernel
theorem dX5_worldsOf_89 : decode cX5_worldsOf 89 = .ok (.lload_n 3, 1) := by decide +kernel
theorem dX5_worldsOf_90 : decode cX5_worldsOf 90 = .ok (.lconst 1, 1) := by decide +kernel
theorem dX5_worldsOf_91 : decode cX5_worldsOf 91 = .ok (.iload 5, 2) := by decide +kernel
theorem dX5_worldsOf_93 : decode cX5_worldsOf 93 = .ok (.lshl, 1) := by decide +kernel
theorem dX5_worldsOf_94 : decode cX5_worldsOf 94 = .ok (.lor, 1) := by decide +kernel
theorem dX5_worldsOf_95 : decode cX5_worldsOf 95 = .ok (.lstore_n 3, 1) := by decide +kernel
theorem dX5_worldsOf_96 : decode cX5_worldsOf 96 = .ok (.iinc 5 1, 3) := by decide +kernel
theorem dX5_worldsOf_99 : decode cX5_worldsOf 99 = .ok (.goto (-94), 3) := by decide +kernel
theorem dX5_worldsOf_102 : decode cX5_worldsOf 102 = .ok (.lload_n 3, 1) := by decide +kernel
theorem dX5_worldsOf_103 : decode cX5_worldsOf 103 = .ok (.lreturn, 1) := by decide +kernel
theorem dX5_worldsNow_0 : decode cX5_worldsNow 0 = .ok (.aload_n 0, 1) := by decide +kernel
theorem dX5_worldsNow_1 : decode cX5_worldsNow 1 = .ok (.iconst (-1), 1) := by decide +kernel
theorem dX5_worldsNow_2 : decode cX5_worldsNow 2 = .ok (.iconst (-1), 1) := by decide +kernel
theorem dX5_worldsNow_3 : decode cX5_worldsNow 3 = .ok (.invokevirtual 134, 3) := by decide +kernel
theorem dX5_worldsNow_6 : decode cX5_worldsNow 6 = .ok (.lreturn, 1) := by decide +kernel
theorem dX5_count_0 : decode cX5_count 0 = .ok (.iconst 0, 1) := by decide +kernel
theorem dX5_count_1 : decode cX5_count 1 = .ok (.istore_n 3, 1) := by decide +kernel
theorem dX5_count_2 : decode cX5_count 2 = .ok (.lload_n 1, 1) := by decide +kernel
theorem dX5_count_3 : decode cX5_count 3 = .ok (.lstore 4, 2) := by decide +kernel
theorem dX5_count_5 : decode cX5_count 5 = .ok (.lload 4, 2) := by decide +kernel
theorem dX5_count_7 : decode cX5_count 7 = .ok (.lconst 0, 1) := by decide +kernel
theorem dX5_count_8 : decode cX5_count 8 = .ok (.lcmp, 1) := by decide +kernel
theorem dX5_count_9 : decode cX5_count 9 = .ok (.ifCond .eq 18, 3) := by decide +kernel
theorem dX5_count_12 : decode cX5_count 12 = .ok (.iinc 3 1, 3) := by decide +kernel
theorem dX5_count_15 : decode cX5_count 15 = .ok (.lload 4, 2) := by decide +kernel
theorem dX5_count_17 : decode cX5_count 17 = .ok (.lload 4, 2) := by decide +kernel
theorem dX5_count_19 : decode cX5_count 19 = .ok (.lconst 1, 1) := by decide +kernel
theorem dX5_count_20 : decode cX5_count 20 = .ok (.lsub, 1) := by decide +kernel
theorem dX5_count_21 : decode cX5_count 21 = .ok (.land, 1) := by decide +kernel
theorem dX5_count_22 : decode cX5_count 22 = .ok (.lstore 4, 2) := by decide +kernel
theorem dX5_count_24 : decode cX5_count 24 = .ok (.goto (-19), 3) := by decide +kernel
theorem dX5_count_27 : decode cX5_count 27 = .ok (.iload_n 3, 1) := by decide +kernel
theorem dX5_count_28 : decode cX5_count 28 = .ok (.ireturn, 1) := by decide +kernel
theorem dX5_adds_0 : decode cX5_adds 0 = .ok (.aload_n 0, 1) := by decide +kernel
theorem dX5_adds_1 : decode cX5_adds 1 = .ok (.getfield 42, 3) := by decide +kernel
theorem dX5_adds_4 : decode cX5_adds 4 = .ok (.aload_n 0, 1) := by decide +kernel
theorem dX5_adds_5 : decode cX5_adds 5 = .ok (.getfield 118, 3) := by decide +kernel
theorem dX5_adds_8 : decode cX5_adds 8 = .ok (.iload_n 1, 1) := by decide +kernel
theorem dX5_adds_9 : decode cX5_adds 9 = .ok (.iastore, 1) := by decide +kernel
theorem dX5_adds_10 : decode cX5_adds 10 = .ok (.aload_n 0, 1) := by decide +kernel
theorem dX5_adds_11 : decode cX5_adds 11 = .ok (.getfield 45, 3) := by decide +kernel
theorem dX5_adds_14 : decode cX5_adds 14 = .ok (.aload_n 0, 1) := by decide +kernel
theorem dX5_adds_15 : decode cX5_adds 15 = .ok (.getfield 118, 3) := by decide +kernel
theorem dX5_adds_18 : decode cX5_adds 18 = .ok (.iload_n 2, 1) := by decide +kernel
theorem dX5_adds_19 : decode cX5_adds 19 = .ok (.iastore, 1) := by decide +kernel
theorem dX5_adds_20 : decode cX5_adds 20 = .ok (.aload_n 0, 1) := by decide +kernel
theorem dX5_adds_21 : decode cX5_adds 21 = .ok (.getfield 48, 3) := by decide +kernel
theorem dX5_adds_24 : decode cX5_adds 24 = .ok (.aload_n 0, 1) := by decide +kernel
theorem dX5_adds_25 : decode cX5_adds 25 = .ok (.getfield 118, 3) := by decide +kernel
theorem dX5_adds_28 : decode cX5_adds 28 = .ok (.iload_n 3, 1) := by decide +kernel
theorem dX5_adds_29 : decode cX5_adds 29 = .ok (.iastore, 1) := by decide +kernel
theorem dX5_adds_30 : decode cX5_adds 30 = .ok (.aload_n 0, 1) := by decide +kernel
theorem dX5_adds_31 : decode cX5_adds 31 = .ok (.dup, 1) := by decide +kernel
theorem dX5_adds_32 : decode cX5_adds 32 = .ok (.getfield 118, 3) := by decide +kernel
theorem dX5_adds_35 : decode cX5_adds 35 = .ok (.iconst 1, 1) := by decide +kernel
theorem dX5_adds_36 : decode cX5_adds 36 = .ok (.iadd, 1) := by decide +kernel
theorem dX5_adds_37 : decode cX5_adds 37 = .ok (.putfield 118, 3) := by decide +kernel
theorem dX5_adds_40 : decode cX5_adds 40 = .ok (.return_, 1) := by decide +kernel
theorem dX5_isFull_0 : decode cX5_isFull 0 = .ok (.aload_n 0, 1) := by decide +kernel
theorem dX5_isFull_1 : decode cX5_isFull 1 = .ok (.iload_n 1, 1) := by decide +kernel
theorem dX5_isFull_2 : decode cX5_isFull 2 = .ok (.invokevirtual 106, 3) := by decide +kernel
theorem dX5_isFull_5 : decode cX5_isFull 5 = .ok (.aload_n 0, 1) := by decide +kernel
theorem dX5_isFull_6 : decode cX5_isFull 6 = .ok (.getfield 7, 3) := by decide +kernel
theorem dX5_isFull_9 : decode cX5_isFull 9 = .ok (.if_icmp .lt 7, 3) := by decide +kernel
theorem dX5_isFull_12 : decode cX5_isFull 12 = .ok (.iconst 1, 1) := by decide +kernel
theorem dX5_isFull_13 : decode cX5_isFull 13 = .ok (.goto 4, 3) := by decide +kernel
theorem dX5_isFull_16 : decode cX5_isFull 16 = .ok (.iconst 0, 1) := by decide +kernel
theorem dX5_isFull_17 : decode cX5_isFull 17 = .ok (.ireturn, 1) := by decide +kernel
theorem dX5_leaves_0 : decode cX5_leaves 0 = .ok (.aload_n 0, 1) := by decide +kernel
theorem dX5_leaves_1 : decode cX5_leaves 1 = .ok (.iload_n 1, 1) := by decide +kernel
theorem dX5_leaves_2 : decode cX5_leaves 2 = .ok (.iload_n 2, 1) := by decide +kernel
theorem dX5_leaves_3 : decode cX5_leaves 3 = .ok (.iload_n 3, 1) := by decide +kernel
theorem dX5_leaves_4 : decode cX5_leaves 4 = .ok (.invokevirtual 138, 3) := by decide +kernel
theorem dX5_leaves_7 : decode cX5_leaves 7 = .ok (.aload_n 0, 1) := by decide +kernel
theorem dX5_leaves_8 : decode cX5_leaves 8 = .ok (.aload_n 0, 1) := by decide +kernel
theorem dX5_leaves_9 : decode cX5_leaves 9 = .ok (.invokevirtual 142, 3) := by decide +kernel
theorem dX5_leaves_12 : decode cX5_leaves 12 = .ok (.invokevirtual 146, 3) := by decide +kernel
theorem dX5_leaves_15 : decode cX5_leaves 15 = .ok (.istore 4, 2) := by decide +kernel
theorem dX5_leaves_17 : decode cX5_leaves 17 = .ok (.aload_n 0, 1) := by decide +kernel
theorem dX5_leaves_18 : decode cX5_leaves 18 = .ok (.dup, 1) := by decide +kernel
theorem dX5_leaves_19 : decode cX5_leaves 19 = .ok (.getfield 118, 3) := by decide +kernel
theorem dX5_leaves_22 : decode cX5_leaves 22 = .ok (.iconst 1, 1) := by decide +kernel
theorem dX5_leaves_23 : decode cX5_leaves 23 = .ok (.isub, 1) := by decide +kernel
theorem dX5_leaves_24 : decode cX5_leaves 24 = .ok (.putfield 118, 3) := by decide +kernel
theorem dX5_leaves_27 : decode cX5_leaves 27 = .ok (.iload 4, 2) := by decide +kernel
theorem dX5_leaves_29 : decode cX5_leaves 29 = .ok (.ireturn, 1) := by decide +kernel
theorem dX5_say_0 : decode cX5_say 0 = .ok (.aload_n 0, 1) := by decide +kernel
theorem dX5_say_1 : decode cX5_say 1 = .ok (.iload_n 1, 1) := by decide +kernel
theorem dX5_say_2 : decode cX5_say 2 = .ok (.invokevirtual 103, 3) := by decide +kernel
theorem dX5_say_5 : decode cX5_say 5 = .ok (.ifCond .eq 11, 3) := by decide +kernel
theorem dX5_say_8 : decode cX5_say 8 = .ok (.aload_n 0, 1) := by decide +kernel
theorem dX5_say_9 : decode cX5_say 9 = .ok (.iload_n 2, 1) := by decide +kernel
theorem dX5_say_10 : decode cX5_say 10 = .ok (.invokevirtual 121, 3) := by decide +kernel
theorem dX5_say_13 : decode cX5_say 13 = .ok (.ifCond .ne 9, 3) := by decide +kernel
theorem dX5_say_16 : decode cX5_say 16 = .ok (.aload_n 0, 1) := by decide +kernel
theorem dX5_say_17 : decode cX5_say 17 = .ok (.iconst (-1), 1) := by decide +kernel
theorem dX5_say_18 : decode cX5_say 18 = .ok (.invokevirtual 99, 3) := by decide +kernel
theorem dX5_say_21 : decode cX5_say 21 = .ok (.ireturn, 1) := by decide +kernel
theorem dX5_say_22 : decode cX5_say 22 = .ok (.aload_n 0, 1) := by decide +kernel
theorem dX5_say_23 : decode cX5_say 23 = .ok (.iload_n 1, 1) := by decide +kernel
theorem dX5_say_24 : decode cX5_say 24 = .ok (.invokevirtual 150, 3) := by decide +kernel
theorem dX5_say_27 : decode cX5_say 27 = .ok (.ifCond .ne 21, 3) := by decide +kernel
theorem dX5_say_30 : decode cX5_say 30 = .ok (.aload_n 0, 1) := by decide +kernel
theorem dX5_say_31 : decode cX5_say 31 = .ok (.iload_n 1, 1) := by decide +kernel
theorem dX5_say_32 : decode cX5_say 32 = .ok (.iload_n 2, 1) := by decide +kernel
theorem dX5_say_33 : decode cX5_say 33 = .ok (.iload_n 3, 1) := by decide +kernel
theorem dX5_say_34 : decode cX5_say 34 = .ok (.ifCond .eq 7, 3) := by decide +kernel
theorem dX5_say_37 : decode cX5_say 37 = .ok (.iconst 1, 1) := by decide +kernel
theorem dX5_say_38 : decode cX5_say 38 = .ok (.goto 4, 3) := by decide +kernel
theorem dX5_say_41 : decode cX5_say 41 = .ok (.iconst 0, 1) := by decide +kernel
theorem dX5_say_42 : decode cX5_say 42 = .ok (.invokevirtual 153, 3) := by decide +kernel
theorem dX5_say_45 : decode cX5_say 45 = .ok (.ifCond .ne 10, 3) := by decide +kernel
theorem dX5_say_48 : decode cX5_say 48 = .ok (.aload_n 0, 1) := by decide +kernel
theorem dX5_say_49 : decode cX5_say 49 = .ok (.bipush (-6), 2) := by decide +kernel
theorem dX5_say_51 : decode cX5_say 51 = .ok (.invokevirtual 99, 3) := by decide +kernel
theorem dX5_say_54 : decode cX5_say 54 = .ok (.ireturn, 1) := by decide +kernel
theorem dX5_say_55 : decode cX5_say 55 = .ok (.aload_n 0, 1) := by decide +kernel
theorem dX5_say_56 : decode cX5_say 56 = .ok (.getfield 118, 3) := by decide +kernel
theorem dX5_say_59 : decode cX5_say 59 = .ok (.bipush 24, 2) := by decide +kernel
theorem dX5_say_61 : decode cX5_say 61 = .ok (.if_icmp .ne 10, 3) := by decide +kernel
theorem dX5_say_64 : decode cX5_say 64 = .ok (.aload_n 0, 1) := by decide +kernel
theorem dX5_say_65 : decode cX5_say 65 = .ok (.bipush (-7), 2) := by decide +kernel
theorem dX5_say_67 : decode cX5_say 67 = .ok (.invokevirtual 99, 3) := by decide +kernel
theorem dX5_say_70 : decode cX5_say 70 = .ok (.ireturn, 1) := by decide +kernel
theorem dX5_say_71 : decode cX5_say 71 = .ok (.aload_n 0, 1) := by decide +kernel
theorem dX5_say_72 : decode cX5_say 72 = .ok (.iload_n 1, 1) := by decide +kernel
theorem dX5_say_73 : decode cX5_say 73 = .ok (.iload_n 2, 1) := by decide +kernel
theorem dX5_say_74 : decode cX5_say 74 = .ok (.iload_n 3, 1) := by decide +kernel
theorem dX5_say_75 : decode cX5_say 75 = .ok (.ifCond .eq 7, 3) := by decide +kernel
theorem dX5_say_78 : decode cX5_say 78 = .ok (.iconst 1, 1) := by decide +kernel
theorem dX5_say_79 : decode cX5_say 79 = .ok (.goto 4, 3) := by decide +kernel
theorem dX5_say_82 : decode cX5_say 82 = .ok (.iconst 0, 1) := by decide +kernel
theorem dX5_say_83 : decode cX5_say 83 = .ok (.invokevirtual 138, 3) := by decide +kernel
theorem dX5_say_86 : decode cX5_say 86 = .ok (.aload_n 0, 1) := by decide +kernel
theorem dX5_say_87 : decode cX5_say 87 = .ok (.aload_n 0, 1) := by decide +kernel
theorem dX5_say_88 : decode cX5_say 88 = .ok (.invokevirtual 142, 3) := by decide +kernel
theorem dX5_say_91 : decode cX5_say 91 = .ok (.invokevirtual 146, 3) := by decide +kernel
theorem dX5_say_94 : decode cX5_say 94 = .ok (.ireturn, 1) := by decide +kernel
theorem dX5_unsay_0 : decode cX5_unsay 0 = .ok (.aload_n 0, 1) := by decide +kernel
theorem dX5_unsay_1 : decode cX5_unsay 1 = .ok (.getfield 118, 3) := by decide +kernel
theorem dX5_unsay_4 : decode cX5_unsay 4 = .ok (.ifCond .ne 10, 3) := by decide +kernel
theorem dX5_unsay_7 : decode cX5_unsay 7 = .ok (.aload_n 0, 1) := by decide +kernel
theorem dX5_unsay_8 : decode cX5_unsay 8 = .ok (.bipush (-6), 2) := by decide +kernel
theorem dX5_unsay_10 : decode cX5_unsay 10 = .ok (.invokevirtual 99, 3) := by decide +kernel
theorem dX5_unsay_13 : decode cX5_unsay 13 = .ok (.ireturn, 1) := by decide +kernel
theorem dX5_unsay_14 : decode cX5_unsay 14 = .ok (.aload_n 0, 1) := by decide +kernel
theorem dX5_unsay_15 : decode cX5_unsay 15 = .ok (.dup, 1) := by decide +kernel
theorem dX5_unsay_16 : decode cX5_unsay 16 = .ok (.getfield 118, 3) := by decide +kernel
theorem dX5_unsay_19 : decode cX5_unsay 19 = .ok (.iconst 1, 1) := by decide +kernel
theorem dX5_unsay_20 : decode cX5_unsay 20 = .ok (.isub, 1) := by decide +kernel
theorem dX5_unsay_21 : decode cX5_unsay 21 = .ok (.putfield 118, 3) := by decide +kernel
theorem dX5_unsay_24 : decode cX5_unsay 24 = .ok (.aload_n 0, 1) := by decide +kernel
theorem dX5_unsay_25 : decode cX5_unsay 25 = .ok (.getfield 118, 3) := by decide +kernel
theorem dX5_unsay_28 : decode cX5_unsay 28 = .ok (.ireturn, 1) := by decide +kernel
theorem dX5_sayingOf_0 : decode cX5_sayingOf 0 = .ok (.iload_n 1, 1) := by decide +kernel
theorem dX5_sayingOf_1 : decode cX5_sayingOf 1 = .ok (.ifCond .lt 40, 3) := by decide +kernel
theorem dX5_sayingOf_4 : decode cX5_sayingOf 4 = .ok (.iload_n 1, 1) := by decide +kernel
theorem dX5_sayingOf_5 : decode cX5_sayingOf 5 = .ok (.aload_n 0, 1) := by decide +kernel
theorem dX5_sayingOf_6 : decode cX5_sayingOf 6 = .ok (.getfield 118, 3) := by decide +kernel
theorem dX5_sayingOf_9 : decode cX5_sayingOf 9 = .ok (.if_icmp .ge 32, 3) := by decide +kernel
theorem dX5_sayingOf_12 : decode cX5_sayingOf 12 = .ok (.bipush 100, 2) := by decide +kernel
theorem dX5_sayingOf_14 : decode cX5_sayingOf 14 = .ok (.aload_n 0, 1) := by decide +kernel
theorem dX5_sayingOf_15 : decode cX5_sayingOf 15 = .ok (.getfield 42, 3) := by decide +kernel
theorem dX5_sayingOf_18 : decode cX5_sayingOf 18 = .ok (.iload_n 1, 1) := by decide +kernel
theorem dX5_sayingOf_19 : decode cX5_sayingOf 19 = .ok (.iaload, 1) := by decide +kernel
theorem dX5_sayingOf_20 : decode cX5_sayingOf 20 = .ok (.imul, 1) := by decide +kernel
theorem dX5_sayingOf_21 : decode cX5_sayingOf 21 = .ok (.bipush 10, 2) := by decide +kernel
theorem dX5_sayingOf_23 : decode cX5_sayingOf 23 = .ok (.aload_n 0, 1) := by decide +kernel
theorem dX5_sayingOf_24 : decode cX5_sayingOf 24 = .ok (.getfield 45, 3) := by decide +kernel
theorem dX5_sayingOf_27 : decode cX5_sayingOf 27 = .ok (.iload_n 1, 1) := by decide +kernel
theorem dX5_sayingOf_28 : decode cX5_sayingOf 28 = .ok (.iaload, 1) := by decide +kernel
theorem dX5_sayingOf_29 : decode cX5_sayingOf 29 = .ok (.imul, 1) := by decide +kernel
theorem dX5_sayingOf_30 : decode cX5_sayingOf 30 = .ok (.iadd, 1) := by decide +kernel
theorem dX5_sayingOf_31 : decode cX5_sayingOf 31 = .ok (.aload_n 0, 1) := by decide +kernel
theorem dX5_sayingOf_32 : decode cX5_sayingOf 32 = .ok (.getfield 48, 3) := by decide +kernel
theorem dX5_sayingOf_35 : decode cX5_sayingOf 35 = .ok (.iload_n 1, 1) := by decide +kernel
theorem dX5_sayingOf_36 : decode cX5_sayingOf 36 = .ok (.iaload, 1) := by decide +kernel
theorem dX5_sayingOf_37 : decode cX5_sayingOf 37 = .ok (.iadd, 1) := by decide +kernel
theorem dX5_sayingOf_38 : decode cX5_sayingOf 38 = .ok (.goto 4, 3) := by decide +kernel
theorem dX5_sayingOf_41 : decode cX5_sayingOf 41 = .ok (.iconst (-1), 1) := by decide +kernel
theorem dX5_sayingOf_42 : decode cX5_sayingOf 42 = .ok (.ireturn, 1) := by decide +kernel
theorem dX5_those_0 : decode cX5_those 0 = .ok (.lconst 0, 1) := by decide +kernel
theorem dX5_those_1 : decode cX5_those 1 = .ok (.lstore_n 3, 1) := by decide +kernel
theorem dX5_those_2 : decode cX5_those 2 = .ok (.iconst 0, 1) := by decide +kernel
theorem dX5_those_3 : decode cX5_those 3 = .ok (.istore 5, 2) := by decide +kernel
theorem dX5_those_5 : decode cX5_those 5 = .ok (.iload 5, 2) := by decide +kernel
theorem dX5_those_7 : decode cX5_those 7 = .ok (.iconst 1, 1) := by decide +kernel
theorem dX5_those_8 : decode cX5_those 8 = .ok (.aload_n 0, 1) := by decide +kernel
theorem dX5_those_9 : decode cX5_those 9 = .ok (.getfield 89, 3) := by decide +kernel
theorem dX5_those_12 : decode cX5_those 12 = .ok (.ishl, 1) := by decide +kernel
theorem dX5_those_13 : decode cX5_those 13 = .ok (.if_icmp .ge 26, 3) := by decide +kernel
theorem dX5_those_16 : decode cX5_those 16 = .ok (.iload 5, 2) := by decide +kernel
theorem dX5_those_18 : decode cX5_those 18 = .ok (.iload_n 1, 1) := by decide +kernel
theorem dX5_those_19 : decode cX5_those 19 = .ok (.ishr, 1) := by decide +kernel
theorem dX5_those_20 : decode cX5_those 20 = .ok (.iconst 1, 1) := by decide +kernel
theorem dX5_those_21 : decode cX5_those 21 = .ok (.iand, 1) := by decide +kernel
theorem dX5_those_22 : decode cX5_those 22 = .ok (.iload_n 2, 1) := by decide +kernel
theorem dX5_those_23 : decode cX5_those 23 = .ok (.if_icmp .ne 10, 3) := by decide +kernel
theorem dX5_those_26 : decode cX5_those 26 = .ok (.lload_n 3, 1) := by decide +kernel
theorem dX5_those_27 : decode cX5_those 27 = .ok (.lconst 1, 1) := by decide +kernel
theorem dX5_those_28 : decode cX5_those 28 = .ok (.iload 5, 2) := by decide +kernel
theorem dX5_those_30 : decode cX5_those 30 = .ok (.lshl, 1) := by decide +kernel
theorem dX5_those_31 : decode cX5_those 31 = .ok (.lor, 1) := by decide +kernel
theorem dX5_those_32 : decode cX5_those 32 = .ok (.lstore_n 3, 1) := by decide +kernel
theorem dX5_those_33 : decode cX5_those 33 = .ok (.iinc 5 1, 3) := by decide +kernel
theorem dX5_those_36 : decode cX5_those 36 = .ok (.goto (-31), 3) := by decide +kernel
theorem dX5_those_39 : decode cX5_those 39 = .ok (.lload_n 3, 1) := by decide +kernel
theorem dX5_those_40 : decode cX5_those 40 = .ok (.lreturn, 1) := by decide +kernel
theorem dX5_isLeft_0 : decode cX5_isLeft 0 = .ok (.aload_n 0, 1) := by decide +kernel
theorem dX5_isLeft_1 : decode cX5_isLeft 1 = .ok (.getfield 25, 3) := by decide +kernel
theorem dX5_isLeft_4 : decode cX5_isLeft 4 = .ok (.lstore_n 3, 1) := by decide +kernel
theorem dX5_isLeft_5 : decode cX5_isLeft 5 = .ok (.aload_n 0, 1) := by decide +kernel
theorem dX5_isLeft_6 : decode cX5_isLeft 6 = .ok (.dup, 1) := by decide +kernel
theorem dX5_isLeft_7 : decode cX5_isLeft 7 = .ok (.getfield 25, 3) := by decide +kernel
theorem dX5_isLeft_10 : decode cX5_isLeft 10 = .ok (.aload_n 0, 1) := by decide +kernel
theorem dX5_isLeft_11 : decode cX5_isLeft 11 = .ok (.iload_n 1, 1) := by decide +kernel
theorem dX5_isLeft_12 : decode cX5_isLeft 12 = .ok (.iload_n 2, 1) := by decide +kernel
theorem dX5_isLeft_13 : decode cX5_isLeft 13 = .ok (.invokevirtual 157, 3) := by decide +kernel
theorem dX5_isLeft_16 : decode cX5_isLeft 16 = .ok (.land, 1) := by decide +kernel
theorem dX5_isLeft_17 : decode cX5_isLeft 17 = .ok (.putfield 25, 3) := by decide +kernel
theorem dX5_isLeft_20 : decode cX5_isLeft 20 = .ok (.aload_n 0, 1) := by decide +kernel
theorem dX5_isLeft_21 : decode cX5_isLeft 21 = .ok (.invokevirtual 142, 3) := by decide +kernel
theorem dX5_isLeft_24 : decode cX5_isLeft 24 = .ok (.lconst 0, 1) := by decide +kernel
theorem dX5_isLeft_25 : decode cX5_isLeft 25 = .ok (.lcmp, 1) := by decide +kernel
theorem dX5_isLeft_26 : decode cX5_isLeft 26 = .ok (.ifCond .eq 5, 3) := by decide +kernel
theorem dX5_isLeft_29 : decode cX5_isLeft 29 = .ok (.iconst 1, 1) := by decide +kernel
theorem dX5_isLeft_30 : decode cX5_isLeft 30 = .ok (.ireturn, 1) := by decide +kernel
theorem dX5_isLeft_31 : decode cX5_isLeft 31 = .ok (.aload_n 0, 1) := by decide +kernel
theorem dX5_isLeft_32 : decode cX5_isLeft 32 = .ok (.lload_n 3, 1) := by decide +kernel
theorem dX5_isLeft_33 : decode cX5_isLeft 33 = .ok (.putfield 25, 3) := by decide +kernel
theorem dX5_isLeft_36 : decode cX5_isLeft 36 = .ok (.iconst 0, 1) := by decide +kernel
theorem dX5_isLeft_37 : decode cX5_isLeft 37 = .ok (.ireturn, 1) := by decide +kernel
theorem dX5_known_0 : decode cX5_known 0 = .ok (.aload_n 0, 1) := by decide +kernel
theorem dX5_known_1 : decode cX5_known 1 = .ok (.iload_n 1, 1) := by decide +kernel
theorem dX5_known_2 : decode cX5_known 2 = .ok (.invokevirtual 121, 3) := by decide +kernel
theorem dX5_known_5 : decode cX5_known 5 = .ok (.ifCond .ne 9, 3) := by decide +kernel
theorem dX5_known_8 : decode cX5_known 8 = .ok (.aload_n 0, 1) := by decide +kernel
theorem dX5_known_9 : decode cX5_known 9 = .ok (.iconst (-1), 1) := by decide +kernel
theorem dX5_known_10 : decode cX5_known 10 = .ok (.invokevirtual 99, 3) := by decide +kernel
theorem dX5_known_13 : decode cX5_known 13 = .ok (.ireturn, 1) := by decide +kernel
theorem dX5_known_14 : decode cX5_known 14 = .ok (.aload_n 0, 1) := by decide +kernel
theorem dX5_known_15 : decode cX5_known 15 = .ok (.iload_n 1, 1) := by decide +kernel
theorem dX5_known_16 : decode cX5_known 16 = .ok (.iload_n 2, 1) := by decide +kernel
theorem dX5_known_17 : decode cX5_known 17 = .ok (.ifCond .eq 7, 3) := by decide +kernel
theorem dX5_known_20 : decode cX5_known 20 = .ok (.iconst 1, 1) := by decide +kernel
theorem dX5_known_21 : decode cX5_known 21 = .ok (.goto 4, 3) := by decide +kernel
theorem dX5_known_24 : decode cX5_known 24 = .ok (.iconst 0, 1) := by decide +kernel
theorem dX5_known_25 : decode cX5_known 25 = .ok (.invokevirtual 160, 3) := by decide +kernel
theorem dX5_known_28 : decode cX5_known 28 = .ok (.ifCond .eq 14, 3) := by decide +kernel
theorem dX5_known_31 : decode cX5_known 31 = .ok (.aload_n 0, 1) := by decide +kernel
theorem dX5_known_32 : decode cX5_known 32 = .ok (.aload_n 0, 1) := by decide +kernel
theorem dX5_known_33 : decode cX5_known 33 = .ok (.getfield 25, 3) := by decide +kernel
theorem dX5_known_36 : decode cX5_known 36 = .ok (.invokevirtual 146, 3) := by decide +kernel
theorem dX5_known_39 : decode cX5_known 39 = .ok (.goto 9, 3) := by decide +kernel
theorem dX5_known_42 : decode cX5_known 42 = .ok (.aload_n 0, 1) := by decide +kernel
theorem dX5_known_43 : decode cX5_known 43 = .ok (.bipush (-6), 2) := by decide +kernel
theorem dX5_known_45 : decode cX5_known 45 = .ok (.invokevirtual 99, 3) := by decide +kernel
theorem dX5_known_48 : decode cX5_known 48 = .ok (.ireturn, 1) := by decide +kernel
theorem dX5_wrong_0 : decode cX5_wrong 0 = .ok (.aload_n 0, 1) := by decide +kernel
theorem dX5_wrong_1 : decode cX5_wrong 1 = .ok (.iload_n 1, 1) := by decide +kernel
theorem dX5_wrong_2 : decode cX5_wrong 2 = .ok (.putfield 163, 3) := by decide +kernel
theorem dX5_wrong_5 : decode cX5_wrong 5 = .ok (.iconst 0, 1) := by decide +kernel
theorem dX5_wrong_6 : decode cX5_wrong 6 = .ok (.ireturn, 1) := by decide +kernel
theorem dX5_word_0 : decode cX5_word 0 = .ok (.iconst 0, 1) := by decide +kernel
theorem dX5_word_1 : decode cX5_word 1 = .ok (.istore_n 1, 1) := by decide +kernel
theorem dX5_word_2 : decode cX5_word 2 = .ok (.aload_n 0, 1) := by decide +kernel
theorem dX5_word_3 : decode cX5_word 3 = .ok (.getfield 166, 3) := by decide +kernel
theorem dX5_word_6 : decode cX5_word 6 = .ok (.istore_n 2, 1) := by decide +kernel
theorem dX5_word_7 : decode cX5_word 7 = .ok (.iconst 0, 1) := by decide +kernel
theorem dX5_word_8 : decode cX5_word 8 = .ok (.istore_n 3, 1) := by decide +kernel
theorem dX5_word_9 : decode cX5_word 9 = .ok (.iload_n 3, 1) := by decide +kernel
theorem dX5_word_10 : decode cX5_word 10 = .ok (.iconst 5, 1) := by decide +kernel
theorem dX5_word_11 : decode cX5_word 11 = .ok (.if_icmp .ge 118, 3) := by decide +kernel
theorem dX5_word_14 : decode cX5_word 14 = .ok (.aload_n 0, 1) := by decide +kernel
theorem dX5_word_15 : decode cX5_word 15 = .ok (.getfield 166, 3) := by decide +kernel
theorem dX5_word_18 : decode cX5_word 18 = .ok (.istore 4, 2) := by decide +kernel
theorem dX5_word_20 : decode cX5_word 20 = .ok (.iload_n 1, 1) := by decide +kernel
theorem dX5_word_21 : decode cX5_word 21 = .ok (.istore 5, 2) := by decide +kernel
theorem dX5_word_23 : decode cX5_word 23 = .ok (.aload_n 0, 1) := by decide +kernel
theorem dX5_word_24 : decode cX5_word 24 = .ok (.getfield 70, 3) := by decide +kernel
theorem dX5_word_27 : decode cX5_word 27 = .ok (.iload 5, 2) := by decide +kernel
theorem dX5_word_29 : decode cX5_word 29 = .ok (.iaload, 1) := by decide +kernel
theorem dX5_word_30 : decode cX5_word 30 = .ok (.ifCond .eq 44, 3) := by decide +kernel
theorem dX5_word_33 : decode cX5_word 33 = .ok (.iload 4, 2) := by decide +kernel
theorem dX5_word_35 : decode cX5_word 35 = .ok (.aload_n 0, 1) := by decide +kernel
theorem dX5_word_36 : decode cX5_word 36 = .ok (.getfield 169, 3) := by decide +kernel
theorem dX5_word_39 : decode cX5_word 39 = .ok (.if_icmp .ge 35, 3) := by decide +kernel
theorem dX5_word_42 : decode cX5_word 42 = .ok (.aload_n 0, 1) := by decide +kernel
theorem dX5_word_43 : decode cX5_word 43 = .ok (.getfield 63, 3) := by decide +kernel
theorem dX5_word_46 : decode cX5_word 46 = .ok (.aload_n 0, 1) := by decide +kernel
theorem dX5_word_47 : decode cX5_word 47 = .ok (.getfield 172, 3) := by decide +kernel
theorem dX5_word_50 : decode cX5_word 50 = .ok (.iload 4, 2) := by decide +kernel
theorem dX5_word_52 : decode cX5_word 52 = .ok (.iadd, 1) := by decide +kernel
theorem dX5_word_53 : decode cX5_word 53 = .ok (.laload, 1) := by decide +kernel
theorem dX5_word_54 : decode cX5_word 54 = .ok (.l2i, 1) := by decide +kernel
theorem dX5_word_55 : decode cX5_word 55 = .ok (.aload_n 0, 1) := by decide +kernel
theorem dX5_word_56 : decode cX5_word 56 = .ok (.getfield 70, 3) := by decide +kernel
theorem dX5_word_59 : decode cX5_word 59 = .ok (.iload 5, 2) := by decide +kernel
theorem dX5_word_61 : decode cX5_word 61 = .ok (.iaload, 1) := by decide +kernel
theorem dX5_word_62 : decode cX5_word 62 = .ok (.if_icmp .ne 12, 3) := by decide +kernel
theorem dX5_word_65 : decode cX5_word 65 = .ok (.iinc 4 1, 3) := by decide +kernel
theorem dX5_word_68 : decode cX5_word 68 = .ok (.iinc 5 1, 3) := by decide +kernel
theorem dX5_word_71 : decode cX5_word 71 = .ok (.goto (-48), 3) := by decide +kernel
theorem dX5_word_74 : decode cX5_word 74 = .ok (.aload_n 0, 1) := by decide +kernel
theorem dX5_word_75 : decode cX5_word 75 = .ok (.getfield 70, 3) := by decide +kernel
theorem dX5_word_78 : decode cX5_word 78 = .ok (.iload 5, 2) := by decide +kernel
theorem dX5_word_80 : decode cX5_word 80 = .ok (.iaload, 1) := by decide +kernel
theorem dX5_word_81 : decode cX5_word 81 = .ok (.ifCond .ne 11, 3) := by decide +kernel
theorem dX5_word_84 : decode cX5_word 84 = .ok (.aload_n 0, 1) := by decide +kernel
theorem dX5_word_85 : decode cX5_word 85 = .ok (.iload 4, 2) := by decide +kernel
theorem dX5_word_87 : decode cX5_word 87 = .ok (.putfield 166, 3) := by decide +kernel
theorem dX5_word_90 : decode cX5_word 90 = .ok (.iload_n 3, 1) := by decide +kernel
theorem dX5_word_91 : decode cX5_word 91 = .ok (.ireturn, 1) := by decide +kernel
theorem dX5_word_92 : decode cX5_word 92 = .ok (.iload 4, 2) := by decide +kernel
theorem dX5_word_94 : decode cX5_word 94 = .ok (.iload_n 2, 1) := by decide +kernel
theorem dX5_word_95 : decode cX5_word 95 = .ok (.if_icmp .le 8, 3) := by decide +kernel
theorem dX5_word_98 : decode cX5_word 98 = .ok (.iload 4, 2) := by decide +kernel
theorem dX5_word_100 : decode cX5_word 100 = .ok (.goto 4, 3) := by decide +kernel
theorem dX5_word_103 : decode cX5_word 103 = .ok (.iload_n 2, 1) := by decide +kernel
theorem dX5_word_104 : decode cX5_word 104 = .ok (.istore_n 2, 1) := by decide +kernel
theorem dX5_word_105 : decode cX5_word 105 = .ok (.aload_n 0, 1) := by decide +kernel
theorem dX5_word_106 : decode cX5_word 106 = .ok (.getfield 70, 3) := by decide +kernel
theorem dX5_word_109 : decode cX5_word 109 = .ok (.iload_n 1, 1) := by decide +kernel
theorem dX5_word_110 : decode cX5_word 110 = .ok (.iaload, 1) := by decide +kernel
theorem dX5_word_111 : decode cX5_word 111 = .ok (.ifCond .eq 9, 3) := by decide +kernel
theorem dX5_word_114 : decode cX5_word 114 = .ok (.iinc 1 1, 3) := by decide +kernel
theorem dX5_word_117 : decode cX5_word 117 = .ok (.goto (-12), 3) := by decide +kernel
theorem dX5_word_120 : decode cX5_word 120 = .ok (.iinc 1 1, 3) := by decide +kernel
theorem dX5_word_123 : decode cX5_word 123 = .ok (.iinc 3 1, 3) := by decide +kernel
theorem dX5_word_126 : decode cX5_word 126 = .ok (.goto (-117), 3) := by decide +kernel
theorem dX5_word_129 : decode cX5_word 129 = .ok (.aload_n 0, 1) := by decide +kernel
theorem dX5_word_130 : decode cX5_word 130 = .ok (.iload_n 2, 1) := by decide +kernel
theorem dX5_word_131 : decode cX5_word 131 = .ok (.putfield 163, 3) := by decide +kernel
theorem dX5_word_134 : decode cX5_word 134 = .ok (.iconst (-1), 1) := by decide +kernel
theorem dX5_word_135 : decode cX5_word 135 = .ok (.ireturn, 1) := by decide +kernel
theorem dX5_isDigit_0 : decode cX5_isDigit 0 = .ok (.aload_n 0, 1) := by decide +kernel
theorem dX5_isDigit_1 : decode cX5_isDigit 1 = .ok (.getfield 166, 3) := by decide +kernel
theorem dX5_isDigit_4 : decode cX5_isDigit 4 = .ok (.aload_n 0, 1) := by decide +kernel
theorem dX5_isDigit_5 : decode cX5_isDigit 5 = .ok (.getfield 169, 3) := by decide +kernel
theorem dX5_isDigit_8 : decode cX5_isDigit 8 = .ok (.if_icmp .ge 47, 3) := by decide +kernel
theorem dX5_isDigit_11 : decode cX5_isDigit 11 = .ok (.aload_n 0, 1) := by decide +kernel
theorem dX5_isDigit_12 : decode cX5_isDigit 12 = .ok (.getfield 63, 3) := by decide +kernel
theorem dX5_isDigit_15 : decode cX5_isDigit 15 = .ok (.aload_n 0, 1) := by decide +kernel
theorem dX5_isDigit_16 : decode cX5_isDigit 16 = .ok (.getfield 172, 3) := by decide +kernel
theorem dX5_isDigit_19 : decode cX5_isDigit 19 = .ok (.aload_n 0, 1) := by decide +kernel
theorem dX5_isDigit_20 : decode cX5_isDigit 20 = .ok (.getfield 166, 3) := by decide +kernel
theorem dX5_isDigit_23 : decode cX5_isDigit 23 = .ok (.iadd, 1) := by decide +kernel
theorem dX5_isDigit_24 : decode cX5_isDigit 24 = .ok (.laload, 1) := by decide +kernel
theorem dX5_isDigit_25 : decode cX5_isDigit 25 = .ok (.l2i, 1) := by decide +kernel
theorem dX5_isDigit_26 : decode cX5_isDigit 26 = .ok (.bipush 48, 2) := by decide +kernel
theorem dX5_isDigit_28 : decode cX5_isDigit 28 = .ok (.if_icmp .lt 27, 3) := by decide +kernel
theorem dX5_isDigit_31 : decode cX5_isDigit 31 = .ok (.aload_n 0, 1) := by decide +kernel
theorem dX5_isDigit_32 : decode cX5_isDigit 32 = .ok (.getfield 63, 3) := by decide +kernel
theorem dX5_isDigit_35 : decode cX5_isDigit 35 = .ok (.aload_n 0, 1) := by decide +kernel
theorem dX5_isDigit_36 : decode cX5_isDigit 36 = .ok (.getfield 172, 3) := by decide +kernel
theorem dX5_isDigit_39 : decode cX5_isDigit 39 = .ok (.aload_n 0, 1) := by decide +kernel
theorem dX5_isDigit_40 : decode cX5_isDigit 40 = .ok (.getfield 166, 3) := by decide +kernel
theorem dX5_isDigit_43 : decode cX5_isDigit 43 = .ok (.iadd, 1) := by decide +kernel
theorem dX5_isDigit_44 : decode cX5_isDigit 44 = .ok (.laload, 1) := by decide +kernel
theorem dX5_isDigit_45 : decode cX5_isDigit 45 = .ok (.l2i, 1) := by decide +kernel
theorem dX5_isDigit_46 : decode cX5_isDigit 46 = .ok (.bipush 57, 2) := by decide +kernel
theorem dX5_isDigit_48 : decode cX5_isDigit 48 = .ok (.if_icmp .gt 7, 3) := by decide +kernel
theorem dX5_isDigit_51 : decode cX5_isDigit 51 = .ok (.iconst 1, 1) := by decide +kernel
theorem dX5_isDigit_52 : decode cX5_isDigit 52 = .ok (.goto 4, 3) := by decide +kernel
theorem dX5_isDigit_55 : decode cX5_isDigit 55 = .ok (.iconst 0, 1) := by decide +kernel
theorem dX5_isDigit_56 : decode cX5_isDigit 56 = .ok (.ireturn, 1) := by decide +kernel
theorem dX5_number_0 : decode cX5_number 0 = .ok (.aload_n 0, 1) := by decide +kernel
theorem dX5_number_1 : decode cX5_number 1 = .ok (.getfield 166, 3) := by decide +kernel
theorem dX5_number_4 : decode cX5_number 4 = .ok (.istore_n 3, 1) := by decide +kernel
theorem dX5_number_5 : decode cX5_number 5 = .ok (.aload_n 0, 1) := by decide +kernel
theorem dX5_number_6 : decode cX5_number 6 = .ok (.iconst 0, 1) := by decide +kernel
theorem dX5_number_7 : decode cX5_number 7 = .ok (.putfield 175, 3) := by decide +kernel
theorem dX5_number_10 : decode cX5_number 10 = .ok (.aload_n 0, 1) := by decide +kernel
theorem dX5_number_11 : decode cX5_number 11 = .ok (.invokevirtual 178, 3) := by decide +kernel
theorem dX5_number_14 : decode cX5_number 14 = .ok (.ifCond .ne 12, 3) := by decide +kernel
theorem dX5_number_17 : decode cX5_number 17 = .ok (.aload_n 0, 1) := by decide +kernel
theorem dX5_number_18 : decode cX5_number 18 = .ok (.aload_n 0, 1) := by decide +kernel
theorem dX5_number_19 : decode cX5_number 19 = .ok (.getfield 166, 3) := by decide +kernel
theorem dX5_number_22 : decode cX5_number 22 = .ok (.invokevirtual 182, 3) := by decide +kernel
theorem dX5_number_25 : decode cX5_number 25 = .ok (.ireturn, 1) := by decide +kernel
theorem dX5_number_26 : decode cX5_number 26 = .ok (.iconst 0, 1) := by decide +kernel
theorem dX5_number_27 : decode cX5_number 27 = .ok (.istore 4, 2) := by decide +kernel
theorem dX5_number_29 : decode cX5_number 29 = .ok (.iload 4, 2) := by decide +kernel
theorem dX5_number_31 : decode cX5_number 31 = .ok (.iconst 4, 1) := by decide +kernel
theorem dX5_number_32 : decode cX5_number 32 = .ok (.if_icmp .ge 56, 3) := by decide +kernel
theorem dX5_number_35 : decode cX5_number 35 = .ok (.aload_n 0, 1) := by decide +kernel
theorem dX5_number_36 : decode cX5_number 36 = .ok (.invokevirtual 178, 3) := by decide +kernel
theorem dX5_number_39 : decode cX5_number 39 = .ok (.ifCond .eq 49, 3) := by decide +kernel
theorem dX5_number_42 : decode cX5_number 42 = .ok (.aload_n 0, 1) := by decide +kernel
theorem dX5_number_43 : decode cX5_number 43 = .ok (.bipush 10, 2) := by decide +kernel
theorem dX5_number_45 : decode cX5_number 45 = .ok (.aload_n 0, 1) := by decide +kernel
theorem dX5_number_46 : decode cX5_number 46 = .ok (.getfield 175, 3) := by decide +kernel
theorem dX5_number_49 : decode cX5_number 49 = .ok (.imul, 1) := by decide +kernel
theorem dX5_number_50 : decode cX5_number 50 = .ok (.aload_n 0, 1) := by decide +kernel
theorem dX5_number_51 : decode cX5_number 51 = .ok (.getfield 63, 3) := by decide +kernel
theorem dX5_number_54 : decode cX5_number 54 = .ok (.aload_n 0, 1) := by decide +kernel
theorem dX5_number_55 : decode cX5_number 55 = .ok (.getfield 172, 3) := by decide +kernel
theorem dX5_number_58 : decode cX5_number 58 = .ok (.aload_n 0, 1) := by decide +kernel
theorem dX5_number_59 : decode cX5_number 59 = .ok (.getfield 166, 3) := by decide +kernel
theorem dX5_number_62 : decode cX5_number 62 = .ok (.iadd, 1) := by decide +kernel
theorem dX5_number_63 : decode cX5_number 63 = .ok (.laload, 1) := by decide +kernel
theorem dX5_number_64 : decode cX5_number 64 = .ok (.l2i, 1) := by decide +kernel
theorem dX5_number_65 : decode cX5_number 65 = .ok (.iadd, 1) := by decide +kernel
theorem dX5_number_66 : decode cX5_number 66 = .ok (.bipush 48, 2) := by decide +kernel
theorem dX5_number_68 : decode cX5_number 68 = .ok (.isub, 1) := by decide +kernel
theorem dX5_number_69 : decode cX5_number 69 = .ok (.putfield 175, 3) := by decide +kernel
theorem dX5_number_72 : decode cX5_number 72 = .ok (.aload_n 0, 1) := by decide +kernel
theorem dX5_number_73 : decode cX5_number 73 = .ok (.dup, 1) := by decide +kernel
theorem dX5_number_74 : decode cX5_number 74 = .ok (.getfield 166, 3) := by decide +kernel
theorem dX5_number_77 : decode cX5_number 77 = .ok (.iconst 1, 1) := by decide +kernel
theorem dX5_number_78 : decode cX5_number 78 = .ok (.iadd, 1) := by decide +kernel
theorem dX5_number_79 : decode cX5_number 79 = .ok (.putfield 166, 3) := by decide +kernel
theorem dX5_number_82 : decode cX5_number 82 = .ok (.iinc 4 1, 3) := by decide +kernel
theorem dX5_number_85 : decode cX5_number 85 = .ok (.goto (-56), 3) := by decide +kernel
theorem dX5_number_88 : decode cX5_number 88 = .ok (.aload_n 0, 1) := by decide +kernel
theorem dX5_number_89 : decode cX5_number 89 = .ok (.getfield 175, 3) := by decide +kernel
theorem dX5_number_92 : decode cX5_number 92 = .ok (.iload_n 1, 1) := by decide +kernel
theorem dX5_number_93 : decode cX5_number 93 = .ok (.if_icmp .lt 11, 3) := by decide +kernel
theorem dX5_number_96 : decode cX5_number 96 = .ok (.aload_n 0, 1) := by decide +kernel
theorem dX5_number_97 : decode cX5_number 97 = .ok (.getfield 175, 3) := by decide +kernel
theorem dX5_number_100 : decode cX5_number 100 = .ok (.iload_n 2, 1) := by decide +kernel
theorem dX5_number_101 : decode cX5_number 101 = .ok (.if_icmp .le 11, 3) := by decide +kernel
theorem dX5_number_104 : decode cX5_number 104 = .ok (.aload_n 0, 1) := by decide +kernel
theorem dX5_number_105 : decode cX5_number 105 = .ok (.iload_n 3, 1) := by decide +kernel
theorem dX5_number_106 : decode cX5_number 106 = .ok (.invokevirtual 182, 3) := by decide +kernel
theorem dX5_number_109 : decode cX5_number 109 = .ok (.ifCond .eq 7, 3) := by decide +kernel
theorem dX5_number_112 : decode cX5_number 112 = .ok (.iconst 1, 1) := by decide +kernel
theorem dX5_number_113 : decode cX5_number 113 = .ok (.goto 4, 3) := by decide +kernel
theorem dX5_number_116 : decode cX5_number 116 = .ok (.iconst 0, 1) := by decide +kernel
theorem dX5_number_117 : decode cX5_number 117 = .ok (.ireturn, 1) := by decide +kernel
theorem dX5_high_0 : decode cX5_high 0 = .ok (.iload_n 1, 1) := by decide +kernel
theorem dX5_high_1 : decode cX5_high 1 = .ok (.tableswitch 92 0 3 #[31, 34, 47, 63], 31) := by decide +kernel
theorem dX5_high_32 : decode cX5_high 32 = .ok (.bipush 99, 2) := by decide +kernel
theorem dX5_high_34 : decode cX5_high 34 = .ok (.ireturn, 1) := by decide +kernel
theorem dX5_high_35 : decode cX5_high 35 = .ok (.iload_n 2, 1) := by decide +kernel
theorem dX5_high_36 : decode cX5_high 36 = .ok (.ifCond .ne 8, 3) := by decide +kernel
theorem dX5_high_39 : decode cX5_high 39 = .ok (.bipush 6, 2) := by decide +kernel
theorem dX5_high_41 : decode cX5_high 41 = .ok (.goto 6, 3) := by decide +kernel
theorem dX5_high_44 : decode cX5_high 44 = .ok (.sipush 1023, 3) := by decide +kernel
theorem dX5_high_47 : decode cX5_high 47 = .ok (.ireturn, 1) := by decide +kernel
theorem dX5_high_48 : decode cX5_high 48 = .ok (.iload_n 2, 1) := by decide +kernel
theorem dX5_high_49 : decode cX5_high 49 = .ok (.ifCond .ne 8, 3) := by decide +kernel
theorem dX5_high_52 : decode cX5_high 52 = .ok (.bipush 10, 2) := by decide +kernel
theorem dX5_high_54 : decode cX5_high 54 = .ok (.goto 9, 3) := by decide +kernel
theorem dX5_high_57 : decode cX5_high 57 = .ok (.aload_n 0, 1) := by decide +kernel
theorem dX5_high_58 : decode cX5_high 58 = .ok (.getfield 73, 3) := by decide +kernel
theorem dX5_high_61 : decode cX5_high 61 = .ok (.iconst 0, 1) := by decide +kernel
theorem dX5_high_62 : decode cX5_high 62 = .ok (.iaload, 1) := by decide +kernel
theorem dX5_high_63 : decode cX5_high 63 = .ok (.ireturn, 1) := by decide +kernel
theorem dX5_high_64 : decode cX5_high 64 = .ok (.iload_n 2, 1) := by decide +kernel
theorem dX5_high_65 : decode cX5_high 65 = .ok (.ifCond .ne 12, 3) := by decide +kernel
theorem dX5_high_68 : decode cX5_high 68 = .ok (.aload_n 0, 1) := by decide +kernel
theorem dX5_high_69 : decode cX5_high 69 = .ok (.getfield 92, 3) := by decide +kernel
theorem dX5_high_72 : decode cX5_high 72 = .ok (.iconst 1, 1) := by decide +kernel
theorem dX5_high_73 : decode cX5_high 73 = .ok (.isub, 1) := by decide +kernel
theorem dX5_high_74 : decode cX5_high 74 = .ok (.goto 18, 3) := by decide +kernel
theorem dX5_high_77 : decode cX5_high 77 = .ok (.iload_n 2, 1) := by decide +kernel
theorem dX5_high_78 : decode cX5_high 78 = .ok (.iconst 1, 1) := by decide +kernel
theorem dX5_high_79 : decode cX5_high 79 = .ok (.if_icmp .ne 12, 3) := by decide +kernel
theorem dX5_high_82 : decode cX5_high 82 = .ok (.aload_n 0, 1) := by decide +kernel
theorem dX5_high_83 : decode cX5_high 83 = .ok (.getfield 89, 3) := by decide +kernel
theorem dX5_high_86 : decode cX5_high 86 = .ok (.iconst 1, 1) := by decide +kernel
theorem dX5_high_87 : decode cX5_high 87 = .ok (.isub, 1) := by decide +kernel
theorem dX5_high_88 : decode cX5_high 88 = .ok (.goto 4, 3) := by decide +kernel
theorem dX5_high_91 : decode cX5_high 91 = .ok (.iconst 1, 1) := by decide +kernel
theorem dX5_high_92 : decode cX5_high 92 = .ok (.ireturn, 1) := by decide +kernel
theorem dX5_high_93 : decode cX5_high 93 = .ok (.iload_n 2, 1) := by decide +kernel
theorem dX5_high_94 : decode cX5_high 94 = .ok (.ifCond .ne 12, 3) := by decide +kernel
theorem dX5_high_97 : decode cX5_high 97 = .ok (.aload_n 0, 1) := by decide +kernel
theorem dX5_high_98 : decode cX5_high 98 = .ok (.getfield 89, 3) := by decide +kernel
theorem dX5_high_101 : decode cX5_high 101 = .ok (.iconst 1, 1) := by decide +kernel
theorem dX5_high_102 : decode cX5_high 102 = .ok (.isub, 1) := by decide +kernel
theorem dX5_high_103 : decode cX5_high 103 = .ok (.goto 4, 3) := by decide +kernel
theorem dX5_high_106 : decode cX5_high 106 = .ok (.iconst 1, 1) := by decide +kernel
theorem dX5_high_107 : decode cX5_high 107 = .ok (.ireturn, 1) := by decide +kernel
theorem dX5_isWordFull_0 : decode cX5_isWordFull 0 = .ok (.iload_n 1, 1) := by decide +kernel
theorem dX5_isWordFull_1 : decode cX5_isWordFull 1 = .ok (.ifCond .ne 12, 3) := by decide +kernel
theorem dX5_isWordFull_4 : decode cX5_isWordFull 4 = .ok (.aload_n 0, 1) := by decide +kernel
theorem dX5_isWordFull_5 : decode cX5_isWordFull 5 = .ok (.getfield 89, 3) := by decide +kernel
theorem dX5_isWordFull_8 : decode cX5_isWordFull 8 = .ok (.bipush 6, 2) := by decide +kernel
theorem dX5_isWordFull_10 : decode cX5_isWordFull 10 = .ok (.if_icmp .eq 43, 3) := by decide +kernel
theorem dX5_isWordFull_13 : decode cX5_isWordFull 13 = .ok (.iload_n 1, 1) := by decide +kernel
theorem dX5_isWordFull_14 : decode cX5_isWordFull 14 = .ok (.iconst 1, 1) := by decide +kernel
theorem dX5_isWordFull_15 : decode cX5_isWordFull 15 = .ok (.if_icmp .ne 12, 3) := by decide +kernel
theorem dX5_isWordFull_18 : decode cX5_isWordFull 18 = .ok (.aload_n 0, 1) := by decide +kernel
theorem dX5_isWordFull_19 : decode cX5_isWordFull 19 = .ok (.getfield 92, 3) := by decide +kernel
theorem dX5_isWordFull_22 : decode cX5_isWordFull 22 = .ok (.bipush 6, 2) := by decide +kernel
theorem dX5_isWordFull_24 : decode cX5_isWordFull 24 = .ok (.if_icmp .eq 29, 3) := by decide +kernel
theorem dX5_isWordFull_27 : decode cX5_isWordFull 27 = .ok (.iload_n 1, 1) := by decide +kernel
theorem dX5_isWordFull_28 : decode cX5_isWordFull 28 = .ok (.iconst 2, 1) := by decide +kernel
theorem dX5_isWordFull_29 : decode cX5_isWordFull 29 = .ok (.if_icmp .ne 10, 3) := by decide +kernel
theorem dX5_isWordFull_32 : decode cX5_isWordFull 32 = .ok (.aload_n 0, 1) := by decide +kernel
theorem dX5_isWordFull_33 : decode cX5_isWordFull 33 = .ok (.getfield 118, 3) := by decide +kernel
theorem dX5_isWordFull_36 : decode cX5_isWordFull 36 = .ok (.ifCond .gt 17, 3) := by decide +kernel
theorem dX5_isWordFull_39 : decode cX5_isWordFull 39 = .ok (.iload_n 1, 1) := by decide +kernel
theorem dX5_isWordFull_40 : decode cX5_isWordFull 40 = .ok (.iconst 3, 1) := by decide +kernel
theorem dX5_isWordFull_41 : decode cX5_isWordFull 41 = .ok (.if_icmp .ne 16, 3) := by decide +kernel
theorem dX5_isWordFull_44 : decode cX5_isWordFull 44 = .ok (.aload_n 0, 1) := by decide +kernel
theorem dX5_isWordFull_45 : decode cX5_isWordFull 45 = .ok (.getfield 118, 3) := by decide +kernel
theorem dX5_isWordFull_48 : decode cX5_isWordFull 48 = .ok (.bipush 24, 2) := by decide +kernel
theorem dX5_isWordFull_50 : decode cX5_isWordFull 50 = .ok (.if_icmp .ne 7, 3) := by decide +kernel
theorem dX5_isWordFull_53 : decode cX5_isWordFull 53 = .ok (.iconst 1, 1) := by decide +kernel
theorem dX5_isWordFull_54 : decode cX5_isWordFull 54 = .ok (.goto 4, 3) := by decide +kernel
theorem dX5_isWordFull_57 : decode cX5_isWordFull 57 = .ok (.iconst 0, 1) := by decide +kernel
theorem dX5_isWordFull_58 : decode cX5_isWordFull 58 = .ok (.ireturn, 1) := by decide +kernel
theorem dX5_isWordAt_0 : decode cX5_isWordAt 0 = .ok (.iconst 0, 1) := by decide +kernel
theorem dX5_isWordAt_1 : decode cX5_isWordAt 1 = .ok (.istore_n 2, 1) := by decide +kernel
theorem dX5_isWordAt_2 : decode cX5_isWordAt 2 = .ok (.iconst 0, 1) := by decide +kernel
theorem dX5_isWordAt_3 : decode cX5_isWordAt 3 = .ok (.istore_n 3, 1) := by decide +kernel
theorem dX5_isWordAt_4 : decode cX5_isWordAt 4 = .ok (.iload_n 3, 1) := by decide +kernel
theorem dX5_isWordAt_5 : decode cX5_isWordAt 5 = .ok (.iload_n 1, 1) := by decide +kernel
theorem dX5_isWordAt_6 : decode cX5_isWordAt 6 = .ok (.if_icmp .ge 26, 3) := by decide +kernel
theorem dX5_isWordAt_9 : decode cX5_isWordAt 9 = .ok (.iload_n 3, 1) := by decide +kernel
theorem dX5_isWordAt_10 : decode cX5_isWordAt 10 = .ok (.aload_n 0, 1) := by decide +kernel
theorem dX5_isWordAt_11 : decode cX5_isWordAt 11 = .ok (.getfield 70, 3) := by decide +kernel
theorem dX5_isWordAt_14 : decode cX5_isWordAt 14 = .ok (.iload_n 2, 1) := by decide +kernel
theorem dX5_isWordAt_15 : decode cX5_isWordAt 15 = .ok (.iaload, 1) := by decide +kernel
theorem dX5_isWordAt_16 : decode cX5_isWordAt 16 = .ok (.ifCond .ne 7, 3) := by decide +kernel
theorem dX5_isWordAt_19 : decode cX5_isWordAt 19 = .ok (.iconst 1, 1) := by decide +kernel
theorem dX5_isWordAt_20 : decode cX5_isWordAt 20 = .ok (.goto 4, 3) := by decide +kernel
theorem dX5_isWordAt_23 : decode cX5_isWordAt 23 = .ok (.iconst 0, 1) := by decide +kernel
theorem dX5_isWordAt_24 : decode cX5_isWordAt 24 = .ok (.iadd, 1) := by decide +kernel
theorem dX5_isWordAt_25 : decode cX5_isWordAt 25 = .ok (.istore_n 3, 1) := by decide +kernel
theorem dX5_isWordAt_26 : decode cX5_isWordAt 26 = .ok (.iinc 2 1, 3) := by decide +kernel
theorem dX5_isWordAt_29 : decode cX5_isWordAt 29 = .ok (.goto (-25), 3) := by decide +kernel
theorem dX5_isWordAt_32 : decode cX5_isWordAt 32 = .ok (.aload_n 0, 1) := by decide +kernel
theorem dX5_isWordAt_33 : decode cX5_isWordAt 33 = .ok (.getfield 166, 3) := by decide +kernel
theorem dX5_isWordAt_36 : decode cX5_isWordAt 36 = .ok (.istore_n 3, 1) := by decide +kernel
theorem dX5_isWordAt_37 : decode cX5_isWordAt 37 = .ok (.aload_n 0, 1) := by decide +kernel
theorem dX5_isWordAt_38 : decode cX5_isWordAt 38 = .ok (.getfield 70, 3) := by decide +kernel
theorem dX5_isWordAt_41 : decode cX5_isWordAt 41 = .ok (.iload_n 2, 1) := by decide +kernel
theorem dX5_isWordAt_42 : decode cX5_isWordAt 42 = .ok (.iaload, 1) := by decide +kernel
theorem dX5_isWordAt_43 : decode cX5_isWordAt 43 = .ok (.bipush 32, 2) := by decide +kernel
theorem dX5_isWordAt_45 : decode cX5_isWordAt 45 = .ok (.if_icmp .le 41, 3) := by decide +kernel
theorem dX5_isWordAt_48 : decode cX5_isWordAt 48 = .ok (.iload_n 3, 1) := by decide +kernel
theorem dX5_isWordAt_49 : decode cX5_isWordAt 49 = .ok (.aload_n 0, 1) := by decide +kernel
theorem dX5_isWordAt_50 : decode cX5_isWordAt 50 = .ok (.getfield 169, 3) := by decide +kernel
theorem dX5_isWordAt_53 : decode cX5_isWordAt 53 = .ok (.if_icmp .ge 33, 3) := by decide +kernel
theorem dX5_isWordAt_56 : decode cX5_isWordAt 56 = .ok (.aload_n 0, 1) := by decide +kernel
theorem dX5_isWordAt_57 : decode cX5_isWordAt 57 = .ok (.getfield 63, 3) := by decide +kernel
theorem dX5_isWordAt_60 : decode cX5_isWordAt 60 = .ok (.aload_n 0, 1) := by decide +kernel
theorem dX5_isWordAt_61 : decode cX5_isWordAt 61 = .ok (.getfield 172, 3) := by decide +kernel
theorem dX5_isWordAt_64 : decode cX5_isWordAt 64 = .ok (.iload_n 3, 1) := by decide +kernel
theorem dX5_isWordAt_65 : decode cX5_isWordAt 65 = .ok (.iadd, 1) := by decide +kernel
theorem dX5_isWordAt_66 : decode cX5_isWordAt 66 = .ok (.laload, 1) := by decide +kernel
theorem dX5_isWordAt_67 : decode cX5_isWordAt 67 = .ok (.l2i, 1) := by decide +kernel
theorem dX5_isWordAt_68 : decode cX5_isWordAt 68 = .ok (.aload_n 0, 1) := by decide +kernel
theorem dX5_isWordAt_69 : decode cX5_isWordAt 69 = .ok (.getfield 70, 3) := by decide +kernel
theorem dX5_isWordAt_72 : decode cX5_isWordAt 72 = .ok (.iload_n 2, 1) := by decide +kernel
theorem dX5_isWordAt_73 : decode cX5_isWordAt 73 = .ok (.iaload, 1) := by decide +kernel
theorem dX5_isWordAt_74 : decode cX5_isWordAt 74 = .ok (.if_icmp .ne 12, 3) := by decide +kernel
theorem dX5_isWordAt_77 : decode cX5_isWordAt 77 = .ok (.iinc 3 1, 3) := by decide +kernel
theorem dX5_isWordAt_80 : decode cX5_isWordAt 80 = .ok (.iinc 2 1, 3) := by decide +kernel
theorem dX5_isWordAt_83 : decode cX5_isWordAt 83 = .ok (.goto (-46), 3) := by decide +kernel
theorem dX5_isWordAt_86 : decode cX5_isWordAt 86 = .ok (.aload_n 0, 1) := by decide +kernel
theorem dX5_isWordAt_87 : decode cX5_isWordAt 87 = .ok (.getfield 70, 3) := by decide +kernel
theorem dX5_isWordAt_90 : decode cX5_isWordAt 90 = .ok (.iload_n 2, 1) := by decide +kernel
theorem dX5_isWordAt_91 : decode cX5_isWordAt 91 = .ok (.iaload, 1) := by decide +kernel
theorem dX5_isWordAt_92 : decode cX5_isWordAt 92 = .ok (.bipush 32, 2) := by decide +kernel
theorem dX5_isWordAt_94 : decode cX5_isWordAt 94 = .ok (.if_icmp .gt 7, 3) := by decide +kernel
theorem dX5_isWordAt_97 : decode cX5_isWordAt 97 = .ok (.iconst 1, 1) := by decide +kernel
theorem dX5_isWordAt_98 : decode cX5_isWordAt 98 = .ok (.goto 4, 3) := by decide +kernel
theorem dX5_isWordAt_101 : decode cX5_isWordAt 101 = .ok (.iconst 0, 1) := by decide +kernel
theorem dX5_isWordAt_102 : decode cX5_isWordAt 102 = .ok (.ireturn, 1) := by decide +kernel
theorem dX5_item_0 : decode cX5_item 0 = .ok (.iconst 0, 1) := by decide +kernel
theorem dX5_item_1 : decode cX5_item 1 = .ok (.istore_n 1, 1) := by decide +kernel
theorem dX5_item_2 : decode cX5_item 2 = .ok (.iload_n 1, 1) := by decide +kernel
theorem dX5_item_3 : decode cX5_item 3 = .ok (.iconst 5, 1) := by decide +kernel
theorem dX5_item_4 : decode cX5_item 4 = .ok (.if_icmp .ge 34, 3) := by decide +kernel
theorem dX5_item_7 : decode cX5_item 7 = .ok (.aload_n 0, 1) := by decide +kernel
theorem dX5_item_8 : decode cX5_item 8 = .ok (.iload_n 1, 1) := by decide +kernel
theorem dX5_item_9 : decode cX5_item 9 = .ok (.invokevirtual 185, 3) := by decide +kernel
theorem dX5_item_12 : decode cX5_item 12 = .ok (.ifCond .eq 20, 3) := by decide +kernel
theorem dX5_item_15 : decode cX5_item 15 = .ok (.aload_n 0, 1) := by decide +kernel
theorem dX5_item_16 : decode cX5_item 16 = .ok (.iload_n 1, 1) := by decide +kernel
theorem dX5_item_17 : decode cX5_item 17 = .ok (.invokevirtual 188, 3) := by decide +kernel
theorem dX5_item_20 : decode cX5_item 20 = .ok (.ifCond .eq 12, 3) := by decide +kernel
theorem dX5_item_23 : decode cX5_item 23 = .ok (.aload_n 0, 1) := by decide +kernel
theorem dX5_item_24 : decode cX5_item 24 = .ok (.aload_n 0, 1) := by decide +kernel
theorem dX5_item_25 : decode cX5_item 25 = .ok (.getfield 166, 3) := by decide +kernel
theorem dX5_item_28 : decode cX5_item 28 = .ok (.invokevirtual 182, 3) := by decide +kernel
theorem dX5_item_31 : decode cX5_item 31 = .ok (.ireturn, 1) := by decide +kernel
theorem dX5_item_32 : decode cX5_item 32 = .ok (.iinc 1 1, 3) := by decide +kernel
theorem dX5_item_35 : decode cX5_item 35 = .ok (.goto (-33), 3) := by decide +kernel
theorem dX5_item_38 : decode cX5_item 38 = .ok (.aload_n 0, 1) := by decide +kernel
theorem dX5_item_39 : decode cX5_item 39 = .ok (.getfield 166, 3) := by decide +kernel
theorem dX5_item_42 : decode cX5_item 42 = .ok (.istore_n 1, 1) := by decide +kernel
theorem dX5_item_43 : decode cX5_item 43 = .ok (.aload_n 0, 1) := by decide +kernel
theorem dX5_item_44 : decode cX5_item 44 = .ok (.invokevirtual 191, 3) := by decide +kernel
theorem dX5_item_47 : decode cX5_item 47 = .ok (.istore_n 2, 1) := by decide +kernel
theorem dX5_item_48 : decode cX5_item 48 = .ok (.aload_n 0, 1) := by decide +kernel
theorem dX5_item_49 : decode cX5_item 49 = .ok (.getfield 166, 3) := by decide +kernel
theorem dX5_item_52 : decode cX5_item 52 = .ok (.istore_n 3, 1) := by decide +kernel
theorem dX5_item_53 : decode cX5_item 53 = .ok (.iload_n 2, 1) := by decide +kernel
theorem dX5_item_54 : decode cX5_item 54 = .ok (.iconst (-1), 1) := by decide +kernel
theorem dX5_item_55 : decode cX5_item 55 = .ok (.if_icmp .ne 5, 3) := by decide +kernel
theorem dX5_item_58 : decode cX5_item 58 = .ok (.iconst 0, 1) := by decide +kernel
theorem dX5_item_59 : decode cX5_item 59 = .ok (.ireturn, 1) := by decide +kernel
theorem dX5_item_60 : decode cX5_item 60 = .ok (.iload_n 2, 1) := by decide +kernel
theorem dX5_item_61 : decode cX5_item 61 = .ok (.ifCond .ne 12, 3) := by decide +kernel
theorem dX5_item_64 : decode cX5_item 64 = .ok (.aload_n 0, 1) := by decide +kernel
theorem dX5_item_65 : decode cX5_item 65 = .ok (.getfield 89, 3) := by decide +kernel
theorem dX5_item_68 : decode cX5_item 68 = .ok (.bipush 6, 2) := by decide +kernel
theorem dX5_item_70 : decode cX5_item 70 = .ok (.if_icmp .eq 43, 3) := by decide +kernel
theorem dX5_item_73 : decode cX5_item 73 = .ok (.iload_n 2, 1) := by decide +kernel
theorem dX5_item_74 : decode cX5_item 74 = .ok (.iconst 1, 1) := by decide +kernel
theorem dX5_item_75 : decode cX5_item 75 = .ok (.if_icmp .ne 12, 3) := by decide +kernel
theorem dX5_item_78 : decode cX5_item 78 = .ok (.aload_n 0, 1) := by decide +kernel
theorem dX5_item_79 : decode cX5_item 79 = .ok (.getfield 92, 3) := by decide +kernel
theorem dX5_item_82 : decode cX5_item 82 = .ok (.bipush 6, 2) := by decide +kernel
theorem dX5_item_84 : decode cX5_item 84 = .ok (.if_icmp .eq 29, 3) := by decide +kernel
theorem dX5_item_87 : decode cX5_item 87 = .ok (.iload_n 2, 1) := by decide +kernel
theorem dX5_item_88 : decode cX5_item 88 = .ok (.iconst 2, 1) := by decide +kernel
theorem dX5_item_89 : decode cX5_item 89 = .ok (.if_icmp .ne 10, 3) := by decide +kernel
theorem dX5_item_92 : decode cX5_item 92 = .ok (.aload_n 0, 1) := by decide +kernel
theorem dX5_item_93 : decode cX5_item 93 = .ok (.getfield 118, 3) := by decide +kernel
theorem dX5_item_96 : decode cX5_item 96 = .ok (.ifCond .gt 17, 3) := by decide +kernel
theorem dX5_item_99 : decode cX5_item 99 = .ok (.iload_n 2, 1) := by decide +kernel
theorem dX5_item_100 : decode cX5_item 100 = .ok (.iconst 3, 1) := by decide +kernel
theorem dX5_item_101 : decode cX5_item 101 = .ok (.if_icmp .ne 18, 3) := by decide +kernel
theorem dX5_item_104 : decode cX5_item 104 = .ok (.aload_n 0, 1) := by decide +kernel
theorem dX5_item_105 : decode cX5_item 105 = .ok (.getfield 118, 3) := by decide +kernel
theorem dX5_item_108 : decode cX5_item 108 = .ok (.bipush 24, 2) := by decide +kernel
theorem dX5_item_110 : decode cX5_item 110 = .ok (.if_icmp .ne 9, 3) := by decide +kernel
theorem dX5_item_113 : decode cX5_item 113 = .ok (.aload_n 0, 1) := by decide +kernel
theorem dX5_item_114 : decode cX5_item 114 = .ok (.iload_n 1, 1) := by decide +kernel
theorem dX5_item_115 : decode cX5_item 115 = .ok (.invokevirtual 182, 3) := by decide +kernel
theorem dX5_item_118 : decode cX5_item 118 = .ok (.ireturn, 1) := by decide +kernel
theorem dX5_item_119 : decode cX5_item 119 = .ok (.iload_n 2, 1) := by decide +kernel
theorem dX5_item_120 : decode cX5_item 120 = .ok (.ifCond .ne 7, 3) := by decide +kernel
theorem dX5_item_123 : decode cX5_item 123 = .ok (.iconst 1, 1) := by decide +kernel
theorem dX5_item_124 : decode cX5_item 124 = .ok (.goto 13, 3) := by decide +kernel
theorem dX5_item_127 : decode cX5_item 127 = .ok (.iload_n 2, 1) := by decide +kernel
theorem dX5_item_128 : decode cX5_item 128 = .ok (.iconst 3, 1) := by decide +kernel
theorem dX5_item_129 : decode cX5_item 129 = .ok (.if_icmp .ne 7, 3) := by decide +kernel
theorem dX5_item_132 : decode cX5_item 132 = .ok (.iconst 3, 1) := by decide +kernel
theorem dX5_item_133 : decode cX5_item 133 = .ok (.goto 4, 3) := by decide +kernel
theorem dX5_item_136 : decode cX5_item 136 = .ok (.iconst 2, 1) := by decide +kernel
theorem dX5_item_137 : decode cX5_item 137 = .ok (.istore 4, 2) := by decide +kernel
theorem dX5_item_139 : decode cX5_item 139 = .ok (.iconst 0, 1) := by decide +kernel
theorem dX5_item_140 : decode cX5_item 140 = .ok (.istore 5, 2) := by decide +kernel
theorem dX5_item_142 : decode cX5_item 142 = .ok (.iload 5, 2) := by decide +kernel
theorem dX5_item_144 : decode cX5_item 144 = .ok (.iload 4, 2) := by decide +kernel
theorem dX5_item_146 : decode cX5_item 146 = .ok (.if_icmp .ge 138, 3) := by decide +kernel
theorem dX5_item_149 : decode cX5_item 149 = .ok (.iload 5, 2) := by decide +kernel
theorem dX5_item_151 : decode cX5_item 151 = .ok (.ifCond .le 53, 3) := by decide +kernel
theorem dX5_item_154 : decode cX5_item 154 = .ok (.aload_n 0, 1) := by decide +kernel
theorem dX5_item_155 : decode cX5_item 155 = .ok (.getfield 166, 3) := by decide +kernel
theorem dX5_item_158 : decode cX5_item 158 = .ok (.aload_n 0, 1) := by decide +kernel
theorem dX5_item_159 : decode cX5_item 159 = .ok (.getfield 169, 3) := by decide +kernel
theorem dX5_item_162 : decode cX5_item 162 = .ok (.if_icmp .ge 23, 3) := by decide +kernel
theorem dX5_item_165 : decode cX5_item 165 = .ok (.aload_n 0, 1) := by decide +kernel
theorem dX5_item_166 : decode cX5_item 166 = .ok (.getfield 63, 3) := by decide +kernel
theorem dX5_item_169 : decode cX5_item 169 = .ok (.aload_n 0, 1) := by decide +kernel
theorem dX5_item_170 : decode cX5_item 170 = .ok (.getfield 172, 3) := by decide +kernel
theorem dX5_item_173 : decode cX5_item 173 = .ok (.aload_n 0, 1) := by decide +kernel
theorem dX5_item_174 : decode cX5_item 174 = .ok (.getfield 166, 3) := by decide +kernel
theorem dX5_item_177 : decode cX5_item 177 = .ok (.iadd, 1) := by decide +kernel
theorem dX5_item_178 : decode cX5_item 178 = .ok (.laload, 1) := by decide +kernel
theorem dX5_item_179 : decode cX5_item 179 = .ok (.l2i, 1) := by decide +kernel
theorem dX5_item_180 : decode cX5_item 180 = .ok (.bipush 32, 2) := by decide +kernel
theorem dX5_item_182 : decode cX5_item 182 = .ok (.if_icmp .eq 12, 3) := by decide +kernel
theorem dX5_item_185 : decode cX5_item 185 = .ok (.aload_n 0, 1) := by decide +kernel
theorem dX5_item_186 : decode cX5_item 186 = .ok (.aload_n 0, 1) := by decide +kernel
theorem dX5_item_187 : decode cX5_item 187 = .ok (.getfield 166, 3) := by decide +kernel
theorem dX5_item_190 : decode cX5_item 190 = .ok (.invokevirtual 182, 3) := by decide +kernel
theorem dX5_item_193 : decode cX5_item 193 = .ok (.ireturn, 1) := by decide +kernel
theorem dX5_item_194 : decode cX5_item 194 = .ok (.aload_n 0, 1) := by decide +kernel
theorem dX5_item_195 : decode cX5_item 195 = .ok (.dup, 1) := by decide +kernel
theorem dX5_item_196 : decode cX5_item 196 = .ok (.getfield 166, 3) := by decide +kernel
theorem dX5_item_199 : decode cX5_item 199 = .ok (.iconst 1, 1) := by decide +kernel
theorem dX5_item_200 : decode cX5_item 200 = .ok (.iadd, 1) := by decide +kernel
theorem dX5_item_201 : decode cX5_item 201 = .ok (.putfield 166, 3) := by decide +kernel
theorem dX5_item_204 : decode cX5_item 204 = .ok (.aload_n 0, 1) := by decide +kernel
theorem dX5_item_205 : decode cX5_item 205 = .ok (.getfield 166, 3) := by decide +kernel
theorem dX5_item_208 : decode cX5_item 208 = .ok (.istore_n 3, 1) := by decide +kernel
theorem dX5_item_209 : decode cX5_item 209 = .ok (.aload_n 0, 1) := by decide +kernel
theorem dX5_item_210 : decode cX5_item 210 = .ok (.iload_n 2, 1) := by decide +kernel
theorem dX5_item_211 : decode cX5_item 211 = .ok (.iconst 2, 1) := by decide +kernel
theorem dX5_item_212 : decode cX5_item 212 = .ok (.if_icmp .ne 12, 3) := by decide +kernel
theorem dX5_item_215 : decode cX5_item 215 = .ok (.iload 5, 2) := by decide +kernel
theorem dX5_item_217 : decode cX5_item 217 = .ok (.ifCond .ne 7, 3) := by decide +kernel
theorem dX5_item_220 : decode cX5_item 220 = .ok (.iconst 2, 1) := by decide +kernel
theorem dX5_item_221 : decode cX5_item 221 = .ok (.goto 4, 3) := by decide +kernel
theorem dX5_item_224 : decode cX5_item 224 = .ok (.iconst 0, 1) := by decide +kernel
theorem dX5_item_225 : decode cX5_item 225 = .ok (.aload_n 0, 1) := by decide +kernel
theorem dX5_item_226 : decode cX5_item 226 = .ok (.iload_n 2, 1) := by decide +kernel
theorem dX5_item_227 : decode cX5_item 227 = .ok (.iload 5, 2) := by decide +kernel
theorem dX5_item_229 : decode cX5_item 229 = .ok (.invokevirtual 195, 3) := by decide +kernel
theorem dX5_item_232 : decode cX5_item 232 = .ok (.invokevirtual 198, 3) := by decide +kernel
theorem dX5_item_235 : decode cX5_item 235 = .ok (.ifCond .ne 5, 3) := by decide +kernel
theorem dX5_item_238 : decode cX5_item 238 = .ok (.iconst 0, 1) := by decide +kernel
theorem dX5_item_239 : decode cX5_item 239 = .ok (.ireturn, 1) := by decide +kernel
theorem dX5_item_240 : decode cX5_item 240 = .ok (.iload_n 2, 1) := by decide +kernel
theorem dX5_item_241 : decode cX5_item 241 = .ok (.iconst 3, 1) := by decide +kernel
theorem dX5_item_242 : decode cX5_item 242 = .ok (.if_icmp .ne 25, 3) := by decide +kernel
theorem dX5_item_245 : decode cX5_item 245 = .ok (.iload 5, 2) := by decide +kernel
theorem dX5_item_247 : decode cX5_item 247 = .ok (.ifCond .ne 20, 3) := by decide +kernel
theorem dX5_item_250 : decode cX5_item 250 = .ok (.aload_n 0, 1) := by decide +kernel
theorem dX5_item_251 : decode cX5_item 251 = .ok (.aload_n 0, 1) := by decide +kernel
theorem dX5_item_252 : decode cX5_item 252 = .ok (.getfield 175, 3) := by decide +kernel
theorem dX5_item_255 : decode cX5_item 255 = .ok (.invokevirtual 150, 3) := by decide +kernel
theorem dX5_item_258 : decode cX5_item 258 = .ok (.ifCond .eq 9, 3) := by decide +kernel
theorem dX5_item_261 : decode cX5_item 261 = .ok (.aload_n 0, 1) := by decide +kernel
theorem dX5_item_262 : decode cX5_item 262 = .ok (.iload_n 3, 1) := by decide +kernel
theorem dX5_item_263 : decode cX5_item 263 = .ok (.invokevirtual 182, 3) := by decide +kernel
theorem dX5_item_266 : decode cX5_item 266 = .ok (.ireturn, 1) := by decide +kernel
theorem dX5_item_267 : decode cX5_item 267 = .ok (.aload_n 0, 1) := by decide +kernel
theorem dX5_item_268 : decode cX5_item 268 = .ok (.getfield 73, 3) := by decide +kernel
theorem dX5_item_271 : decode cX5_item 271 = .ok (.iload 5, 2) := by decide +kernel
theorem dX5_item_273 : decode cX5_item 273 = .ok (.aload_n 0, 1) := by decide +kernel
theorem dX5_item_274 : decode cX5_item 274 = .ok (.getfield 175, 3) := by decide +kernel
theorem dX5_item_277 : decode cX5_item 277 = .ok (.iastore, 1) := by decide +kernel
theorem dX5_item_278 : decode cX5_item 278 = .ok (.iinc 5 1, 3) := by decide +kernel
theorem dX5_item_281 : decode cX5_item 281 = .ok (.goto (-139), 3) := by decide +kernel
theorem dX5_item_284 : decode cX5_item 284 = .ok (.iload_n 2, 1) := by decide +kernel
theorem dX5_item_285 : decode cX5_item 285 = .ok (.tableswitch 140 0 3 #[31, 44, 63, 85], 31) := by decide +kernel
theorem dX5_item_316 : decode cX5_item 316 = .ok (.aload_n 0, 1) := by decide +kernel
theorem dX5_item_317 : decode cX5_item 317 = .ok (.aload_n 0, 1) := by decide +kernel
theorem dX5_item_318 : decode cX5_item 318 = .ok (.getfield 73, 3) := by decide +kernel
theorem dX5_item_321 : decode cX5_item 321 = .ok (.iconst 0, 1) := by decide +kernel
theorem dX5_item_322 : decode cX5_item 322 = .ok (.iaload, 1) := by decide +kernel
theorem dX5_item_323 : decode cX5_item 323 = .ok (.invokevirtual 113, 3) := by decide +kernel
theorem dX5_item_326 : decode cX5_item 326 = .ok (.pop, 1) := by decide +kernel
theorem dX5_item_327 : decode cX5_item 327 = .ok (.iconst 1, 1) := by decide +kernel
theorem dX5_item_328 : decode cX5_item 328 = .ok (.ireturn, 1) := by decide +kernel
theorem dX5_item_329 : decode cX5_item 329 = .ok (.aload_n 0, 1) := by decide +kernel
theorem dX5_item_330 : decode cX5_item 330 = .ok (.aload_n 0, 1) := by decide +kernel
theorem dX5_item_331 : decode cX5_item 331 = .ok (.getfield 73, 3) := by decide +kernel
theorem dX5_item_334 : decode cX5_item 334 = .ok (.iconst 0, 1) := by decide +kernel
theorem dX5_item_335 : decode cX5_item 335 = .ok (.iaload, 1) := by decide +kernel
theorem dX5_item_336 : decode cX5_item 336 = .ok (.aload_n 0, 1) := by decide +kernel
theorem dX5_item_337 : decode cX5_item 337 = .ok (.getfield 73, 3) := by decide +kernel
theorem dX5_item_340 : decode cX5_item 340 = .ok (.iconst 1, 1) := by decide +kernel
theorem dX5_item_341 : decode cX5_item 341 = .ok (.iaload, 1) := by decide +kernel
theorem dX5_item_342 : decode cX5_item 342 = .ok (.invokevirtual 115, 3) := by decide +kernel
theorem dX5_item_345 : decode cX5_item 345 = .ok (.pop, 1) := by decide +kernel
theorem dX5_item_346 : decode cX5_item 346 = .ok (.iconst 1, 1) := by decide +kernel
theorem dX5_item_347 : decode cX5_item 347 = .ok (.ireturn, 1) := by decide +kernel
theorem dX5_item_348 : decode cX5_item 348 = .ok (.aload_n 0, 1) := by decide +kernel
theorem dX5_item_349 : decode cX5_item 349 = .ok (.aload_n 0, 1) := by decide +kernel
theorem dX5_item_350 : decode cX5_item 350 = .ok (.getfield 73, 3) := by decide +kernel
theorem dX5_item_353 : decode cX5_item 353 = .ok (.iconst 0, 1) := by decide +kernel
theorem dX5_item_354 : decode cX5_item 354 = .ok (.iaload, 1) := by decide +kernel
theorem dX5_item_355 : decode cX5_item 355 = .ok (.putfield 7, 3) := by decide +kernel
theorem dX5_item_358 : decode cX5_item 358 = .ok (.aload_n 0, 1) := by decide +kernel
theorem dX5_item_359 : decode cX5_item 359 = .ok (.aload_n 0, 1) := by decide +kernel
theorem dX5_item_360 : decode cX5_item 360 = .ok (.getfield 73, 3) := by decide +kernel
theorem dX5_item_363 : decode cX5_item 363 = .ok (.iconst 1, 1) := by decide +kernel
theorem dX5_item_364 : decode cX5_item 364 = .ok (.iaload, 1) := by decide +kernel
theorem dX5_item_365 : decode cX5_item 365 = .ok (.putfield 13, 3) := by decide +kernel
theorem dX5_item_368 : decode cX5_item 368 = .ok (.iconst 1, 1) := by decide +kernel
theorem dX5_item_369 : decode cX5_item 369 = .ok (.ireturn, 1) := by decide +kernel
theorem dX5_item_370 : decode cX5_item 370 = .ok (.aload_n 0, 1) := by decide +kernel
theorem dX5_item_371 : decode cX5_item 371 = .ok (.aload_n 0, 1) := by decide +kernel
theorem dX5_item_372 : decode cX5_item 372 = .ok (.getfield 73, 3) := by decide +kernel
theorem dX5_item_375 : decode cX5_item 375 = .ok (.iconst 0, 1) := by decide +kernel
theorem dX5_item_376 : decode cX5_item 376 = .ok (.iaload, 1) := by decide +kernel
theorem dX5_item_377 : decode cX5_item 377 = .ok (.aload_n 0, 1) := by decide +kernel
theorem dX5_item_378 : decode cX5_item 378 = .ok (.getfield 73, 3) := by decide +kernel
theorem dX5_item_381 : decode cX5_item 381 = .ok (.iconst 1, 1) := by decide +kernel
theorem dX5_item_382 : decode cX5_item 382 = .ok (.iaload, 1) := by decide +kernel
theorem dX5_item_383 : decode cX5_item 383 = .ok (.aload_n 0, 1) := by decide +kernel
theorem dX5_item_384 : decode cX5_item 384 = .ok (.getfield 73, 3) := by decide +kernel
theorem dX5_item_387 : decode cX5_item 387 = .ok (.iconst 2, 1) := by decide +kernel
theorem dX5_item_388 : decode cX5_item 388 = .ok (.iaload, 1) := by decide +kernel
theorem dX5_item_389 : decode cX5_item 389 = .ok (.invokevirtual 153, 3) := by decide +kernel
theorem dX5_item_392 : decode cX5_item 392 = .ok (.ifCond .ne 9, 3) := by decide +kernel
theorem dX5_item_395 : decode cX5_item 395 = .ok (.aload_n 0, 1) := by decide +kernel
theorem dX5_item_396 : decode cX5_item 396 = .ok (.iload_n 3, 1) := by decide +kernel
theorem dX5_item_397 : decode cX5_item 397 = .ok (.invokevirtual 182, 3) := by decide +kernel
theorem dX5_item_400 : decode cX5_item 400 = .ok (.ireturn, 1) := by decide +kernel
theorem dX5_item_401 : decode cX5_item 401 = .ok (.aload_n 0, 1) := by decide +kernel
theorem dX5_item_402 : decode cX5_item 402 = .ok (.aload_n 0, 1) := by decide +kernel
theorem dX5_item_403 : decode cX5_item 403 = .ok (.getfield 73, 3) := by decide +kernel
theorem dX5_item_406 : decode cX5_item 406 = .ok (.iconst 0, 1) := by decide +kernel
theorem dX5_item_407 : decode cX5_item 407 = .ok (.iaload, 1) := by decide +kernel
theorem dX5_item_408 : decode cX5_item 408 = .ok (.aload_n 0, 1) := by decide +kernel
theorem dX5_item_409 : decode cX5_item 409 = .ok (.getfield 73, 3) := by decide +kernel
theorem dX5_item_412 : decode cX5_item 412 = .ok (.iconst 1, 1) := by decide +kernel
theorem dX5_item_413 : decode cX5_item 413 = .ok (.iaload, 1) := by decide +kernel
theorem dX5_item_414 : decode cX5_item 414 = .ok (.aload_n 0, 1) := by decide +kernel
theorem dX5_item_415 : decode cX5_item 415 = .ok (.getfield 73, 3) := by decide +kernel
theorem dX5_item_418 : decode cX5_item 418 = .ok (.iconst 2, 1) := by decide +kernel
theorem dX5_item_419 : decode cX5_item 419 = .ok (.iaload, 1) := by decide +kernel
theorem dX5_item_420 : decode cX5_item 420 = .ok (.invokevirtual 138, 3) := by decide +kernel
theorem dX5_item_423 : decode cX5_item 423 = .ok (.iconst 1, 1) := by decide +kernel
theorem dX5_item_424 : decode cX5_item 424 = .ok (.ireturn, 1) := by decide +kernel
theorem dX5_item_425 : decode cX5_item 425 = .ok (.aload_n 0, 1) := by decide +kernel
theorem dX5_item_426 : decode cX5_item 426 = .ok (.aload_n 0, 1) := by decide +kernel
theorem dX5_item_427 : decode cX5_item 427 = .ok (.getfield 73, 3) := by decide +kernel
theorem dX5_item_430 : decode cX5_item 430 = .ok (.iconst 0, 1) := by decide +kernel
theorem dX5_item_431 : decode cX5_item 431 = .ok (.iaload, 1) := by decide +kernel
theorem dX5_item_432 : decode cX5_item 432 = .ok (.aload_n 0, 1) := by decide +kernel
theorem dX5_item_433 : decode cX5_item 433 = .ok (.getfield 73, 3) := by decide +kernel
theorem dX5_item_436 : decode cX5_item 436 = .ok (.iconst 1, 1) := by decide +kernel
theorem dX5_item_437 : decode cX5_item 437 = .ok (.iaload, 1) := by decide +kernel
theorem dX5_item_438 : decode cX5_item 438 = .ok (.invokevirtual 160, 3) := by decide +kernel
theorem dX5_item_441 : decode cX5_item 441 = .ok (.ifCond .ne 11, 3) := by decide +kernel
theorem dX5_item_444 : decode cX5_item 444 = .ok (.aload_n 0, 1) := by decide +kernel
theorem dX5_item_445 : decode cX5_item 445 = .ok (.iload_n 3, 1) := by decide +kernel
theorem dX5_item_446 : decode cX5_item 446 = .ok (.invokevirtual 182, 3) := by decide +kernel
theorem dX5_item_449 : decode cX5_item 449 = .ok (.ifCond .eq 7, 3) := by decide +kernel
theorem dX5_item_452 : decode cX5_item 452 = .ok (.iconst 1, 1) := by decide +kernel
theorem dX5_item_453 : decode cX5_item 453 = .ok (.goto 4, 3) := by decide +kernel
theorem dX5_item_456 : decode cX5_item 456 = .ok (.iconst 0, 1) := by decide +kernel
theorem dX5_item_457 : decode cX5_item 457 = .ok (.ireturn, 1) := by decide +kernel
theorem dX5_keeps_0 : decode cX5_keeps 0 = .ok (.iconst 0, 1) := by decide +kernel
theorem dX5_keeps_1 : decode cX5_keeps 1 = .ok (.istore 6, 2) := by decide +kernel
theorem dX5_keeps_3 : decode cX5_keeps 3 = .ok (.iload 6, 2) := by decide +kernel
theorem dX5_keeps_5 : decode cX5_keeps 5 = .ok (.iload_n 2, 1) := by decide +kernel
theorem dX5_keeps_6 : decode cX5_keeps 6 = .ok (.if_icmp .ge 39, 3) := by decide +kernel
theorem dX5_keeps_9 : decode cX5_keeps 9 = .ok (.iload 5, 2) := by decide +kernel
theorem dX5_keeps_11 : decode cX5_keeps 11 = .ok (.ifCond .eq 17, 3) := by decide +kernel
theorem dX5_keeps_14 : decode cX5_keeps 14 = .ok (.aload_n 1, 1) := by decide +kernel
theorem dX5_keeps_15 : decode cX5_keeps 15 = .ok (.iload 6, 2) := by decide +kernel
theorem dX5_keeps_17 : decode cX5_keeps 17 = .ok (.aload_n 3, 1) := by decide +kernel
theorem dX5_keeps_18 : decode cX5_keeps 18 = .ok (.iload 4, 2) := by decide +kernel
theorem dX5_keeps_20 : decode cX5_keeps 20 = .ok (.iload 6, 2) := by decide +kernel
theorem dX5_keeps_22 : decode cX5_keeps 22 = .ok (.iadd, 1) := by decide +kernel
theorem dX5_keeps_23 : decode cX5_keeps 23 = .ok (.iaload, 1) := by decide +kernel
theorem dX5_keeps_24 : decode cX5_keeps 24 = .ok (.iastore, 1) := by decide +kernel
theorem dX5_keeps_25 : decode cX5_keeps 25 = .ok (.goto 14, 3) := by decide +kernel
theorem dX5_keeps_28 : decode cX5_keeps 28 = .ok (.aload_n 3, 1) := by decide +kernel
theorem dX5_keeps_29 : decode cX5_keeps 29 = .ok (.iload 4, 2) := by decide +kernel
theorem dX5_keeps_31 : decode cX5_keeps 31 = .ok (.iload 6, 2) := by decide +kernel
theorem dX5_keeps_33 : decode cX5_keeps 33 = .ok (.iadd, 1) := by decide +kernel
theorem dX5_keeps_34 : decode cX5_keeps 34 = .ok (.aload_n 1, 1) := by decide +kernel
theorem dX5_keeps_35 : decode cX5_keeps 35 = .ok (.iload 6, 2) := by decide +kernel
theorem dX5_keeps_37 : decode cX5_keeps 37 = .ok (.iaload, 1) := by decide +kernel
theorem dX5_keeps_38 : decode cX5_keeps 38 = .ok (.iastore, 1) := by decide +kernel
theorem dX5_keeps_39 : decode cX5_keeps 39 = .ok (.iinc 6 1, 3) := by decide +kernel
theorem dX5_keeps_42 : decode cX5_keeps 42 = .ok (.goto (-39), 3) := by decide +kernel
theorem dX5_keeps_45 : decode cX5_keeps 45 = .ok (.iload 4, 2) := by decide +kernel
theorem dX5_keeps_47 : decode cX5_keeps 47 = .ok (.iload_n 2, 1) := by decide +kernel
theorem dX5_keeps_48 : decode cX5_keeps 48 = .ok (.iadd, 1) := by decide +kernel
theorem dX5_keeps_49 : decode cX5_keeps 49 = .ok (.ireturn, 1) := by decide +kernel
theorem dX5_all_0 : decode cX5_all 0 = .ok (.aload_n 0, 1) := by decide +kernel
theorem dX5_all_1 : decode cX5_all 1 = .ok (.aload_n 0, 1) := by decide +kernel
theorem dX5_all_2 : decode cX5_all 2 = .ok (.getfield 33, 3) := by decide +kernel
theorem dX5_all_5 : decode cX5_all 5 = .ok (.bipush 6, 2) := by decide +kernel
theorem dX5_all_7 : decode cX5_all 7 = .ok (.aload_n 1, 1) := by decide +kernel
theorem dX5_all_8 : decode cX5_all 8 = .ok (.iconst 0, 1) := by decide +kernel
theorem dX5_all_9 : decode cX5_all 9 = .ok (.iload_n 3, 1) := by decide +kernel
theorem dX5_all_10 : decode cX5_all 10 = .ok (.invokevirtual 201, 3) := by decide +kernel
theorem dX5_all_13 : decode cX5_all 13 = .ok (.istore 4, 2) := by decide +kernel
theorem dX5_all_15 : decode cX5_all 15 = .ok (.aload_n 0, 1) := by decide +kernel
theorem dX5_all_16 : decode cX5_all 16 = .ok (.aload_n 0, 1) := by decide +kernel
theorem dX5_all_17 : decode cX5_all 17 = .ok (.getfield 36, 3) := by decide +kernel
theorem dX5_all_20 : decode cX5_all 20 = .ok (.bipush 6, 2) := by decide +kernel
theorem dX5_all_22 : decode cX5_all 22 = .ok (.aload_n 1, 1) := by decide +kernel
theorem dX5_all_23 : decode cX5_all 23 = .ok (.iload 4, 2) := by decide +kernel
theorem dX5_all_25 : decode cX5_all 25 = .ok (.iload_n 3, 1) := by decide +kernel
theorem dX5_all_26 : decode cX5_all 26 = .ok (.invokevirtual 201, 3) := by decide +kernel
theorem dX5_all_29 : decode cX5_all 29 = .ok (.istore 4, 2) := by decide +kernel
theorem dX5_all_31 : decode cX5_all 31 = .ok (.aload_n 0, 1) := by decide +kernel
theorem dX5_all_32 : decode cX5_all 32 = .ok (.aload_n 0, 1) := by decide +kernel
theorem dX5_all_33 : decode cX5_all 33 = .ok (.getfield 39, 3) := by decide +kernel
theorem dX5_all_36 : decode cX5_all 36 = .ok (.bipush 6, 2) := by decide +kernel
theorem dX5_all_38 : decode cX5_all 38 = .ok (.aload_n 1, 1) := by decide +kernel
theorem dX5_all_39 : decode cX5_all 39 = .ok (.iload 4, 2) := by decide +kernel
theorem dX5_all_41 : decode cX5_all 41 = .ok (.iload_n 3, 1) := by decide +kernel
theorem dX5_all_42 : decode cX5_all 42 = .ok (.invokevirtual 201, 3) := by decide +kernel
theorem dX5_all_45 : decode cX5_all 45 = .ok (.istore 4, 2) := by decide +kernel
theorem dX5_all_47 : decode cX5_all 47 = .ok (.aload_n 0, 1) := by decide +kernel
theorem dX5_all_48 : decode cX5_all 48 = .ok (.aload_n 0, 1) := by decide +kernel
theorem dX5_all_49 : decode cX5_all 49 = .ok (.getfield 42, 3) := by decide +kernel
theorem dX5_all_52 : decode cX5_all 52 = .ok (.bipush 28, 2) := by decide +kernel
theorem dX5_all_54 : decode cX5_all 54 = .ok (.aload_n 1, 1) := by decide +kernel
theorem dX5_all_55 : decode cX5_all 55 = .ok (.iload 4, 2) := by decide +kernel
theorem dX5_all_57 : decode cX5_all 57 = .ok (.iload_n 3, 1) := by decide +kernel
theorem dX5_all_58 : decode cX5_all 58 = .ok (.invokevirtual 201, 3) := by decide +kernel
theorem dX5_all_61 : decode cX5_all 61 = .ok (.istore 4, 2) := by decide +kernel
theorem dX5_all_63 : decode cX5_all 63 = .ok (.aload_n 0, 1) := by decide +kernel
theorem dX5_all_64 : decode cX5_all 64 = .ok (.aload_n 0, 1) := by decide +kernel
theorem dX5_all_65 : decode cX5_all 65 = .ok (.getfield 45, 3) := by decide +kernel
theorem dX5_all_68 : decode cX5_all 68 = .ok (.bipush 28, 2) := by decide +kernel
theorem dX5_all_70 : decode cX5_all 70 = .ok (.aload_n 1, 1) := by decide +kernel
theorem dX5_all_71 : decode cX5_all 71 = .ok (.iload 4, 2) := by decide +kernel
theorem dX5_all_73 : decode cX5_all 73 = .ok (.iload_n 3, 1) := by decide +kernel
theorem dX5_all_74 : decode cX5_all 74 = .ok (.invokevirtual 201, 3) := by decide +kernel
theorem dX5_all_77 : decode cX5_all 77 = .ok (.istore 4, 2) := by decide +kernel
theorem dX5_all_79 : decode cX5_all 79 = .ok (.aload_n 0, 1) := by decide +kernel
theorem dX5_all_80 : decode cX5_all 80 = .ok (.aload_n 0, 1) := by decide +kernel
theorem dX5_all_81 : decode cX5_all 81 = .ok (.getfield 48, 3) := by decide +kernel
theorem dX5_all_84 : decode cX5_all 84 = .ok (.bipush 28, 2) := by decide +kernel
theorem dX5_all_86 : decode cX5_all 86 = .ok (.aload_n 1, 1) := by decide +kernel
theorem dX5_all_87 : decode cX5_all 87 = .ok (.iload 4, 2) := by decide +kernel
theorem dX5_all_89 : decode cX5_all 89 = .ok (.iload_n 3, 1) := by decide +kernel
theorem dX5_all_90 : decode cX5_all 90 = .ok (.invokevirtual 201, 3) := by decide +kernel
theorem dX5_all_93 : decode cX5_all 93 = .ok (.istore 4, 2) := by decide +kernel
theorem dX5_all_95 : decode cX5_all 95 = .ok (.iload_n 3, 1) := by decide +kernel
theorem dX5_all_96 : decode cX5_all 96 = .ok (.ifCond .eq 96, 3) := by decide +kernel
theorem dX5_all_99 : decode cX5_all 99 = .ok (.aload_n 0, 1) := by decide +kernel
theorem dX5_all_100 : decode cX5_all 100 = .ok (.aload_n 1, 1) := by decide +kernel
theorem dX5_all_101 : decode cX5_all 101 = .ok (.iload 4, 2) := by decide +kernel
theorem dX5_all_103 : decode cX5_all 103 = .ok (.iaload, 1) := by decide +kernel
theorem dX5_all_104 : decode cX5_all 104 = .ok (.putfield 89, 3) := by decide +kernel
theorem dX5_all_107 : decode cX5_all 107 = .ok (.aload_n 0, 1) := by decide +kernel
theorem dX5_all_108 : decode cX5_all 108 = .ok (.aload_n 1, 1) := by decide +kernel
theorem dX5_all_109 : decode cX5_all 109 = .ok (.iload 4, 2) := by decide +kernel
theorem dX5_all_111 : decode cX5_all 111 = .ok (.iconst 1, 1) := by decide +kernel
theorem dX5_all_112 : decode cX5_all 112 = .ok (.iadd, 1) := by decide +kernel
theorem dX5_all_113 : decode cX5_all 113 = .ok (.iaload, 1) := by decide +kernel
theorem dX5_all_114 : decode cX5_all 114 = .ok (.putfield 92, 3) := by decide +kernel
theorem dX5_all_117 : decode cX5_all 117 = .ok (.aload_n 0, 1) := by decide +kernel
theorem dX5_all_118 : decode cX5_all 118 = .ok (.aload_n 1, 1) := by decide +kernel
theorem dX5_all_119 : decode cX5_all 119 = .ok (.iload 4, 2) := by decide +kernel
theorem dX5_all_121 : decode cX5_all 121 = .ok (.iconst 2, 1) := by decide +kernel
theorem dX5_all_122 : decode cX5_all 122 = .ok (.iadd, 1) := by decide +kernel
theorem dX5_all_123 : decode cX5_all 123 = .ok (.iaload, 1) := by decide +kernel
theorem dX5_all_124 : decode cX5_all 124 = .ok (.putfield 118, 3) := by decide +kernel
theorem dX5_all_127 : decode cX5_all 127 = .ok (.aload_n 0, 1) := by decide +kernel
theorem dX5_all_128 : decode cX5_all 128 = .ok (.aload_n 1, 1) := by decide +kernel
theorem dX5_all_129 : decode cX5_all 129 = .ok (.iload 4, 2) := by decide +kernel
theorem dX5_all_131 : decode cX5_all 131 = .ok (.iconst 3, 1) := by decide +kernel
theorem dX5_all_132 : decode cX5_all 132 = .ok (.iadd, 1) := by decide +kernel
theorem dX5_all_133 : decode cX5_all 133 = .ok (.iaload, 1) := by decide +kernel
theorem dX5_all_134 : decode cX5_all 134 = .ok (.putfield 7, 3) := by decide +kernel
theorem dX5_all_137 : decode cX5_all 137 = .ok (.aload_n 0, 1) := by decide +kernel
theorem dX5_all_138 : decode cX5_all 138 = .ok (.aload_n 1, 1) := by decide +kernel
theorem dX5_all_139 : decode cX5_all 139 = .ok (.iload 4, 2) := by decide +kernel
theorem dX5_all_141 : decode cX5_all 141 = .ok (.iconst 4, 1) := by decide +kernel
theorem dX5_all_142 : decode cX5_all 142 = .ok (.iadd, 1) := by decide +kernel
theorem dX5_all_143 : decode cX5_all 143 = .ok (.iaload, 1) := by decide +kernel
theorem dX5_all_144 : decode cX5_all 144 = .ok (.putfield 13, 3) := by decide +kernel
theorem dX5_all_147 : decode cX5_all 147 = .ok (.aload_n 0, 1) := by decide +kernel
theorem dX5_all_148 : decode cX5_all 148 = .ok (.aload_n 1, 1) := by decide +kernel
theorem dX5_all_149 : decode cX5_all 149 = .ok (.iload 4, 2) := by decide +kernel
theorem dX5_all_151 : decode cX5_all 151 = .ok (.iconst 5, 1) := by decide +kernel
theorem dX5_all_152 : decode cX5_all 152 = .ok (.iadd, 1) := by decide +kernel
theorem dX5_all_153 : decode cX5_all 153 = .ok (.iaload, 1) := by decide +kernel
theorem dX5_all_154 : decode cX5_all 154 = .ok (.putfield 205, 3) := by decide +kernel
theorem dX5_all_157 : decode cX5_all 157 = .ok (.aload_n 0, 1) := by decide +kernel
theorem dX5_all_158 : decode cX5_all 158 = .ok (.aload_n 1, 1) := by decide +kernel
theorem dX5_all_159 : decode cX5_all 159 = .ok (.iload 4, 2) := by decide +kernel
theorem dX5_all_161 : decode cX5_all 161 = .ok (.bipush 6, 2) := by decide +kernel
theorem dX5_all_163 : decode cX5_all 163 = .ok (.iadd, 1) := by decide +kernel
theorem dX5_all_164 : decode cX5_all 164 = .ok (.iaload, 1) := by decide +kernel
theorem dX5_all_165 : decode cX5_all 165 = .ok (.putfield 16, 3) := by decide +kernel
theorem dX5_all_168 : decode cX5_all 168 = .ok (.aload_n 0, 1) := by decide +kernel
theorem dX5_all_169 : decode cX5_all 169 = .ok (.aload_n 1, 1) := by decide +kernel
theorem dX5_all_170 : decode cX5_all 170 = .ok (.iload 4, 2) := by decide +kernel
theorem dX5_all_172 : decode cX5_all 172 = .ok (.bipush 7, 2) := by decide +kernel
theorem dX5_all_174 : decode cX5_all 174 = .ok (.iadd, 1) := by decide +kernel
theorem dX5_all_175 : decode cX5_all 175 = .ok (.iaload, 1) := by decide +kernel
theorem dX5_all_176 : decode cX5_all 176 = .ok (.putfield 19, 3) := by decide +kernel
theorem dX5_all_179 : decode cX5_all 179 = .ok (.aload_n 0, 1) := by decide +kernel
theorem dX5_all_180 : decode cX5_all 180 = .ok (.aload_n 0, 1) := by decide +kernel
theorem dX5_all_181 : decode cX5_all 181 = .ok (.getfield 82, 3) := by decide +kernel
theorem dX5_all_184 : decode cX5_all 184 = .ok (.iload_n 2, 1) := by decide +kernel
theorem dX5_all_185 : decode cX5_all 185 = .ok (.laload, 1) := by decide +kernel
theorem dX5_all_186 : decode cX5_all 186 = .ok (.putfield 25, 3) := by decide +kernel
theorem dX5_all_189 : decode cX5_all 189 = .ok (.goto 93, 3) := by decide +kernel
theorem dX5_all_192 : decode cX5_all 192 = .ok (.aload_n 1, 1) := by decide +kernel
theorem dX5_all_193 : decode cX5_all 193 = .ok (.iload 4, 2) := by decide +kernel
theorem dX5_all_195 : decode cX5_all 195 = .ok (.aload_n 0, 1) := by decide +kernel
theorem dX5_all_196 : decode cX5_all 196 = .ok (.getfield 89, 3) := by decide +kernel
theorem dX5_all_199 : decode cX5_all 199 = .ok (.iastore, 1) := by decide +kernel
theorem dX5_all_200 : decode cX5_all 200 = .ok (.aload_n 1, 1) := by decide +kernel
theorem dX5_all_201 : decode cX5_all 201 = .ok (.iload 4, 2) := by decide +kernel
theorem dX5_all_203 : decode cX5_all 203 = .ok (.iconst 1, 1) := by decide +kernel
theorem dX5_all_204 : decode cX5_all 204 = .ok (.iadd, 1) := by decide +kernel
theorem dX5_all_205 : decode cX5_all 205 = .ok (.aload_n 0, 1) := by decide +kernel
theorem dX5_all_206 : decode cX5_all 206 = .ok (.getfield 92, 3) := by decide +kernel
theorem dX5_all_209 : decode cX5_all 209 = .ok (.iastore, 1) := by decide +kernel
theorem dX5_all_210 : decode cX5_all 210 = .ok (.aload_n 1, 1) := by decide +kernel
theorem dX5_all_211 : decode cX5_all 211 = .ok (.iload 4, 2) := by decide +kernel
theorem dX5_all_213 : decode cX5_all 213 = .ok (.iconst 2, 1) := by decide +kernel
theorem dX5_all_214 : decode cX5_all 214 = .ok (.iadd, 1) := by decide +kernel
theorem dX5_all_215 : decode cX5_all 215 = .ok (.aload_n 0, 1) := by decide +kernel
theorem dX5_all_216 : decode cX5_all 216 = .ok (.getfield 118, 3) := by decide +kernel
theorem dX5_all_219 : decode cX5_all 219 = .ok (.iastore, 1) := by decide +kernel
theorem dX5_all_220 : decode cX5_all 220 = .ok (.aload_n 1, 1) := by decide +kernel
theorem dX5_all_221 : decode cX5_all 221 = .ok (.iload 4, 2) := by decide +kernel
theorem dX5_all_223 : decode cX5_all 223 = .ok (.iconst 3, 1) := by decide +kernel
theorem dX5_all_224 : decode cX5_all 224 = .ok (.iadd, 1) := by decide +kernel
theorem dX5_all_225 : decode cX5_all 225 = .ok (.aload_n 0, 1) := by decide +kernel
theorem dX5_all_226 : decode cX5_all 226 = .ok (.getfield 7, 3) := by decide +kernel
theorem dX5_all_229 : decode cX5_all 229 = .ok (.iastore, 1) := by decide +kernel
theorem dX5_all_230 : decode cX5_all 230 = .ok (.aload_n 1, 1) := by decide +kernel
theorem dX5_all_231 : decode cX5_all 231 = .ok (.iload 4, 2) := by decide +kernel
theorem dX5_all_233 : decode cX5_all 233 = .ok (.iconst 4, 1) := by decide +kernel
theorem dX5_all_234 : decode cX5_all 234 = .ok (.iadd, 1) := by decide +kernel
theorem dX5_all_235 : decode cX5_all 235 = .ok (.aload_n 0, 1) := by decide +kernel
theorem dX5_all_236 : decode cX5_all 236 = .ok (.getfield 13, 3) := by decide +kernel
theorem dX5_all_239 : decode cX5_all 239 = .ok (.iastore, 1) := by decide +kernel
theorem dX5_all_240 : decode cX5_all 240 = .ok (.aload_n 1, 1) := by decide +kernel
theorem dX5_all_241 : decode cX5_all 241 = .ok (.iload 4, 2) := by decide +kernel
theorem dX5_all_243 : decode cX5_all 243 = .ok (.iconst 5, 1) := by decide +kernel
theorem dX5_all_244 : decode cX5_all 244 = .ok (.iadd, 1) := by decide +kernel
theorem dX5_all_245 : decode cX5_all 245 = .ok (.aload_n 0, 1) := by decide +kernel
theorem dX5_all_246 : decode cX5_all 246 = .ok (.getfield 205, 3) := by decide +kernel
theorem dX5_all_249 : decode cX5_all 249 = .ok (.iastore, 1) := by decide +kernel
theorem dX5_all_250 : decode cX5_all 250 = .ok (.aload_n 1, 1) := by decide +kernel
theorem dX5_all_251 : decode cX5_all 251 = .ok (.iload 4, 2) := by decide +kernel
theorem dX5_all_253 : decode cX5_all 253 = .ok (.bipush 6, 2) := by decide +kernel
theorem dX5_all_255 : decode cX5_all 255 = .ok (.iadd, 1) := by decide +kernel
theorem dX5_all_256 : decode cX5_all 256 = .ok (.aload_n 0, 1) := by decide +kernel
theorem dX5_all_257 : decode cX5_all 257 = .ok (.getfield 16, 3) := by decide +kernel
theorem dX5_all_260 : decode cX5_all 260 = .ok (.iastore, 1) := by decide +kernel
theorem dX5_all_261 : decode cX5_all 261 = .ok (.aload_n 1, 1) := by decide +kernel
theorem dX5_all_262 : decode cX5_all 262 = .ok (.iload 4, 2) := by decide +kernel
theorem dX5_all_264 : decode cX5_all 264 = .ok (.bipush 7, 2) := by decide +kernel
theorem dX5_all_266 : decode cX5_all 266 = .ok (.iadd, 1) := by decide +kernel
theorem dX5_all_267 : decode cX5_all 267 = .ok (.aload_n 0, 1) := by decide +kernel
theorem dX5_all_268 : decode cX5_all 268 = .ok (.getfield 19, 3) := by decide +kernel
theorem dX5_all_271 : decode cX5_all 271 = .ok (.iastore, 1) := by decide +kernel
theorem dX5_all_272 : decode cX5_all 272 = .ok (.aload_n 0, 1) := by decide +kernel
theorem dX5_all_273 : decode cX5_all 273 = .ok (.getfield 82, 3) := by decide +kernel
theorem dX5_all_276 : decode cX5_all 276 = .ok (.iload_n 2, 1) := by decide +kernel
theorem dX5_all_277 : decode cX5_all 277 = .ok (.aload_n 0, 1) := by decide +kernel
theorem dX5_all_278 : decode cX5_all 278 = .ok (.getfield 25, 3) := by decide +kernel
theorem dX5_all_281 : decode cX5_all 281 = .ok (.lastore, 1) := by decide +kernel
theorem dX5_all_282 : decode cX5_all 282 = .ok (.return_, 1) := by decide +kernel
theorem dX5_town_0 : decode cX5_town 0 = .ok (.aload_n 0, 1) := by decide +kernel
theorem dX5_town_1 : decode cX5_town 1 = .ok (.iload_n 1, 1) := by decide +kernel
theorem dX5_town_2 : decode cX5_town 2 = .ok (.invokevirtual 208, 3) := by decide +kernel
theorem dX5_town_5 : decode cX5_town 5 = .ok (.istore_n 2, 1) := by decide +kernel
theorem dX5_town_6 : decode cX5_town 6 = .ok (.iload_n 2, 1) := by decide +kernel
theorem dX5_town_7 : decode cX5_town 7 = .ok (.ifCond .eq 9, 3) := by decide +kernel
theorem dX5_town_10 : decode cX5_town 10 = .ok (.aload_n 0, 1) := by decide +kernel
theorem dX5_town_11 : decode cX5_town 11 = .ok (.iload_n 2, 1) := by decide +kernel
theorem dX5_town_12 : decode cX5_town 12 = .ok (.invokevirtual 99, 3) := by decide +kernel
theorem dX5_town_15 : decode cX5_town 15 = .ok (.ireturn, 1) := by decide +kernel
theorem dX5_town_16 : decode cX5_town 16 = .ok (.aload_n 0, 1) := by decide +kernel
theorem dX5_town_17 : decode cX5_town 17 = .ok (.aload_n 0, 1) := by decide +kernel
theorem dX5_town_18 : decode cX5_town 18 = .ok (.getfield 76, 3) := by decide +kernel
theorem dX5_town_21 : decode cX5_town 21 = .ok (.iconst 0, 1) := by decide +kernel
theorem dX5_town_22 : decode cX5_town 22 = .ok (.iconst 0, 1) := by decide +kernel
theorem dX5_town_23 : decode cX5_town 23 = .ok (.invokevirtual 211, 3) := by decide +kernel
theorem dX5_town_26 : decode cX5_town 26 = .ok (.aload_n 0, 1) := by decide +kernel
theorem dX5_town_27 : decode cX5_town 27 = .ok (.sipush 160, 3) := by decide +kernel
theorem dX5_town_30 : decode cX5_town 30 = .ok (.iload_n 1, 1) := by decide +kernel
theorem dX5_town_31 : decode cX5_town 31 = .ok (.imul, 1) := by decide +kernel
theorem dX5_town_32 : decode cX5_town 32 = .ok (.putfield 172, 3) := by decide +kernel
theorem dX5_town_35 : decode cX5_town 35 = .ok (.aload_n 0, 1) := by decide +kernel
theorem dX5_town_36 : decode cX5_town 36 = .ok (.iconst 0, 1) := by decide +kernel
theorem dX5_town_37 : decode cX5_town 37 = .ok (.putfield 166, 3) := by decide +kernel
theorem dX5_town_40 : decode cX5_town 40 = .ok (.aload_n 0, 1) := by decide +kernel
theorem dX5_town_41 : decode cX5_town 41 = .ok (.aload_n 0, 1) := by decide +kernel
theorem dX5_town_42 : decode cX5_town 42 = .ok (.getfield 57, 3) := by decide +kernel
theorem dX5_town_45 : decode cX5_town 45 = .ok (.iload_n 1, 1) := by decide +kernel
theorem dX5_town_46 : decode cX5_town 46 = .ok (.iaload, 1) := by decide +kernel
theorem dX5_town_47 : decode cX5_town 47 = .ok (.putfield 169, 3) := by decide +kernel
theorem dX5_town_50 : decode cX5_town 50 = .ok (.aload_n 0, 1) := by decide +kernel
theorem dX5_town_51 : decode cX5_town 51 = .ok (.iconst (-1), 1) := by decide +kernel
theorem dX5_town_52 : decode cX5_town 52 = .ok (.putfield 22, 3) := by decide +kernel
theorem dX5_town_55 : decode cX5_town 55 = .ok (.iconst 1, 1) := by decide +kernel
theorem dX5_town_56 : decode cX5_town 56 = .ok (.istore_n 3, 1) := by decide +kernel
theorem dX5_town_57 : decode cX5_town 57 = .ok (.aload_n 0, 1) := by decide +kernel
theorem dX5_town_58 : decode cX5_town 58 = .ok (.invokevirtual 215, 3) := by decide +kernel
theorem dX5_town_61 : decode cX5_town 61 = .ok (.istore 4, 2) := by decide +kernel
theorem dX5_town_63 : decode cX5_town 63 = .ok (.iload 4, 2) := by decide +kernel
theorem dX5_town_65 : decode cX5_town 65 = .ok (.ifCond .eq 69, 3) := by decide +kernel
theorem dX5_town_68 : decode cX5_town 68 = .ok (.aload_n 0, 1) := by decide +kernel
theorem dX5_town_69 : decode cX5_town 69 = .ok (.getfield 166, 3) := by decide +kernel
theorem dX5_town_72 : decode cX5_town 72 = .ok (.aload_n 0, 1) := by decide +kernel
theorem dX5_town_73 : decode cX5_town 73 = .ok (.getfield 169, 3) := by decide +kernel
theorem dX5_town_76 : decode cX5_town 76 = .ok (.if_icmp .ge 58, 3) := by decide +kernel
theorem dX5_town_79 : decode cX5_town 79 = .ok (.aload_n 0, 1) := by decide +kernel
theorem dX5_town_80 : decode cX5_town 80 = .ok (.getfield 63, 3) := by decide +kernel
theorem dX5_town_83 : decode cX5_town 83 = .ok (.aload_n 0, 1) := by decide +kernel
theorem dX5_town_84 : decode cX5_town 84 = .ok (.getfield 172, 3) := by decide +kernel
theorem dX5_town_87 : decode cX5_town 87 = .ok (.aload_n 0, 1) := by decide +kernel
theorem dX5_town_88 : decode cX5_town 88 = .ok (.getfield 166, 3) := by decide +kernel
theorem dX5_town_91 : decode cX5_town 91 = .ok (.iadd, 1) := by decide +kernel
theorem dX5_town_92 : decode cX5_town 92 = .ok (.laload, 1) := by decide +kernel
theorem dX5_town_93 : decode cX5_town 93 = .ok (.l2i, 1) := by decide +kernel
theorem dX5_town_94 : decode cX5_town 94 = .ok (.bipush 59, 2) := by decide +kernel
theorem dX5_town_96 : decode cX5_town 96 = .ok (.if_icmp .eq 16, 3) := by decide +kernel
theorem dX5_town_99 : decode cX5_town 99 = .ok (.aload_n 0, 1) := by decide +kernel
theorem dX5_town_100 : decode cX5_town 100 = .ok (.aload_n 0, 1) := by decide +kernel
theorem dX5_town_101 : decode cX5_town 101 = .ok (.getfield 166, 3) := by decide +kernel
theorem dX5_town_104 : decode cX5_town 104 = .ok (.invokevirtual 182, 3) := by decide +kernel
theorem dX5_town_107 : decode cX5_town 107 = .ok (.istore 4, 2) := by decide +kernel
theorem dX5_town_109 : decode cX5_town 109 = .ok (.goto (-46), 3) := by decide +kernel
theorem dX5_town_112 : decode cX5_town 112 = .ok (.aload_n 0, 1) := by decide +kernel
theorem dX5_town_113 : decode cX5_town 113 = .ok (.dup, 1) := by decide +kernel
theorem dX5_town_114 : decode cX5_town 114 = .ok (.getfield 166, 3) := by decide +kernel
theorem dX5_town_117 : decode cX5_town 117 = .ok (.iconst 1, 1) := by decide +kernel
theorem dX5_town_118 : decode cX5_town 118 = .ok (.iadd, 1) := by decide +kernel
theorem dX5_town_119 : decode cX5_town 119 = .ok (.putfield 166, 3) := by decide +kernel
theorem dX5_town_122 : decode cX5_town 122 = .ok (.iinc 3 1, 3) := by decide +kernel
theorem dX5_town_125 : decode cX5_town 125 = .ok (.aload_n 0, 1) := by decide +kernel
theorem dX5_town_126 : decode cX5_town 126 = .ok (.invokevirtual 215, 3) := by decide +kernel
theorem dX5_town_129 : decode cX5_town 129 = .ok (.istore 4, 2) := by decide +kernel
theorem dX5_town_131 : decode cX5_town 131 = .ok (.goto (-68), 3) := by decide +kernel
theorem dX5_town_134 : decode cX5_town 134 = .ok (.iload 4, 2) := by decide +kernel
