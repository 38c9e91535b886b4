theorem db5_1 : (decode cJ7_copyOf_6403c 32 = .ok (.invokestatic 304, 3)) ∧ (decode cJ7_copyOf_6403c 35 = .ok (.invokestatic 150, 3)) ∧ (decode cJ7_copyOf_6403c 38 = .ok (.aload_n 3, 1)) ∧ (decode cJ7_copyOf_6403c 39 = .ok (.areturn, 1)) := by decide +kernel
theorem dJ7_copyOf_6403c_32 : decode cJ7_copyOf_6403c 32 = .ok (.invokestatic 304, 3) := db5_1.1
theorem dJ7_copyOf_6403c_35 : decode cJ7_copyOf_6403c 35 = .ok (.invokestatic 150, 3) := db5_1.2.1
theorem dJ7_copyOf_6403c_38 : decode cJ7_copyOf_6403c 38 = .ok (.aload_n 3, 1) := db5_1.2.2.1
theorem dJ7_copyOf_6403c_39 : decode cJ7_copyOf_6403c 39 = .ok (.areturn, 1) := db5_1.2.2.2
theorem db5_2 : (decode cJ7_copyOf_9075b 0 = .ok (.iload_n 1, 1)) ∧ (decode cJ7_copyOf_9075b 1 = .ok (.aload_n 0, 1)) ∧ (decode cJ7_copyOf_9075b 2 = .ok (.arraylength, 1)) ∧ (decode cJ7_copyOf_9075b 3 = .ok (.if_icmp .ne 11, 3)) ∧ (decode cJ7_copyOf_9075b 6 = .ok (.aload_n 0, 1)) ∧ (decode cJ7_copyOf_9075b 7 = .ok (.invokevirtual 310, 3)) ∧ (decode cJ7_copyOf_9075b 10 = .ok (.checkcast 311, 3)) ∧ (decode cJ7_copyOf_9075b 13 = .ok (.areturn, 1)) ∧ (decode cJ7_copyOf_9075b 14 = .ok (.iload_n 1, 1)) ∧ (decode cJ7_copyOf_9075b 15 = .ok (.newarray .byte, 2)) ∧ (decode cJ7_copyOf_9075b 17 = .ok (.astore_n 2, 1)) ∧ (decode cJ7_copyOf_9075b 18 = .ok (.aload_n 0, 1)) ∧ (decode cJ7_copyOf_9075b 19 = .ok (.iconst 0, 1)) ∧ (decode cJ7_copyOf_9075b 20 = .ok (.aload_n 2, 1)) ∧ (decode cJ7_copyOf_9075b 21 = .ok (.iconst 0, 1)) ∧ (decode cJ7_copyOf_9075b 22 = .ok (.aload_n 0, 1)) := by decide +kernel
theorem dJ7_copyOf_9075b_0 : decode cJ7_copyOf_9075b 0 = .ok (.iload_n 1, 1) := db5_2.1
theorem dJ7_copyOf_9075b_1 : decode cJ7_copyOf_9075b 1 = .ok (.aload_n 0, 1) := db5_2.2.1
theorem dJ7_copyOf_9075b_2 : decode cJ7_copyOf_9075b 2 = .ok (.arraylength, 1) := db5_2.2.2.1
theorem dJ7_copyOf_9075b_3 : decode cJ7_copyOf_9075b 3 = .ok (.if_icmp .ne 11, 3) := db5_2.2.2.2.1
theorem dJ7_copyOf_9075b_6 : decode cJ7_copyOf_9075b 6 = .ok (.aload_n 0, 1) := db5_2.2.2.2.2.1
theorem dJ7_copyOf_9075b_7 : decode cJ7_copyOf_9075b 7 = .ok (.invokevirtual 310, 3) := db5_2.2.2.2.2.2.1
theorem dJ7_copyOf_9075b_10 : decode cJ7_copyOf_9075b 10 = .ok (.checkcast 311, 3) := db5_2.2.2.2.2.2.2.1
theorem dJ7_copyOf_9075b_13 : decode cJ7_copyOf_9075b 13 = .ok (.areturn, 1) := db5_2.2.2.2.2.2.2.2.1
theorem dJ7_copyOf_9075b_14 : decode cJ7_copyOf_9075b 14 = .ok (.iload_n 1, 1) := db5_2.2.2.2.2.2.2.2.2.1
theorem dJ7_copyOf_9075b_15 : decode cJ7_copyOf_9075b 15 = .ok (.newarray .byte, 2) := db5_2.2.2.2.2.2.2.2.2.2.1
theorem dJ7_copyOf_9075b_17 : decode cJ7_copyOf_9075b 17 = .ok (.astore_n 2, 1) := db5_2.2.2.2.2.2.2.2.2.2.2.1
theorem dJ7_copyOf_9075b_18 : decode cJ7_copyOf_9075b 18 = .ok (.aload_n 0, 1) := db5_2.2.2.2.2.2.2.2.2.2.2.2.1
theorem dJ7_copyOf_9075b_19 : decode cJ7_copyOf_9075b 19 = .ok (.iconst 0, 1) := db5_2.2.2.2.2.2.2.2.2.2.2.2.2.1
theorem dJ7_copyOf_9075b_20 : decode cJ7_copyOf_9075b 20 = .ok (.aload_n 2, 1) := db5_2.2.2.2.2.2.2.2.2.2.2.2.2.2.1
theorem dJ7_copyOf_9075b_21 : decode cJ7_copyOf_9075b 21 = .ok (.iconst 0, 1) := db5_2.2.2.2.2.2.2.2.2.2.2.2.2.2.2.1
theorem dJ7_copyOf_9075b_22 : decode cJ7_copyOf_9075b 22 = .ok (.aload_n 0, 1) := db5_2.2.2.2.2.2.2.2.2.2.2.2.2.2.2.2
theorem db5_3 : (decode cJ7_copyOf_9075b 23 = .ok (.arraylength, 1)) ∧ (decode cJ7_copyOf_9075b 24 = .ok (.iload_n 1, 1)) ∧ (decode cJ7_copyOf_9075b 25 = .ok (.invokestatic 304, 3)) ∧ (decode cJ7_copyOf_9075b 28 = .ok (.invokestatic 150, 3)) ∧ (decode cJ7_copyOf_9075b 31 = .ok (.aload_n 2, 1)) ∧ (decode cJ7_copyOf_9075b 32 = .ok (.areturn, 1)) := by decide +kernel
theorem dJ7_copyOf_9075b_23 : decode cJ7_copyOf_9075b 23 = .ok (.arraylength, 1) := db5_3.1
theorem dJ7_copyOf_9075b_24 : decode cJ7_copyOf_9075b 24 = .ok (.iload_n 1, 1) := db5_3.2.1
theorem dJ7_copyOf_9075b_25 : decode cJ7_copyOf_9075b 25 = .ok (.invokestatic 304, 3) := db5_3.2.2.1
theorem dJ7_copyOf_9075b_28 : decode cJ7_copyOf_9075b 28 = .ok (.invokestatic 150, 3) := db5_3.2.2.2.1
theorem dJ7_copyOf_9075b_31 : decode cJ7_copyOf_9075b 31 = .ok (.aload_n 2, 1) := db5_3.2.2.2.2.1
theorem dJ7_copyOf_9075b_32 : decode cJ7_copyOf_9075b 32 = .ok (.areturn, 1) := db5_3.2.2.2.2.2
theorem db5_4 : (decode cJ7_checkLength_df160 0 = .ok (.iload_n 1, 1)) ∧ (decode cJ7_checkLength_df160 1 = .ok (.iload_n 0, 1)) ∧ (decode cJ7_checkLength_df160 2 = .ok (.if_icmp .ge 35, 3)) ∧ (decode cJ7_checkLength_df160 5 = .ok (.new 43, 3)) ∧ (decode cJ7_checkLength_df160 8 = .ok (.dup, 1)) ∧ (decode cJ7_checkLength_df160 9 = .ok (.new 45, 3)) ∧ (decode cJ7_checkLength_df160 12 = .ok (.dup, 1)) ∧ (decode cJ7_checkLength_df160 13 = .ok (.invokespecial 47, 3)) ∧ (decode cJ7_checkLength_df160 16 = .ok (.iload_n 0, 1)) ∧ (decode cJ7_checkLength_df160 17 = .ok (.invokevirtual 54, 3)) ∧ (decode cJ7_checkLength_df160 20 = .ok (.ldc_w 337, 3)) ∧ (decode cJ7_checkLength_df160 23 = .ok (.invokevirtual 50, 3)) ∧ (decode cJ7_checkLength_df160 26 = .ok (.iload_n 1, 1)) ∧ (decode cJ7_checkLength_df160 27 = .ok (.invokevirtual 54, 3)) ∧ (decode cJ7_checkLength_df160 30 = .ok (.invokevirtual 61, 3)) ∧ (decode cJ7_checkLength_df160 33 = .ok (.invokespecial 65, 3)) := by decide +kernel
theorem dJ7_checkLength_df160_0 : decode cJ7_checkLength_df160 0 = .ok (.iload_n 1, 1) := db5_4.1
theorem dJ7_checkLength_df160_1 : decode cJ7_checkLength_df160 1 = .ok (.iload_n 0, 1) := db5_4.2.1
theorem dJ7_checkLength_df160_2 : decode cJ7_checkLength_df160 2 = .ok (.if_icmp .ge 35, 3) := db5_4.2.2.1
theorem dJ7_checkLength_df160_5 : decode cJ7_checkLength_df160 5 = .ok (.new 43, 3) := db5_4.2.2.2.1
theorem dJ7_checkLength_df160_8 : decode cJ7_checkLength_df160 8 = .ok (.dup, 1) := db5_4.2.2.2.2.1
theorem dJ7_checkLength_df160_9 : decode cJ7_checkLength_df160 9 = .ok (.new 45, 3) := db5_4.2.2.2.2.2.1
theorem dJ7_checkLength_df160_12 : decode cJ7_checkLength_df160 12 = .ok (.dup, 1) := db5_4.2.2.2.2.2.2.1
theorem dJ7_checkLength_df160_13 : decode cJ7_checkLength_df160 13 = .ok (.invokespecial 47, 3) := db5_4.2.2.2.2.2.2.2.1
theorem dJ7_checkLength_df160_16 : decode cJ7_checkLength_df160 16 = .ok (.iload_n 0, 1) := db5_4.2.2.2.2.2.2.2.2.1
theorem dJ7_checkLength_df160_17 : decode cJ7_checkLength_df160 17 = .ok (.invokevirtual 54, 3) := db5_4.2.2.2.2.2.2.2.2.2.1
theorem dJ7_checkLength_df160_20 : decode cJ7_checkLength_df160 20 = .ok (.ldc_w 337, 3) := db5_4.2.2.2.2.2.2.2.2.2.2.1
theorem dJ7_checkLength_df160_23 : decode cJ7_checkLength_df160 23 = .ok (.invokevirtual 50, 3) := db5_4.2.2.2.2.2.2.2.2.2.2.2.1
theorem dJ7_checkLength_df160_26 : decode cJ7_checkLength_df160 26 = .ok (.iload_n 1, 1) := db5_4.2.2.2.2.2.2.2.2.2.2.2.2.1
theorem dJ7_checkLength_df160_27 : decode cJ7_checkLength_df160 27 = .ok (.invokevirtual 54, 3) := db5_4.2.2.2.2.2.2.2.2.2.2.2.2.2.1
theorem dJ7_checkLength_df160_30 : decode cJ7_checkLength_df160 30 = .ok (.invokevirtual 61, 3) := db5_4.2.2.2.2.2.2.2.2.2.2.2.2.2.2.1
theorem dJ7_checkLength_df160_33 : decode cJ7_checkLength_df160 33 = .ok (.invokespecial 65, 3) := db5_4.2.2.2.2.2.2.2.2.2.2.2.2.2.2.2
theorem db5_5 : (decode cJ7_checkLength_df160 36 = .ok (.athrow, 1)) ∧ (decode cJ7_checkLength_df160 37 = .ok (.return_, 1)) := by decide +kernel
theorem dJ7_checkLength_df160_36 : decode cJ7_checkLength_df160 36 = .ok (.athrow, 1) := db5_5.1
theorem dJ7_checkLength_df160_37 : decode cJ7_checkLength_df160 37 = .ok (.return_, 1) := db5_5.2
theorem db5_6 : (decode cJ7_copyOfRange_39247 0 = .ok (.iload_n 1, 1)) ∧ (decode cJ7_copyOfRange_39247 1 = .ok (.ifCond .ne 9, 3)) ∧ (decode cJ7_copyOfRange_39247 4 = .ok (.iload_n 2, 1)) ∧ (decode cJ7_copyOfRange_39247 5 = .ok (.aload_n 0, 1)) ∧ (decode cJ7_copyOfRange_39247 6 = .ok (.arraylength, 1)) ∧ (decode cJ7_copyOfRange_39247 7 = .ok (.if_icmp .eq 10, 3)) ∧ (decode cJ7_copyOfRange_39247 10 = .ok (.aload_n 0, 1)) ∧ (decode cJ7_copyOfRange_39247 11 = .ok (.iload_n 1, 1)) ∧ (decode cJ7_copyOfRange_39247 12 = .ok (.iload_n 2, 1)) ∧ (decode cJ7_copyOfRange_39247 13 = .ok (.invokestatic 339, 3)) ∧ (decode cJ7_copyOfRange_39247 16 = .ok (.areturn, 1)) ∧ (decode cJ7_copyOfRange_39247 17 = .ok (.aload_n 0, 1)) ∧ (decode cJ7_copyOfRange_39247 18 = .ok (.invokevirtual 310, 3)) ∧ (decode cJ7_copyOfRange_39247 21 = .ok (.checkcast 311, 3)) ∧ (decode cJ7_copyOfRange_39247 24 = .ok (.areturn, 1)) := by decide +kernel
theorem dJ7_copyOfRange_39247_0 : decode cJ7_copyOfRange_39247 0 = .ok (.iload_n 1, 1) := db5_6.1
theorem dJ7_copyOfRange_39247_1 : decode cJ7_copyOfRange_39247 1 = .ok (.ifCond .ne 9, 3) := db5_6.2.1
theorem dJ7_copyOfRange_39247_4 : decode cJ7_copyOfRange_39247 4 = .ok (.iload_n 2, 1) := db5_6.2.2.1
theorem dJ7_copyOfRange_39247_5 : decode cJ7_copyOfRange_39247 5 = .ok (.aload_n 0, 1) := db5_6.2.2.2.1
theorem dJ7_copyOfRange_39247_6 : decode cJ7_copyOfRange_39247 6 = .ok (.arraylength, 1) := db5_6.2.2.2.2.1
theorem dJ7_copyOfRange_39247_7 : decode cJ7_copyOfRange_39247 7 = .ok (.if_icmp .eq 10, 3) := db5_6.2.2.2.2.2.1
theorem dJ7_copyOfRange_39247_10 : decode cJ7_copyOfRange_39247 10 = .ok (.aload_n 0, 1) := db5_6.2.2.2.2.2.2.1
theorem dJ7_copyOfRange_39247_11 : decode cJ7_copyOfRange_39247 11 = .ok (.iload_n 1, 1) := db5_6.2.2.2.2.2.2.2.1
theorem dJ7_copyOfRange_39247_12 : decode cJ7_copyOfRange_39247 12 = .ok (.iload_n 2, 1) := db5_6.2.2.2.2.2.2.2.2.1
theorem dJ7_copyOfRange_39247_13 : decode cJ7_copyOfRange_39247 13 = .ok (.invokestatic 339, 3) := db5_6.2.2.2.2.2.2.2.2.2.1
theorem dJ7_copyOfRange_39247_16 : decode cJ7_copyOfRange_39247 16 = .ok (.areturn, 1) := db5_6.2.2.2.2.2.2.2.2.2.2.1
theorem dJ7_copyOfRange_39247_17 : decode cJ7_copyOfRange_39247 17 = .ok (.aload_n 0, 1) := db5_6.2.2.2.2.2.2.2.2.2.2.2.1
theorem dJ7_copyOfRange_39247_18 : decode cJ7_copyOfRange_39247 18 = .ok (.invokevirtual 310, 3) := db5_6.2.2.2.2.2.2.2.2.2.2.2.2.1
theorem dJ7_copyOfRange_39247_21 : decode cJ7_copyOfRange_39247 21 = .ok (.checkcast 311, 3) := db5_6.2.2.2.2.2.2.2.2.2.2.2.2.2.1
theorem dJ7_copyOfRange_39247_24 : decode cJ7_copyOfRange_39247 24 = .ok (.areturn, 1) := db5_6.2.2.2.2.2.2.2.2.2.2.2.2.2.2
theorem db5_7 : (decode cJ7_copyOfRangeByte_39247 0 = .ok (.iload_n 1, 1)) ∧ (decode cJ7_copyOfRangeByte_39247 1 = .ok (.iload_n 2, 1)) ∧ (decode cJ7_copyOfRangeByte_39247 2 = .ok (.invokestatic 343, 3)) ∧ (decode cJ7_copyOfRangeByte_39247 5 = .ok (.iload_n 2, 1)) ∧ (decode cJ7_copyOfRangeByte_39247 6 = .ok (.iload_n 1, 1)) ∧ (decode cJ7_copyOfRangeByte_39247 7 = .ok (.isub, 1)) ∧ (decode cJ7_copyOfRangeByte_39247 8 = .ok (.istore_n 3, 1)) ∧ (decode cJ7_copyOfRangeByte_39247 9 = .ok (.iload_n 3, 1)) ∧ (decode cJ7_copyOfRangeByte_39247 10 = .ok (.newarray .byte, 2)) ∧ (decode cJ7_copyOfRangeByte_39247 12 = .ok (.astore 4, 2)) ∧ (decode cJ7_copyOfRangeByte_39247 14 = .ok (.aload_n 0, 1)) ∧ (decode cJ7_copyOfRangeByte_39247 15 = .ok (.iload_n 1, 1)) ∧ (decode cJ7_copyOfRangeByte_39247 16 = .ok (.aload 4, 2)) ∧ (decode cJ7_copyOfRangeByte_39247 18 = .ok (.iconst 0, 1)) ∧ (decode cJ7_copyOfRangeByte_39247 19 = .ok (.aload_n 0, 1)) ∧ (decode cJ7_copyOfRangeByte_39247 20 = .ok (.arraylength, 1)) := by decide +kernel
theorem dJ7_copyOfRangeByte_39247_0 : decode cJ7_copyOfRangeByte_39247 0 = .ok (.iload_n 1, 1) := db5_7.1
theorem dJ7_copyOfRangeByte_39247_1 : decode cJ7_copyOfRangeByte_39247 1 = .ok (.iload_n 2, 1) := db5_7.2.1
theorem dJ7_copyOfRangeByte_39247_2 : decode cJ7_copyOfRangeByte_39247 2 = .ok (.invokestatic 343, 3) := db5_7.2.2.1
theorem dJ7_copyOfRangeByte_39247_5 : decode cJ7_copyOfRangeByte_39247 5 = .ok (.iload_n 2, 1) := db5_7.2.2.2.1
theorem dJ7_copyOfRangeByte_39247_6 : decode cJ7_copyOfRangeByte_39247 6 = .ok (.iload_n 1, 1) := db5_7.2.2.2.2.1
theorem dJ7_copyOfRangeByte_39247_7 : decode cJ7_copyOfRangeByte_39247 7 = .ok (.isub, 1) := db5_7.2.2.2.2.2.1
theorem dJ7_copyOfRangeByte_39247_8 : decode cJ7_copyOfRangeByte_39247 8 = .ok (.istore_n 3, 1) := db5_7.2.2.2.2.2.2.1
theorem dJ7_copyOfRangeByte_39247_9 : decode cJ7_copyOfRangeByte_39247 9 = .ok (.iload_n 3, 1) := db5_7.2.2.2.2.2.2.2.1
theorem dJ7_copyOfRangeByte_39247_10 : decode cJ7_copyOfRangeByte_39247 10 = .ok (.newarray .byte, 2) := db5_7.2.2.2.2.2.2.2.2.1
theorem dJ7_copyOfRangeByte_39247_12 : decode cJ7_copyOfRangeByte_39247 12 = .ok (.astore 4, 2) := db5_7.2.2.2.2.2.2.2.2.2.1
theorem dJ7_copyOfRangeByte_39247_14 : decode cJ7_copyOfRangeByte_39247 14 = .ok (.aload_n 0, 1) := db5_7.2.2.2.2.2.2.2.2.2.2.1
theorem dJ7_copyOfRangeByte_39247_15 : decode cJ7_copyOfRangeByte_39247 15 = .ok (.iload_n 1, 1) := db5_7.2.2.2.2.2.2.2.2.2.2.2.1
theorem dJ7_copyOfRangeByte_39247_16 : decode cJ7_copyOfRangeByte_39247 16 = .ok (.aload 4, 2) := db5_7.2.2.2.2.2.2.2.2.2.2.2.2.1
theorem dJ7_copyOfRangeByte_39247_18 : decode cJ7_copyOfRangeByte_39247 18 = .ok (.iconst 0, 1) := db5_7.2.2.2.2.2.2.2.2.2.2.2.2.2.1
theorem dJ7_copyOfRangeByte_39247_19 : decode cJ7_copyOfRangeByte_39247 19 = .ok (.aload_n 0, 1) := db5_7.2.2.2.2.2.2.2.2.2.2.2.2.2.2.1
theorem dJ7_copyOfRangeByte_39247_20 : decode cJ7_copyOfRangeByte_39247 20 = .ok (.arraylength, 1) := db5_7.2.2.2.2.2.2.2.2.2.2.2.2.2.2.2
theorem db5_8 : (decode cJ7_copyOfRangeByte_39247 21 = .ok (.iload_n 1, 1)) ∧ (decode cJ7_copyOfRangeByte_39247 22 = .ok (.isub, 1)) ∧ (decode cJ7_copyOfRangeByte_39247 23 = .ok (.iload_n 3, 1)) ∧ (decode cJ7_copyOfRangeByte_39247 24 = .ok (.invokestatic 304, 3)) ∧ (decode cJ7_copyOfRangeByte_39247 27 = .ok (.invokestatic 150, 3)) ∧ (decode cJ7_copyOfRangeByte_39247 30 = .ok (.aload 4, 2)) ∧ (decode cJ7_copyOfRangeByte_39247 32 = .ok (.areturn, 1)) := by decide +kernel
theorem dJ7_copyOfRangeByte_39247_21 : decode cJ7_copyOfRangeByte_39247 21 = .ok (.iload_n 1, 1) := db5_8.1
theorem dJ7_copyOfRangeByte_39247_22 : decode cJ7_copyOfRangeByte_39247 22 = .ok (.isub, 1) := db5_8.2.1
theorem dJ7_copyOfRangeByte_39247_23 : decode cJ7_copyOfRangeByte_39247 23 = .ok (.iload_n 3, 1) := db5_8.2.2.1
theorem dJ7_copyOfRangeByte_39247_24 : decode cJ7_copyOfRangeByte_39247 24 = .ok (.invokestatic 304, 3) := db5_8.2.2.2.1
theorem dJ7_copyOfRangeByte_39247_27 : decode cJ7_copyOfRangeByte_39247 27 = .ok (.invokestatic 150, 3) := db5_8.2.2.2.2.1
theorem dJ7_copyOfRangeByte_39247_30 : decode cJ7_copyOfRangeByte_39247 30 = .ok (.aload 4, 2) := db5_8.2.2.2.2.2.1
theorem dJ7_copyOfRangeByte_39247_32 : decode cJ7_copyOfRangeByte_39247 32 = .ok (.areturn, 1) := db5_8.2.2.2.2.2.2
theorem db5_9 : (decode cJ15_checkIndex_7cf53 0 = .ok (.iload_n 0, 1)) ∧ (decode cJ15_checkIndex_7cf53 1 = .ok (.iload_n 1, 1)) ∧ (decode cJ15_checkIndex_7cf53 2 = .ok (.aconst_null, 1)) ∧ (decode cJ15_checkIndex_7cf53 3 = .ok (.invokestatic 105, 3)) ∧ (decode cJ15_checkIndex_7cf53 6 = .ok (.ireturn, 1)) := by decide +kernel
theorem dJ15_checkIndex_7cf53_0 : decode cJ15_checkIndex_7cf53 0 = .ok (.iload_n 0, 1) := db5_9.1
theorem dJ15_checkIndex_7cf53_1 : decode cJ15_checkIndex_7cf53 1 = .ok (.iload_n 1, 1) := db5_9.2.1
theorem dJ15_checkIndex_7cf53_2 : decode cJ15_checkIndex_7cf53 2 = .ok (.aconst_null, 1) := db5_9.2.2.1
theorem dJ15_checkIndex_7cf53_3 : decode cJ15_checkIndex_7cf53 3 = .ok (.invokestatic 105, 3) := db5_9.2.2.2.1
theorem dJ15_checkIndex_7cf53_6 : decode cJ15_checkIndex_7cf53 6 = .ok (.ireturn, 1) := db5_9.2.2.2.2
theorem db5_10 : (decode cJ8_newLength_cabcc 0 = .ok (.iload_n 0, 1)) ∧ (decode cJ8_newLength_cabcc 1 = .ok (.iload_n 1, 1)) ∧ (decode cJ8_newLength_cabcc 2 = .ok (.iload_n 2, 1)) ∧ (decode cJ8_newLength_cabcc 3 = .ok (.invokestatic 194, 3)) ∧ (decode cJ8_newLength_cabcc 6 = .ok (.iadd, 1)) ∧ (decode cJ8_newLength_cabcc 7 = .ok (.istore_n 3, 1)) ∧ (decode cJ8_newLength_cabcc 8 = .ok (.iconst 0, 1)) ∧ (decode cJ8_newLength_cabcc 9 = .ok (.iload_n 3, 1)) ∧ (decode cJ8_newLength_cabcc 10 = .ok (.if_icmp .ge 11, 3)) ∧ (decode cJ8_newLength_cabcc 13 = .ok (.iload_n 3, 1)) ∧ (decode cJ8_newLength_cabcc 14 = .ok (.ldc 200, 2)) ∧ (decode cJ8_newLength_cabcc 16 = .ok (.if_icmp .gt 5, 3)) ∧ (decode cJ8_newLength_cabcc 19 = .ok (.iload_n 3, 1)) ∧ (decode cJ8_newLength_cabcc 20 = .ok (.ireturn, 1)) ∧ (decode cJ8_newLength_cabcc 21 = .ok (.iload_n 0, 1)) ∧ (decode cJ8_newLength_cabcc 22 = .ok (.iload_n 1, 1)) := by decide +kernel
theorem dJ8_newLength_cabcc_0 : decode cJ8_newLength_cabcc 0 = .ok (.iload_n 0, 1) := db5_10.1
theorem dJ8_newLength_cabcc_1 : decode cJ8_newLength_cabcc 1 = .ok (.iload_n 1, 1) := db5_10.2.1
theorem dJ8_newLength_cabcc_2 : decode cJ8_newLength_cabcc 2 = .ok (.iload_n 2, 1) := db5_10.2.2.1
theorem dJ8_newLength_cabcc_3 : decode cJ8_newLength_cabcc 3 = .ok (.invokestatic 194, 3) := db5_10.2.2.2.1
theorem dJ8_newLength_cabcc_6 : decode cJ8_newLength_cabcc 6 = .ok (.iadd, 1) := db5_10.2.2.2.2.1
theorem dJ8_newLength_cabcc_7 : decode cJ8_newLength_cabcc 7 = .ok (.istore_n 3, 1) := db5_10.2.2.2.2.2.1
theorem dJ8_newLength_cabcc_8 : decode cJ8_newLength_cabcc 8 = .ok (.iconst 0, 1) := db5_10.2.2.2.2.2.2.1
theorem dJ8_newLength_cabcc_9 : decode cJ8_newLength_cabcc 9 = .ok (.iload_n 3, 1) := db5_10.2.2.2.2.2.2.2.1
theorem dJ8_newLength_cabcc_10 : decode cJ8_newLength_cabcc 10 = .ok (.if_icmp .ge 11, 3) := db5_10.2.2.2.2.2.2.2.2.1
theorem dJ8_newLength_cabcc_13 : decode cJ8_newLength_cabcc 13 = .ok (.iload_n 3, 1) := db5_10.2.2.2.2.2.2.2.2.2.1
theorem dJ8_newLength_cabcc_14 : decode cJ8_newLength_cabcc 14 = .ok (.ldc 200, 2) := db5_10.2.2.2.2.2.2.2.2.2.2.1
theorem dJ8_newLength_cabcc_16 : decode cJ8_newLength_cabcc 16 = .ok (.if_icmp .gt 5, 3) := db5_10.2.2.2.2.2.2.2.2.2.2.2.1
theorem dJ8_newLength_cabcc_19 : decode cJ8_newLength_cabcc 19 = .ok (.iload_n 3, 1) := db5_10.2.2.2.2.2.2.2.2.2.2.2.2.1
theorem dJ8_newLength_cabcc_20 : decode cJ8_newLength_cabcc 20 = .ok (.ireturn, 1) := db5_10.2.2.2.2.2.2.2.2.2.2.2.2.2.1
theorem dJ8_newLength_cabcc_21 : decode cJ8_newLength_cabcc 21 = .ok (.iload_n 0, 1) := db5_10.2.2.2.2.2.2.2.2.2.2.2.2.2.2.1
theorem dJ8_newLength_cabcc_22 : decode cJ8_newLength_cabcc 22 = .ok (.iload_n 1, 1) := db5_10.2.2.2.2.2.2.2.2.2.2.2.2.2.2.2
theorem db5_11 : (decode cJ8_newLength_cabcc 23 = .ok (.invokestatic 201, 3)) ∧ (decode cJ8_newLength_cabcc 26 = .ok (.ireturn, 1)) := by decide +kernel
theorem dJ8_newLength_cabcc_23 : decode cJ8_newLength_cabcc 23 = .ok (.invokestatic 201, 3) := db5_11.1
theorem dJ8_newLength_cabcc_26 : decode cJ8_newLength_cabcc 26 = .ok (.ireturn, 1) := db5_11.2
theorem db5_12 : (decode cJ8_hugeLength_7cf53 0 = .ok (.iload_n 0, 1)) ∧ (decode cJ8_hugeLength_7cf53 1 = .ok (.iload_n 1, 1)) ∧ (decode cJ8_hugeLength_7cf53 2 = .ok (.iadd, 1)) ∧ (decode cJ8_hugeLength_7cf53 3 = .ok (.istore_n 2, 1)) ∧ (decode cJ8_hugeLength_7cf53 4 = .ok (.iload_n 2, 1)) ∧ (decode cJ8_hugeLength_7cf53 5 = .ok (.ifCond .ge 44, 3)) ∧ (decode cJ8_hugeLength_7cf53 8 = .ok (.new 204, 3)) ∧ (decode cJ8_hugeLength_7cf53 11 = .ok (.dup, 1)) ∧ (decode cJ8_hugeLength_7cf53 12 = .ok (.new 89, 3)) ∧ (decode cJ8_hugeLength_7cf53 15 = .ok (.dup, 1)) ∧ (decode cJ8_hugeLength_7cf53 16 = .ok (.invokespecial 91, 3)) ∧ (decode cJ8_hugeLength_7cf53 19 = .ok (.ldc 206, 2)) ∧ (decode cJ8_hugeLength_7cf53 21 = .ok (.invokevirtual 94, 3)) ∧ (decode cJ8_hugeLength_7cf53 24 = .ok (.iload_n 0, 1)) ∧ (decode cJ8_hugeLength_7cf53 25 = .ok (.invokevirtual 98, 3)) ∧ (decode cJ8_hugeLength_7cf53 28 = .ok (.ldc 208, 2)) := by decide +kernel
theorem dJ8_hugeLength_7cf53_0 : decode cJ8_hugeLength_7cf53 0 = .ok (.iload_n 0, 1) := db5_12.1
theorem dJ8_hugeLength_7cf53_1 : decode cJ8_hugeLength_7cf53 1 = .ok (.iload_n 1, 1) := db5_12.2.1
theorem dJ8_hugeLength_7cf53_2 : decode cJ8_hugeLength_7cf53 2 = .ok (.iadd, 1) := db5_12.2.2.1
theorem dJ8_hugeLength_7cf53_3 : decode cJ8_hugeLength_7cf53 3 = .ok (.istore_n 2, 1) := db5_12.2.2.2.1
theorem dJ8_hugeLength_7cf53_4 : decode cJ8_hugeLength_7cf53 4 = .ok (.iload_n 2, 1) := db5_12.2.2.2.2.1
theorem dJ8_hugeLength_7cf53_5 : decode cJ8_hugeLength_7cf53 5 = .ok (.ifCond .ge 44, 3) := db5_12.2.2.2.2.2.1
theorem dJ8_hugeLength_7cf53_8 : decode cJ8_hugeLength_7cf53 8 = .ok (.new 204, 3) := db5_12.2.2.2.2.2.2.1
theorem dJ8_hugeLength_7cf53_11 : decode cJ8_hugeLength_7cf53 11 = .ok (.dup, 1) := db5_12.2.2.2.2.2.2.2.1
theorem dJ8_hugeLength_7cf53_12 : decode cJ8_hugeLength_7cf53 12 = .ok (.new 89, 3) := db5_12.2.2.2.2.2.2.2.2.1
theorem dJ8_hugeLength_7cf53_15 : decode cJ8_hugeLength_7cf53 15 = .ok (.dup, 1) := db5_12.2.2.2.2.2.2.2.2.2.1
theorem dJ8_hugeLength_7cf53_16 : decode cJ8_hugeLength_7cf53 16 = .ok (.invokespecial 91, 3) := db5_12.2.2.2.2.2.2.2.2.2.2.1
theorem dJ8_hugeLength_7cf53_19 : decode cJ8_hugeLength_7cf53 19 = .ok (.ldc 206, 2) := db5_12.2.2.2.2.2.2.2.2.2.2.2.1
theorem dJ8_hugeLength_7cf53_21 : decode cJ8_hugeLength_7cf53 21 = .ok (.invokevirtual 94, 3) := db5_12.2.2.2.2.2.2.2.2.2.2.2.2.1
theorem dJ8_hugeLength_7cf53_24 : decode cJ8_hugeLength_7cf53 24 = .ok (.iload_n 0, 1) := db5_12.2.2.2.2.2.2.2.2.2.2.2.2.2.1
theorem dJ8_hugeLength_7cf53_25 : decode cJ8_hugeLength_7cf53 25 = .ok (.invokevirtual 98, 3) := db5_12.2.2.2.2.2.2.2.2.2.2.2.2.2.2.1
theorem dJ8_hugeLength_7cf53_28 : decode cJ8_hugeLength_7cf53 28 = .ok (.ldc 208, 2) := db5_12.2.2.2.2.2.2.2.2.2.2.2.2.2.2.2
theorem db5_13 : (decode cJ8_hugeLength_7cf53 30 = .ok (.invokevirtual 94, 3)) ∧ (decode cJ8_hugeLength_7cf53 33 = .ok (.iload_n 1, 1)) ∧ (decode cJ8_hugeLength_7cf53 34 = .ok (.invokevirtual 98, 3)) ∧ (decode cJ8_hugeLength_7cf53 37 = .ok (.ldc 210, 2)) ∧ (decode cJ8_hugeLength_7cf53 39 = .ok (.invokevirtual 94, 3)) ∧ (decode cJ8_hugeLength_7cf53 42 = .ok (.invokevirtual 101, 3)) ∧ (decode cJ8_hugeLength_7cf53 45 = .ok (.invokespecial 212, 3)) ∧ (decode cJ8_hugeLength_7cf53 48 = .ok (.athrow, 1)) ∧ (decode cJ8_hugeLength_7cf53 49 = .ok (.iload_n 2, 1)) ∧ (decode cJ8_hugeLength_7cf53 50 = .ok (.ldc 200, 2)) ∧ (decode cJ8_hugeLength_7cf53 52 = .ok (.if_icmp .gt 6, 3)) ∧ (decode cJ8_hugeLength_7cf53 55 = .ok (.ldc 200, 2)) ∧ (decode cJ8_hugeLength_7cf53 57 = .ok (.ireturn, 1)) ∧ (decode cJ8_hugeLength_7cf53 58 = .ok (.iload_n 2, 1)) ∧ (decode cJ8_hugeLength_7cf53 59 = .ok (.ireturn, 1)) := by decide +kernel
theorem dJ8_hugeLength_7cf53_30 : decode cJ8_hugeLength_7cf53 30 = .ok (.invokevirtual 94, 3) := db5_13.1
theorem dJ8_hugeLength_7cf53_33 : decode cJ8_hugeLength_7cf53 33 = .ok (.iload_n 1, 1) := db5_13.2.1
theorem dJ8_hugeLength_7cf53_34 : decode cJ8_hugeLength_7cf53 34 = .ok (.invokevirtual 98, 3) := db5_13.2.2.1
theorem dJ8_hugeLength_7cf53_37 : decode cJ8_hugeLength_7cf53 37 = .ok (.ldc 210, 2) := db5_13.2.2.2.1
theorem dJ8_hugeLength_7cf53_39 : decode cJ8_hugeLength_7cf53 39 = .ok (.invokevirtual 94, 3) := db5_13.2.2.2.2.1
theorem dJ8_hugeLength_7cf53_42 : decode cJ8_hugeLength_7cf53 42 = .ok (.invokevirtual 101, 3) := db5_13.2.2.2.2.2.1
theorem dJ8_hugeLength_7cf53_45 : decode cJ8_hugeLength_7cf53 45 = .ok (.invokespecial 212, 3) := db5_13.2.2.2.2.2.2.1
theorem dJ8_hugeLength_7cf53_48 : decode cJ8_hugeLength_7cf53 48 = .ok (.athrow, 1) := db5_13.2.2.2.2.2.2.2.1
theorem dJ8_hugeLength_7cf53_49 : decode cJ8_hugeLength_7cf53 49 = .ok (.iload_n 2, 1) := db5_13.2.2.2.2.2.2.2.2.1
theorem dJ8_hugeLength_7cf53_50 : decode cJ8_hugeLength_7cf53 50 = .ok (.ldc 200, 2) := db5_13.2.2.2.2.2.2.2.2.2.1
theorem dJ8_hugeLength_7cf53_52 : decode cJ8_hugeLength_7cf53 52 = .ok (.if_icmp .gt 6, 3) := db5_13.2.2.2.2.2.2.2.2.2.2.1
theorem dJ8_hugeLength_7cf53_55 : decode cJ8_hugeLength_7cf53 55 = .ok (.ldc 200, 2) := db5_13.2.2.2.2.2.2.2.2.2.2.2.1
theorem dJ8_hugeLength_7cf53_57 : decode cJ8_hugeLength_7cf53 57 = .ok (.ireturn, 1) := db5_13.2.2.2.2.2.2.2.2.2.2.2.2.1
theorem dJ8_hugeLength_7cf53_58 : decode cJ8_hugeLength_7cf53 58 = .ok (.iload_n 2, 1) := db5_13.2.2.2.2.2.2.2.2.2.2.2.2.2.1
theorem dJ8_hugeLength_7cf53_59 : decode cJ8_hugeLength_7cf53 59 = .ok (.ireturn, 1) := db5_13.2.2.2.2.2.2.2.2.2.2.2.2.2.2
theorem db5_14 : (decode cJ3_checkIndex_8e157 0 = .ok (.iload_n 0, 1)) ∧ (decode cJ3_checkIndex_8e157 1 = .ok (.ifCond .lt 8, 3)) ∧ (decode cJ3_checkIndex_8e157 4 = .ok (.iload_n 0, 1)) ∧ (decode cJ3_checkIndex_8e157 5 = .ok (.iload_n 1, 1)) ∧ (decode cJ3_checkIndex_8e157 6 = .ok (.if_icmp .lt 10, 3)) ∧ (decode cJ3_checkIndex_8e157 9 = .ok (.aload_n 2, 1)) ∧ (decode cJ3_checkIndex_8e157 10 = .ok (.iload_n 0, 1)) ∧ (decode cJ3_checkIndex_8e157 11 = .ok (.iload_n 1, 1)) ∧ (decode cJ3_checkIndex_8e157 12 = .ok (.invokestatic 95, 3)) ∧ (decode cJ3_checkIndex_8e157 15 = .ok (.athrow, 1)) ∧ (decode cJ3_checkIndex_8e157 16 = .ok (.iload_n 0, 1)) ∧ (decode cJ3_checkIndex_8e157 17 = .ok (.ireturn, 1)) := by decide +kernel
theorem dJ3_checkIndex_8e157_0 : decode cJ3_checkIndex_8e157 0 = .ok (.iload_n 0, 1) := db5_14.1
theorem dJ3_checkIndex_8e157_1 : decode cJ3_checkIndex_8e157 1 = .ok (.ifCond .lt 8, 3) := db5_14.2.1
theorem dJ3_checkIndex_8e157_4 : decode cJ3_checkIndex_8e157 4 = .ok (.iload_n 0, 1) := db5_14.2.2.1
theorem dJ3_checkIndex_8e157_5 : decode cJ3_checkIndex_8e157 5 = .ok (.iload_n 1, 1) := db5_14.2.2.2.1
theorem dJ3_checkIndex_8e157_6 : decode cJ3_checkIndex_8e157 6 = .ok (.if_icmp .lt 10, 3) := db5_14.2.2.2.2.1
theorem dJ3_checkIndex_8e157_9 : decode cJ3_checkIndex_8e157 9 = .ok (.aload_n 2, 1) := db5_14.2.2.2.2.2.1
theorem dJ3_checkIndex_8e157_10 : decode cJ3_checkIndex_8e157 10 = .ok (.iload_n 0, 1) := db5_14.2.2.2.2.2.2.1
theorem dJ3_checkIndex_8e157_11 : decode cJ3_checkIndex_8e157 11 = .ok (.iload_n 1, 1) := db5_14.2.2.2.2.2.2.2.1
theorem dJ3_checkIndex_8e157_12 : decode cJ3_checkIndex_8e157 12 = .ok (.invokestatic 95, 3) := db5_14.2.2.2.2.2.2.2.2.1
theorem dJ3_checkIndex_8e157_15 : decode cJ3_checkIndex_8e157 15 = .ok (.athrow, 1) := db5_14.2.2.2.2.2.2.2.2.2.1
theorem dJ3_checkIndex_8e157_16 : decode cJ3_checkIndex_8e157 16 = .ok (.iload_n 0, 1) := db5_14.2.2.2.2.2.2.2.2.2.2.1
theorem dJ3_checkIndex_8e157_17 : decode cJ3_checkIndex_8e157 17 = .ok (.ireturn, 1) := db5_14.2.2.2.2.2.2.2.2.2.2.2
theorem db5_15 : (decode cJ3_checkFromToIndex_8c36e 0 = .ok (.iload_n 0, 1)) ∧ (decode cJ3_checkFromToIndex_8c36e 1 = .ok (.ifCond .lt 13, 3)) ∧ (decode cJ3_checkFromToIndex_8c36e 4 = .ok (.iload_n 0, 1)) ∧ (decode cJ3_checkFromToIndex_8c36e 5 = .ok (.iload_n 1, 1)) ∧ (decode cJ3_checkFromToIndex_8c36e 6 = .ok (.if_icmp .gt 8, 3)) ∧ (decode cJ3_checkFromToIndex_8c36e 9 = .ok (.iload_n 1, 1)) ∧ (decode cJ3_checkFromToIndex_8c36e 10 = .ok (.iload_n 2, 1)) ∧ (decode cJ3_checkFromToIndex_8c36e 11 = .ok (.if_icmp .le 11, 3)) ∧ (decode cJ3_checkFromToIndex_8c36e 14 = .ok (.aload_n 3, 1)) ∧ (decode cJ3_checkFromToIndex_8c36e 15 = .ok (.iload_n 0, 1)) ∧ (decode cJ3_checkFromToIndex_8c36e 16 = .ok (.iload_n 1, 1)) ∧ (decode cJ3_checkFromToIndex_8c36e 17 = .ok (.iload_n 2, 1)) ∧ (decode cJ3_checkFromToIndex_8c36e 18 = .ok (.invokestatic 99, 3)) ∧ (decode cJ3_checkFromToIndex_8c36e 21 = .ok (.athrow, 1)) ∧ (decode cJ3_checkFromToIndex_8c36e 22 = .ok (.iload_n 0, 1)) ∧ (decode cJ3_checkFromToIndex_8c36e 23 = .ok (.ireturn, 1)) := by decide +kernel
theorem dJ3_checkFromToIndex_8c36e_0 : decode cJ3_checkFromToIndex_8c36e 0 = .ok (.iload_n 0, 1) := db5_15.1
theorem dJ3_checkFromToIndex_8c36e_1 : decode cJ3_checkFromToIndex_8c36e 1 = .ok (.ifCond .lt 13, 3) := db5_15.2.1
theorem dJ3_checkFromToIndex_8c36e_4 : decode cJ3_checkFromToIndex_8c36e 4 = .ok (.iload_n 0, 1) := db5_15.2.2.1
theorem dJ3_checkFromToIndex_8c36e_5 : decode cJ3_checkFromToIndex_8c36e 5 = .ok (.iload_n 1, 1) := db5_15.2.2.2.1
theorem dJ3_checkFromToIndex_8c36e_6 : decode cJ3_checkFromToIndex_8c36e 6 = .ok (.if_icmp .gt 8, 3) := db5_15.2.2.2.2.1
theorem dJ3_checkFromToIndex_8c36e_9 : decode cJ3_checkFromToIndex_8c36e 9 = .ok (.iload_n 1, 1) := db5_15.2.2.2.2.2.1
theorem dJ3_checkFromToIndex_8c36e_10 : decode cJ3_checkFromToIndex_8c36e 10 = .ok (.iload_n 2, 1) := db5_15.2.2.2.2.2.2.1
theorem dJ3_checkFromToIndex_8c36e_11 : decode cJ3_checkFromToIndex_8c36e 11 = .ok (.if_icmp .le 11, 3) := db5_15.2.2.2.2.2.2.2.1
theorem dJ3_checkFromToIndex_8c36e_14 : decode cJ3_checkFromToIndex_8c36e 14 = .ok (.aload_n 3, 1) := db5_15.2.2.2.2.2.2.2.2.1
theorem dJ3_checkFromToIndex_8c36e_15 : decode cJ3_checkFromToIndex_8c36e 15 = .ok (.iload_n 0, 1) := db5_15.2.2.2.2.2.2.2.2.2.1
theorem dJ3_checkFromToIndex_8c36e_16 : decode cJ3_checkFromToIndex_8c36e 16 = .ok (.iload_n 1, 1) := db5_15.2.2.2.2.2.2.2.2.2.2.1
theorem dJ3_checkFromToIndex_8c36e_17 : decode cJ3_checkFromToIndex_8c36e 17 = .ok (.iload_n 2, 1) := db5_15.2.2.2.2.2.2.2.2.2.2.2.1
theorem dJ3_checkFromToIndex_8c36e_18 : decode cJ3_checkFromToIndex_8c36e 18 = .ok (.invokestatic 99, 3) := db5_15.2.2.2.2.2.2.2.2.2.2.2.2.1
theorem dJ3_checkFromToIndex_8c36e_21 : decode cJ3_checkFromToIndex_8c36e 21 = .ok (.athrow, 1) := db5_15.2.2.2.2.2.2.2.2.2.2.2.2.2.1
theorem dJ3_checkFromToIndex_8c36e_22 : decode cJ3_checkFromToIndex_8c36e 22 = .ok (.iload_n 0, 1) := db5_15.2.2.2.2.2.2.2.2.2.2.2.2.2.2.1
theorem dJ3_checkFromToIndex_8c36e_23 : decode cJ3_checkFromToIndex_8c36e 23 = .ok (.ireturn, 1) := db5_15.2.2.2.2.2.2.2.2.2.2.2.2.2.2.2
theorem db5_16 : (decode cJ3_checkFromIndexSize_8c36e 0 = .ok (.iload_n 2, 1)) ∧ (decode cJ3_checkFromIndexSize_8c36e 1 = .ok (.iload_n 0, 1)) ∧ (decode cJ3_checkFromIndexSize_8c36e 2 = .ok (.ior, 1)) ∧ (decode cJ3_checkFromIndexSize_8c36e 3 = .ok (.iload_n 1, 1)) ∧ (decode cJ3_checkFromIndexSize_8c36e 4 = .ok (.ior, 1)) ∧ (decode cJ3_checkFromIndexSize_8c36e 5 = .ok (.ifCond .lt 10, 3)) ∧ (decode cJ3_checkFromIndexSize_8c36e 8 = .ok (.iload_n 1, 1)) ∧ (decode cJ3_checkFromIndexSize_8c36e 9 = .ok (.iload_n 2, 1)) ∧ (decode cJ3_checkFromIndexSize_8c36e 10 = .ok (.iload_n 0, 1)) ∧ (decode cJ3_checkFromIndexSize_8c36e 11 = .ok (.isub, 1)) ∧ (decode cJ3_checkFromIndexSize_8c36e 12 = .ok (.if_icmp .le 11, 3)) ∧ (decode cJ3_checkFromIndexSize_8c36e 15 = .ok (.aload_n 3, 1)) ∧ (decode cJ3_checkFromIndexSize_8c36e 16 = .ok (.iload_n 0, 1)) ∧ (decode cJ3_checkFromIndexSize_8c36e 17 = .ok (.iload_n 1, 1)) ∧ (decode cJ3_checkFromIndexSize_8c36e 18 = .ok (.iload_n 2, 1)) ∧ (decode cJ3_checkFromIndexSize_8c36e 19 = .ok (.invokestatic 103, 3)) := by decide +kernel
theorem dJ3_checkFromIndexSize_8c36e_0 : decode cJ3_checkFromIndexSize_8c36e 0 = .ok (.iload_n 2, 1) := db5_16.1
theorem dJ3_checkFromIndexSize_8c36e_1 : decode cJ3_checkFromIndexSize_8c36e 1 = .ok (.iload_n 0, 1) := db5_16.2.1
theorem dJ3_checkFromIndexSize_8c36e_2 : decode cJ3_checkFromIndexSize_8c36e 2 = .ok (.ior, 1) := db5_16.2.2.1
theorem dJ3_checkFromIndexSize_8c36e_3 : decode cJ3_checkFromIndexSize_8c36e 3 = .ok (.iload_n 1, 1) := db5_16.2.2.2.1
theorem dJ3_checkFromIndexSize_8c36e_4 : decode cJ3_checkFromIndexSize_8c36e 4 = .ok (.ior, 1) := db5_16.2.2.2.2.1
theorem dJ3_checkFromIndexSize_8c36e_5 : decode cJ3_checkFromIndexSize_8c36e 5 = .ok (.ifCond .lt 10, 3) := db5_16.2.2.2.2.2.1
theorem dJ3_checkFromIndexSize_8c36e_8 : decode cJ3_checkFromIndexSize_8c36e 8 = .ok (.iload_n 1, 1) := db5_16.2.2.2.2.2.2.1
theorem dJ3_checkFromIndexSize_8c36e_9 : decode cJ3_checkFromIndexSize_8c36e 9 = .ok (.iload_n 2, 1) := db5_16.2.2.2.2.2.2.2.1
theorem dJ3_checkFromIndexSize_8c36e_10 : decode cJ3_checkFromIndexSize_8c36e 10 = .ok (.iload_n 0, 1) := db5_16.2.2.2.2.2.2.2.2.1
theorem dJ3_checkFromIndexSize_8c36e_11 : decode cJ3_checkFromIndexSize_8c36e 11 = .ok (.isub, 1) := db5_16.2.2.2.2.2.2.2.2.2.1
theorem dJ3_checkFromIndexSize_8c36e_12 : decode cJ3_checkFromIndexSize_8c36e 12 = .ok (.if_icmp .le 11, 3) := db5_16.2.2.2.2.2.2.2.2.2.2.1
theorem dJ3_checkFromIndexSize_8c36e_15 : decode cJ3_checkFromIndexSize_8c36e 15 = .ok (.aload_n 3, 1) := db5_16.2.2.2.2.2.2.2.2.2.2.2.1
theorem dJ3_checkFromIndexSize_8c36e_16 : decode cJ3_checkFromIndexSize_8c36e 16 = .ok (.iload_n 0, 1) := db5_16.2.2.2.2.2.2.2.2.2.2.2.2.1
theorem dJ3_checkFromIndexSize_8c36e_17 : decode cJ3_checkFromIndexSize_8c36e 17 = .ok (.iload_n 1, 1) := db5_16.2.2.2.2.2.2.2.2.2.2.2.2.2.1
theorem dJ3_checkFromIndexSize_8c36e_18 : decode cJ3_checkFromIndexSize_8c36e 18 = .ok (.iload_n 2, 1) := db5_16.2.2.2.2.2.2.2.2.2.2.2.2.2.2.1
theorem dJ3_checkFromIndexSize_8c36e_19 : decode cJ3_checkFromIndexSize_8c36e 19 = .ok (.invokestatic 103, 3) := db5_16.2.2.2.2.2.2.2.2.2.2.2.2.2.2.2
theorem db5_17 : (decode cJ3_checkFromIndexSize_8c36e 22 = .ok (.athrow, 1)) ∧ (decode cJ3_checkFromIndexSize_8c36e 23 = .ok (.iload_n 0, 1)) ∧ (decode cJ3_checkFromIndexSize_8c36e 24 = .ok (.ireturn, 1)) := by decide +kernel
theorem dJ3_checkFromIndexSize_8c36e_22 : decode cJ3_checkFromIndexSize_8c36e 22 = .ok (.athrow, 1) := db5_17.1
theorem dJ3_checkFromIndexSize_8c36e_23 : decode cJ3_checkFromIndexSize_8c36e 23 = .ok (.iload_n 0, 1) := db5_17.2.1
theorem dJ3_checkFromIndexSize_8c36e_24 : decode cJ3_checkFromIndexSize_8c36e 24 = .ok (.ireturn, 1) := db5_17.2.2
theorem db5_18 : (decode cL_of 0 = .ok (.aload 5, 2)) ∧ (decode cL_of 2 = .ok (.aload_n 0, 1)) ∧ (decode cL_of 3 = .ok (.iload_n 1, 1)) ∧ (decode cL_of 4 = .ok (.iload_n 2, 1)) ∧ (decode cL_of 5 = .ok (.iload_n 3, 1)) ∧ (decode cL_of 6 = .ok (.iload 4, 2)) ∧ (decode cL_of 8 = .ok (.invokevirtual 7, 3)) ∧ (decode cL_of 11 = .ok (.i2l, 1)) ∧ (decode cL_of 12 = .ok (.putfield 13, 3)) ∧ (decode cL_of 15 = .ok (.goto 15, 3)) ∧ (decode cL_of 18 = .ok (.astore 6, 2)) ∧ (decode cL_of 20 = .ok (.iconst 1, 1)) ∧ (decode cL_of 21 = .ok (.ireturn, 1)) ∧ (decode cL_of 22 = .ok (.astore 6, 2)) ∧ (decode cL_of 24 = .ok (.iconst 2, 1)) ∧ (decode cL_of 25 = .ok (.ireturn, 1)) := by decide +kernel
theorem dL_of_0 : decode cL_of 0 = .ok (.aload 5, 2) := db5_18.1
theorem dL_of_2 : decode cL_of 2 = .ok (.aload_n 0, 1) := db5_18.2.1
theorem dL_of_3 : decode cL_of 3 = .ok (.iload_n 1, 1) := db5_18.2.2.1
theorem dL_of_4 : decode cL_of 4 = .ok (.iload_n 2, 1) := db5_18.2.2.2.1
theorem dL_of_5 : decode cL_of 5 = .ok (.iload_n 3, 1) := db5_18.2.2.2.2.1
theorem dL_of_6 : decode cL_of 6 = .ok (.iload 4, 2) := db5_18.2.2.2.2.2.1
theorem dL_of_8 : decode cL_of 8 = .ok (.invokevirtual 7, 3) := db5_18.2.2.2.2.2.2.1
theorem dL_of_11 : decode cL_of 11 = .ok (.i2l, 1) := db5_18.2.2.2.2.2.2.2.1
theorem dL_of_12 : decode cL_of 12 = .ok (.putfield 13, 3) := db5_18.2.2.2.2.2.2.2.2.1
theorem dL_of_15 : decode cL_of 15 = .ok (.goto 15, 3) := db5_18.2.2.2.2.2.2.2.2.2.1
theorem dL_of_18 : decode cL_of 18 = .ok (.astore 6, 2) := db5_18.2.2.2.2.2.2.2.2.2.2.1
theorem dL_of_20 : decode cL_of 20 = .ok (.iconst 1, 1) := db5_18.2.2.2.2.2.2.2.2.2.2.2.1
theorem dL_of_21 : decode cL_of 21 = .ok (.ireturn, 1) := db5_18.2.2.2.2.2.2.2.2.2.2.2.2.1
theorem dL_of_22 : decode cL_of 22 = .ok (.astore 6, 2) := db5_18.2.2.2.2.2.2.2.2.2.2.2.2.2.1
theorem dL_of_24 : decode cL_of 24 = .ok (.iconst 2, 1) := db5_18.2.2.2.2.2.2.2.2.2.2.2.2.2.2.1
theorem dL_of_25 : decode cL_of 25 = .ok (.ireturn, 1) := db5_18.2.2.2.2.2.2.2.2.2.2.2.2.2.2.2
theorem db5_19 : (decode cL_of 26 = .ok (.astore 6, 2)) ∧ (decode cL_of 28 = .ok (.iconst 3, 1)) ∧ (decode cL_of 29 = .ok (.ireturn, 1)) ∧ (decode cL_of 30 = .ok (.iconst 0, 1)) ∧ (decode cL_of 31 = .ok (.ireturn, 1)) := by decide +kernel
theorem dL_of_26 : decode cL_of 26 = .ok (.astore 6, 2) := db5_19.1
theorem dL_of_28 : decode cL_of 28 = .ok (.iconst 3, 1) := db5_19.2.1
theorem dL_of_29 : decode cL_of 29 = .ok (.ireturn, 1) := db5_19.2.2.1
theorem dL_of_30 : decode cL_of 30 = .ok (.iconst 0, 1) := db5_19.2.2.2.1
theorem dL_of_31 : decode cL_of 31 = .ok (.ireturn, 1) := db5_19.2.2.2.2
theorem db5_20 : (decode cL_ofDay 0 = .ok (.aload_n 3, 1)) ∧ (decode cL_ofDay 1 = .ok (.aload_n 0, 1)) ∧ (decode cL_ofDay 2 = .ok (.iload_n 1, 1)) ∧ (decode cL_ofDay 3 = .ok (.iload_n 2, 1)) ∧ (decode cL_ofDay 4 = .ok (.invokevirtual 25, 3)) ∧ (decode cL_ofDay 7 = .ok (.i2l, 1)) ∧ (decode cL_ofDay 8 = .ok (.putfield 13, 3)) ∧ (decode cL_ofDay 11 = .ok (.goto 11, 3)) ∧ (decode cL_ofDay 14 = .ok (.astore 4, 2)) ∧ (decode cL_ofDay 16 = .ok (.iconst 1, 1)) ∧ (decode cL_ofDay 17 = .ok (.ireturn, 1)) ∧ (decode cL_ofDay 18 = .ok (.astore 4, 2)) ∧ (decode cL_ofDay 20 = .ok (.iconst 2, 1)) ∧ (decode cL_ofDay 21 = .ok (.ireturn, 1)) ∧ (decode cL_ofDay 22 = .ok (.iconst 0, 1)) ∧ (decode cL_ofDay 23 = .ok (.ireturn, 1)) := by decide +kernel
theorem dL_ofDay_0 : decode cL_ofDay 0 = .ok (.aload_n 3, 1) := db5_20.1
theorem dL_ofDay_1 : decode cL_ofDay 1 = .ok (.aload_n 0, 1) := db5_20.2.1
theorem dL_ofDay_2 : decode cL_ofDay 2 = .ok (.iload_n 1, 1) := db5_20.2.2.1
theorem dL_ofDay_3 : decode cL_ofDay 3 = .ok (.iload_n 2, 1) := db5_20.2.2.2.1
theorem dL_ofDay_4 : decode cL_ofDay 4 = .ok (.invokevirtual 25, 3) := db5_20.2.2.2.2.1
theorem dL_ofDay_7 : decode cL_ofDay 7 = .ok (.i2l, 1) := db5_20.2.2.2.2.2.1
theorem dL_ofDay_8 : decode cL_ofDay 8 = .ok (.putfield 13, 3) := db5_20.2.2.2.2.2.2.1
theorem dL_ofDay_11 : decode cL_ofDay 11 = .ok (.goto 11, 3) := db5_20.2.2.2.2.2.2.2.1
theorem dL_ofDay_14 : decode cL_ofDay 14 = .ok (.astore 4, 2) := db5_20.2.2.2.2.2.2.2.2.1
theorem dL_ofDay_16 : decode cL_ofDay 16 = .ok (.iconst 1, 1) := db5_20.2.2.2.2.2.2.2.2.2.1
theorem dL_ofDay_17 : decode cL_ofDay 17 = .ok (.ireturn, 1) := db5_20.2.2.2.2.2.2.2.2.2.2.1
theorem dL_ofDay_18 : decode cL_ofDay 18 = .ok (.astore 4, 2) := db5_20.2.2.2.2.2.2.2.2.2.2.2.1
theorem dL_ofDay_20 : decode cL_ofDay 20 = .ok (.iconst 2, 1) := db5_20.2.2.2.2.2.2.2.2.2.2.2.2.1
theorem dL_ofDay_21 : decode cL_ofDay 21 = .ok (.ireturn, 1) := db5_20.2.2.2.2.2.2.2.2.2.2.2.2.2.1
theorem dL_ofDay_22 : decode cL_ofDay 22 = .ok (.iconst 0, 1) := db5_20.2.2.2.2.2.2.2.2.2.2.2.2.2.2.1
theorem dL_ofDay_23 : decode cL_ofDay 23 = .ok (.ireturn, 1) := db5_20.2.2.2.2.2.2.2.2.2.2.2.2.2.2.2
theorem db5_21 : (decode cL_ofMonth 0 = .ok (.aload 4, 2)) ∧ (decode cL_ofMonth 2 = .ok (.aload_n 0, 1)) ∧ (decode cL_ofMonth 3 = .ok (.iload_n 1, 1)) ∧ (decode cL_ofMonth 4 = .ok (.iload_n 2, 1)) ∧ (decode cL_ofMonth 5 = .ok (.iload_n 3, 1)) ∧ (decode cL_ofMonth 6 = .ok (.invokevirtual 29, 3)) ∧ (decode cL_ofMonth 9 = .ok (.i2l, 1)) ∧ (decode cL_ofMonth 10 = .ok (.putfield 13, 3)) ∧ (decode cL_ofMonth 13 = .ok (.goto 11, 3)) ∧ (decode cL_ofMonth 16 = .ok (.astore 5, 2)) ∧ (decode cL_ofMonth 18 = .ok (.iconst 1, 1)) ∧ (decode cL_ofMonth 19 = .ok (.ireturn, 1)) ∧ (decode cL_ofMonth 20 = .ok (.astore 5, 2)) ∧ (decode cL_ofMonth 22 = .ok (.iconst 2, 1)) ∧ (decode cL_ofMonth 23 = .ok (.ireturn, 1)) ∧ (decode cL_ofMonth 24 = .ok (.iconst 0, 1)) := by decide +kernel
theorem dL_ofMonth_0 : decode cL_ofMonth 0 = .ok (.aload 4, 2) := db5_21.1
theorem dL_ofMonth_2 : decode cL_ofMonth 2 = .ok (.aload_n 0, 1) := db5_21.2.1
theorem dL_ofMonth_3 : decode cL_ofMonth 3 = .ok (.iload_n 1, 1) := db5_21.2.2.1
theorem dL_ofMonth_4 : decode cL_ofMonth 4 = .ok (.iload_n 2, 1) := db5_21.2.2.2.1
theorem dL_ofMonth_5 : decode cL_ofMonth 5 = .ok (.iload_n 3, 1) := db5_21.2.2.2.2.1
theorem dL_ofMonth_6 : decode cL_ofMonth 6 = .ok (.invokevirtual 29, 3) := db5_21.2.2.2.2.2.1
theorem dL_ofMonth_9 : decode cL_ofMonth 9 = .ok (.i2l, 1) := db5_21.2.2.2.2.2.2.1
theorem dL_ofMonth_10 : decode cL_ofMonth 10 = .ok (.putfield 13, 3) := db5_21.2.2.2.2.2.2.2.1
theorem dL_ofMonth_13 : decode cL_ofMonth 13 = .ok (.goto 11, 3) := db5_21.2.2.2.2.2.2.2.2.1
theorem dL_ofMonth_16 : decode cL_ofMonth 16 = .ok (.astore 5, 2) := db5_21.2.2.2.2.2.2.2.2.2.1
theorem dL_ofMonth_18 : decode cL_ofMonth 18 = .ok (.iconst 1, 1) := db5_21.2.2.2.2.2.2.2.2.2.2.1
theorem dL_ofMonth_19 : decode cL_ofMonth 19 = .ok (.ireturn, 1) := db5_21.2.2.2.2.2.2.2.2.2.2.2.1
theorem dL_ofMonth_20 : decode cL_ofMonth 20 = .ok (.astore 5, 2) := db5_21.2.2.2.2.2.2.2.2.2.2.2.2.1
theorem dL_ofMonth_22 : decode cL_ofMonth 22 = .ok (.iconst 2, 1) := db5_21.2.2.2.2.2.2.2.2.2.2.2.2.2.1
theorem dL_ofMonth_23 : decode cL_ofMonth 23 = .ok (.ireturn, 1) := db5_21.2.2.2.2.2.2.2.2.2.2.2.2.2.2.1
theorem dL_ofMonth_24 : decode cL_ofMonth 24 = .ok (.iconst 0, 1) := db5_21.2.2.2.2.2.2.2.2.2.2.2.2.2.2.2
theorem dL_ofMonth_25 : decode cL_ofMonth 25 = .ok (.ireturn, 1) := by decide +kernel
theorem db5_22 : (decode cL_copy 0 = .ok (.aload_n 3, 1)) ∧ (decode cL_copy 1 = .ok (.aload_n 0, 1)) ∧ (decode cL_copy 2 = .ok (.iload_n 1, 1)) ∧ (decode cL_copy 3 = .ok (.iload_n 2, 1)) ∧ (decode cL_copy 4 = .ok (.invokevirtual 33, 3)) ∧ (decode cL_copy 7 = .ok (.i2l, 1)) ∧ (decode cL_copy 8 = .ok (.putfield 13, 3)) ∧ (decode cL_copy 11 = .ok (.goto 7, 3)) ∧ (decode cL_copy 14 = .ok (.astore 4, 2)) ∧ (decode cL_copy 16 = .ok (.iconst 1, 1)) ∧ (decode cL_copy 17 = .ok (.ireturn, 1)) ∧ (decode cL_copy 18 = .ok (.iconst 0, 1)) ∧ (decode cL_copy 19 = .ok (.ireturn, 1)) := by decide +kernel
theorem dL_copy_0 : decode cL_copy 0 = .ok (.aload_n 3, 1) := db5_22.1
theorem dL_copy_1 : decode cL_copy 1 = .ok (.aload_n 0, 1) := db5_22.2.1
theorem dL_copy_2 : decode cL_copy 2 = .ok (.iload_n 1, 1) := db5_22.2.2.1
theorem dL_copy_3 : decode cL_copy 3 = .ok (.iload_n 2, 1) := db5_22.2.2.2.1
theorem dL_copy_4 : decode cL_copy 4 = .ok (.invokevirtual 33, 3) := db5_22.2.2.2.2.1
theorem dL_copy_7 : decode cL_copy 7 = .ok (.i2l, 1) := db5_22.2.2.2.2.2.1
theorem dL_copy_8 : decode cL_copy 8 = .ok (.putfield 13, 3) := db5_22.2.2.2.2.2.2.1
theorem dL_copy_11 : decode cL_copy 11 = .ok (.goto 7, 3) := db5_22.2.2.2.2.2.2.2.1
theorem dL_copy_14 : decode cL_copy 14 = .ok (.astore 4, 2) := db5_22.2.2.2.2.2.2.2.2.1
theorem dL_copy_16 : decode cL_copy 16 = .ok (.iconst 1, 1) := db5_22.2.2.2.2.2.2.2.2.2.1
theorem dL_copy_17 : decode cL_copy 17 = .ok (.ireturn, 1) := db5_22.2.2.2.2.2.2.2.2.2.2.1
theorem dL_copy_18 : decode cL_copy 18 = .ok (.iconst 0, 1) := db5_22.2.2.2.2.2.2.2.2.2.2.2.1
theorem dL_copy_19 : decode cL_copy 19 = .ok (.ireturn, 1) := db5_22.2.2.2.2.2.2.2.2.2.2.2.2
theorem db5_23 : (decode cL_first 0 = .ok (.aload_n 2, 1)) ∧ (decode cL_first 1 = .ok (.aload_n 0, 1)) ∧ (decode cL_first 2 = .ok (.iload_n 1, 1)) ∧ (decode cL_first 3 = .ok (.invokevirtual 36, 3)) ∧ (decode cL_first 6 = .ok (.i2l, 1)) ∧ (decode cL_first 7 = .ok (.putfield 13, 3)) ∧ (decode cL_first 10 = .ok (.goto 6, 3)) ∧ (decode cL_first 13 = .ok (.astore_n 3, 1)) ∧ (decode cL_first 14 = .ok (.iconst 1, 1)) ∧ (decode cL_first 15 = .ok (.ireturn, 1)) ∧ (decode cL_first 16 = .ok (.iconst 0, 1)) ∧ (decode cL_first 17 = .ok (.ireturn, 1)) := by decide +kernel
theorem dL_first_0 : decode cL_first 0 = .ok (.aload_n 2, 1) := db5_23.1
theorem dL_first_1 : decode cL_first 1 = .ok (.aload_n 0, 1) := db5_23.2.1
theorem dL_first_2 : decode cL_first 2 = .ok (.iload_n 1, 1) := db5_23.2.2.1
theorem dL_first_3 : decode cL_first 3 = .ok (.invokevirtual 36, 3) := db5_23.2.2.2.1
theorem dL_first_6 : decode cL_first 6 = .ok (.i2l, 1) := db5_23.2.2.2.2.1
theorem dL_first_7 : decode cL_first 7 = .ok (.putfield 13, 3) := db5_23.2.2.2.2.2.1
theorem dL_first_10 : decode cL_first 10 = .ok (.goto 6, 3) := db5_23.2.2.2.2.2.2.1
theorem dL_first_13 : decode cL_first 13 = .ok (.astore_n 3, 1) := db5_23.2.2.2.2.2.2.2.1
theorem dL_first_14 : decode cL_first 14 = .ok (.iconst 1, 1) := db5_23.2.2.2.2.2.2.2.2.1
theorem dL_first_15 : decode cL_first 15 = .ok (.ireturn, 1) := db5_23.2.2.2.2.2.2.2.2.2.1
theorem dL_first_16 : decode cL_first 16 = .ok (.iconst 0, 1) := db5_23.2.2.2.2.2.2.2.2.2.2.1
theorem dL_first_17 : decode cL_first 17 = .ok (.ireturn, 1) := db5_23.2.2.2.2.2.2.2.2.2.2.2
theorem db5_24 : (decode cL_last 0 = .ok (.aload_n 2, 1)) ∧ (decode cL_last 1 = .ok (.aload_n 0, 1)) ∧ (decode cL_last 2 = .ok (.iload_n 1, 1)) ∧ (decode cL_last 3 = .ok (.invokevirtual 40, 3)) ∧ (decode cL_last 6 = .ok (.i2l, 1)) ∧ (decode cL_last 7 = .ok (.putfield 13, 3)) ∧ (decode cL_last 10 = .ok (.goto 6, 3)) ∧ (decode cL_last 13 = .ok (.astore_n 3, 1)) ∧ (decode cL_last 14 = .ok (.iconst 1, 1)) ∧ (decode cL_last 15 = .ok (.ireturn, 1)) ∧ (decode cL_last 16 = .ok (.iconst 0, 1)) ∧ (decode cL_last 17 = .ok (.ireturn, 1)) := by decide +kernel
theorem dL_last_0 : decode cL_last 0 = .ok (.aload_n 2, 1) := db5_24.1
theorem dL_last_1 : decode cL_last 1 = .ok (.aload_n 0, 1) := db5_24.2.1
theorem dL_last_2 : decode cL_last 2 = .ok (.iload_n 1, 1) := db5_24.2.2.1
theorem dL_last_3 : decode cL_last 3 = .ok (.invokevirtual 40, 3) := db5_24.2.2.2.1
theorem dL_last_6 : decode cL_last 6 = .ok (.i2l, 1) := db5_24.2.2.2.2.1
theorem dL_last_7 : decode cL_last 7 = .ok (.putfield 13, 3) := db5_24.2.2.2.2.2.1
theorem dL_last_10 : decode cL_last 10 = .ok (.goto 6, 3) := db5_24.2.2.2.2.2.2.1
theorem dL_last_13 : decode cL_last 13 = .ok (.astore_n 3, 1) := db5_24.2.2.2.2.2.2.2.1
theorem dL_last_14 : decode cL_last 14 = .ok (.iconst 1, 1) := db5_24.2.2.2.2.2.2.2.2.1
theorem dL_last_15 : decode cL_last 15 = .ok (.ireturn, 1) := db5_24.2.2.2.2.2.2.2.2.2.1
theorem dL_last_16 : decode cL_last 16 = .ok (.iconst 0, 1) := db5_24.2.2.2.2.2.2.2.2.2.2.1
theorem dL_last_17 : decode cL_last 17 = .ok (.ireturn, 1) := db5_24.2.2.2.2.2.2.2.2.2.2.2
theorem db5_25 : (decode cL_withDay 0 = .ok (.aload_n 3, 1)) ∧ (decode cL_withDay 1 = .ok (.aload_n 0, 1)) ∧ (decode cL_withDay 2 = .ok (.iload_n 1, 1)) ∧ (decode cL_withDay 3 = .ok (.iload_n 2, 1)) ∧ (decode cL_withDay 4 = .ok (.invokevirtual 43, 3)) ∧ (decode cL_withDay 7 = .ok (.i2l, 1)) ∧ (decode cL_withDay 8 = .ok (.putfield 13, 3)) ∧ (decode cL_withDay 11 = .ok (.goto 15, 3)) ∧ (decode cL_withDay 14 = .ok (.astore 4, 2)) ∧ (decode cL_withDay 16 = .ok (.iconst 1, 1)) ∧ (decode cL_withDay 17 = .ok (.ireturn, 1)) ∧ (decode cL_withDay 18 = .ok (.astore 4, 2)) ∧ (decode cL_withDay 20 = .ok (.iconst 2, 1)) ∧ (decode cL_withDay 21 = .ok (.ireturn, 1)) ∧ (decode cL_withDay 22 = .ok (.astore 4, 2)) ∧ (decode cL_withDay 24 = .ok (.iconst 3, 1)) := by decide +kernel
theorem dL_withDay_0 : decode cL_withDay 0 = .ok (.aload_n 3, 1) := db5_25.1
theorem dL_withDay_1 : decode cL_withDay 1 = .ok (.aload_n 0, 1) := db5_25.2.1
theorem dL_withDay_2 : decode cL_withDay 2 = .ok (.iload_n 1, 1) := db5_25.2.2.1
theorem dL_withDay_3 : decode cL_withDay 3 = .ok (.iload_n 2, 1) := db5_25.2.2.2.1
theorem dL_withDay_4 : decode cL_withDay 4 = .ok (.invokevirtual 43, 3) := db5_25.2.2.2.2.1
theorem dL_withDay_7 : decode cL_withDay 7 = .ok (.i2l, 1) := db5_25.2.2.2.2.2.1
theorem dL_withDay_8 : decode cL_withDay 8 = .ok (.putfield 13, 3) := db5_25.2.2.2.2.2.2.1
theorem dL_withDay_11 : decode cL_withDay 11 = .ok (.goto 15, 3) := db5_25.2.2.2.2.2.2.2.1
theorem dL_withDay_14 : decode cL_withDay 14 = .ok (.astore 4, 2) := db5_25.2.2.2.2.2.2.2.2.1
theorem dL_withDay_16 : decode cL_withDay 16 = .ok (.iconst 1, 1) := db5_25.2.2.2.2.2.2.2.2.2.1
theorem dL_withDay_17 : decode cL_withDay 17 = .ok (.ireturn, 1) := db5_25.2.2.2.2.2.2.2.2.2.2.1
theorem dL_withDay_18 : decode cL_withDay 18 = .ok (.astore 4, 2) := db5_25.2.2.2.2.2.2.2.2.2.2.2.1
theorem dL_withDay_20 : decode cL_withDay 20 = .ok (.iconst 2, 1) := db5_25.2.2.2.2.2.2.2.2.2.2.2.2.1
theorem dL_withDay_21 : decode cL_withDay 21 = .ok (.ireturn, 1) := db5_25.2.2.2.2.2.2.2.2.2.2.2.2.2.1
theorem dL_withDay_22 : decode cL_withDay 22 = .ok (.astore 4, 2) := db5_25.2.2.2.2.2.2.2.2.2.2.2.2.2.2.1
theorem dL_withDay_24 : decode cL_withDay 24 = .ok (.iconst 3, 1) := db5_25.2.2.2.2.2.2.2.2.2.2.2.2.2.2.2
theorem db5_26 : (decode cL_withDay 25 = .ok (.ireturn, 1)) ∧ (decode cL_withDay 26 = .ok (.iconst 0, 1)) ∧ (decode cL_withDay 27 = .ok (.ireturn, 1)) := by decide +kernel
theorem dL_withDay_25 : decode cL_withDay 25 = .ok (.ireturn, 1) := db5_26.1
theorem dL_withDay_26 : decode cL_withDay 26 = .ok (.iconst 0, 1) := db5_26.2.1
theorem dL_withDay_27 : decode cL_withDay 27 = .ok (.ireturn, 1) := db5_26.2.2
theorem db5_27 : (decode cL_shift 0 = .ok (.aload_n 3, 1)) ∧ (decode cL_shift 1 = .ok (.aload_n 0, 1)) ∧ (decode cL_shift 2 = .ok (.iload_n 1, 1)) ∧ (decode cL_shift 3 = .ok (.iload_n 2, 1)) ∧ (decode cL_shift 4 = .ok (.invokevirtual 46, 3)) ∧ (decode cL_shift 7 = .ok (.i2l, 1)) ∧ (decode cL_shift 8 = .ok (.putfield 13, 3)) ∧ (decode cL_shift 11 = .ok (.goto 15, 3)) ∧ (decode cL_shift 14 = .ok (.astore 4, 2)) ∧ (decode cL_shift 16 = .ok (.iconst 1, 1)) ∧ (decode cL_shift 17 = .ok (.ireturn, 1)) ∧ (decode cL_shift 18 = .ok (.astore 4, 2)) ∧ (decode cL_shift 20 = .ok (.iconst 2, 1)) ∧ (decode cL_shift 21 = .ok (.ireturn, 1)) ∧ (decode cL_shift 22 = .ok (.astore 4, 2)) ∧ (decode cL_shift 24 = .ok (.iconst 3, 1)) := by decide +kernel
theorem dL_shift_0 : decode cL_shift 0 = .ok (.aload_n 3, 1) := db5_27.1
theorem dL_shift_1 : decode cL_shift 1 = .ok (.aload_n 0, 1) := db5_27.2.1
theorem dL_shift_2 : decode cL_shift 2 = .ok (.iload_n 1, 1) := db5_27.2.2.1
theorem dL_shift_3 : decode cL_shift 3 = .ok (.iload_n 2, 1) := db5_27.2.2.2.1
theorem dL_shift_4 : decode cL_shift 4 = .ok (.invokevirtual 46, 3) := db5_27.2.2.2.2.1
theorem dL_shift_7 : decode cL_shift 7 = .ok (.i2l, 1) := db5_27.2.2.2.2.2.1
theorem dL_shift_8 : decode cL_shift 8 = .ok (.putfield 13, 3) := db5_27.2.2.2.2.2.2.1
theorem dL_shift_11 : decode cL_shift 11 = .ok (.goto 15, 3) := db5_27.2.2.2.2.2.2.2.1
theorem dL_shift_14 : decode cL_shift 14 = .ok (.astore 4, 2) := db5_27.2.2.2.2.2.2.2.2.1
theorem dL_shift_16 : decode cL_shift 16 = .ok (.iconst 1, 1) := db5_27.2.2.2.2.2.2.2.2.2.1
theorem dL_shift_17 : decode cL_shift 17 = .ok (.ireturn, 1) := db5_27.2.2.2.2.2.2.2.2.2.2.1
theorem dL_shift_18 : decode cL_shift 18 = .ok (.astore 4, 2) := db5_27.2.2.2.2.2.2.2.2.2.2.2.1
theorem dL_shift_20 : decode cL_shift 20 = .ok (.iconst 2, 1) := db5_27.2.2.2.2.2.2.2.2.2.2.2.2.1
theorem dL_shift_21 : decode cL_shift 21 = .ok (.ireturn, 1) := db5_27.2.2.2.2.2.2.2.2.2.2.2.2.2.1
theorem dL_shift_22 : decode cL_shift 22 = .ok (.astore 4, 2) := db5_27.2.2.2.2.2.2.2.2.2.2.2.2.2.2.1
theorem dL_shift_24 : decode cL_shift 24 = .ok (.iconst 3, 1) := db5_27.2.2.2.2.2.2.2.2.2.2.2.2.2.2.2
theorem db5_28 : (decode cL_shift 25 = .ok (.ireturn, 1)) ∧ (decode cL_shift 26 = .ok (.iconst 0, 1)) ∧ (decode cL_shift 27 = .ok (.ireturn, 1)) := by decide +kernel
theorem dL_shift_25 : decode cL_shift 25 = .ok (.ireturn, 1) := db5_28.1
theorem dL_shift_26 : decode cL_shift 26 = .ok (.iconst 0, 1) := db5_28.2.1
theorem dL_shift_27 : decode cL_shift 27 = .ok (.ireturn, 1) := db5_28.2.2
theorem db5_29 : (decode cL_shiftYears 0 = .ok (.aload_n 3, 1)) ∧ (decode cL_shiftYears 1 = .ok (.aload_n 0, 1)) ∧ (decode cL_shiftYears 2 = .ok (.iload_n 1, 1)) ∧ (decode cL_shiftYears 3 = .ok (.iload_n 2, 1)) ∧ (decode cL_shiftYears 4 = .ok (.invokevirtual 49, 3)) ∧ (decode cL_shiftYears 7 = .ok (.i2l, 1)) ∧ (decode cL_shiftYears 8 = .ok (.putfield 13, 3)) ∧ (decode cL_shiftYears 11 = .ok (.goto 15, 3)) ∧ (decode cL_shiftYears 14 = .ok (.astore 4, 2)) ∧ (decode cL_shiftYears 16 = .ok (.iconst 1, 1)) ∧ (decode cL_shiftYears 17 = .ok (.ireturn, 1)) ∧ (decode cL_shiftYears 18 = .ok (.astore 4, 2)) ∧ (decode cL_shiftYears 20 = .ok (.iconst 2, 1)) ∧ (decode cL_shiftYears 21 = .ok (.ireturn, 1)) ∧ (decode cL_shiftYears 22 = .ok (.astore 4, 2)) ∧ (decode cL_shiftYears 24 = .ok (.iconst 3, 1)) := by decide +kernel
theorem dL_shiftYears_0 : decode cL_shiftYears 0 = .ok (.aload_n 3, 1) := db5_29.1
theorem dL_shiftYears_1 : decode cL_shiftYears 1 = .ok (.aload_n 0, 1) := db5_29.2.1
theorem dL_shiftYears_2 : decode cL_shiftYears 2 = .ok (.iload_n 1, 1) := db5_29.2.2.1
theorem dL_shiftYears_3 : decode cL_shiftYears 3 = .ok (.iload_n 2, 1) := db5_29.2.2.2.1
theorem dL_shiftYears_4 : decode cL_shiftYears 4 = .ok (.invokevirtual 49, 3) := db5_29.2.2.2.2.1
theorem dL_shiftYears_7 : decode cL_shiftYears 7 = .ok (.i2l, 1) := db5_29.2.2.2.2.2.1
theorem dL_shiftYears_8 : decode cL_shiftYears 8 = .ok (.putfield 13, 3) := db5_29.2.2.2.2.2.2.1
theorem dL_shiftYears_11 : decode cL_shiftYears 11 = .ok (.goto 15, 3) := db5_29.2.2.2.2.2.2.2.1
theorem dL_shiftYears_14 : decode cL_shiftYears 14 = .ok (.astore 4, 2) := db5_29.2.2.2.2.2.2.2.2.1
theorem dL_shiftYears_16 : decode cL_shiftYears 16 = .ok (.iconst 1, 1) := db5_29.2.2.2.2.2.2.2.2.2.1
theorem dL_shiftYears_17 : decode cL_shiftYears 17 = .ok (.ireturn, 1) := db5_29.2.2.2.2.2.2.2.2.2.2.1
theorem dL_shiftYears_18 : decode cL_shiftYears 18 = .ok (.astore 4, 2) := db5_29.2.2.2.2.2.2.2.2.2.2.2.1
theorem dL_shiftYears_20 : decode cL_shiftYears 20 = .ok (.iconst 2, 1) := db5_29.2.2.2.2.2.2.2.2.2.2.2.2.1
theorem dL_shiftYears_21 : decode cL_shiftYears 21 = .ok (.ireturn, 1) := db5_29.2.2.2.2.2.2.2.2.2.2.2.2.2.1
theorem dL_shiftYears_22 : decode cL_shiftYears 22 = .ok (.astore 4, 2) := db5_29.2.2.2.2.2.2.2.2.2.2.2.2.2.2.1
theorem dL_shiftYears_24 : decode cL_shiftYears 24 = .ok (.iconst 3, 1) := db5_29.2.2.2.2.2.2.2.2.2.2.2.2.2.2.2
theorem db5_30 : (decode cL_shiftYears 25 = .ok (.ireturn, 1)) ∧ (decode cL_shiftYears 26 = .ok (.iconst 0, 1)) ∧ (decode cL_shiftYears 27 = .ok (.ireturn, 1)) := by decide +kernel
theorem dL_shiftYears_25 : decode cL_shiftYears 25 = .ok (.ireturn, 1) := db5_30.1
theorem dL_shiftYears_26 : decode cL_shiftYears 26 = .ok (.iconst 0, 1) := db5_30.2.1
theorem dL_shiftYears_27 : decode cL_shiftYears 27 = .ok (.ireturn, 1) := db5_30.2.2
theorem db5_31 : (decode cL_days 0 = .ok (.aload_n 3, 1)) ∧ (decode cL_days 1 = .ok (.aload_n 0, 1)) ∧ (decode cL_days 2 = .ok (.iload_n 1, 1)) ∧ (decode cL_days 3 = .ok (.iload_n 2, 1)) ∧ (decode cL_days 4 = .ok (.invokevirtual 52, 3)) ∧ (decode cL_days 7 = .ok (.i2l, 1)) ∧ (decode cL_days 8 = .ok (.putfield 13, 3)) ∧ (decode cL_days 11 = .ok (.goto 15, 3)) ∧ (decode cL_days 14 = .ok (.astore 4, 2)) ∧ (decode cL_days 16 = .ok (.iconst 1, 1)) ∧ (decode cL_days 17 = .ok (.ireturn, 1)) ∧ (decode cL_days 18 = .ok (.astore 4, 2)) ∧ (decode cL_days 20 = .ok (.iconst 2, 1)) ∧ (decode cL_days 21 = .ok (.ireturn, 1)) ∧ (decode cL_days 22 = .ok (.astore 4, 2)) ∧ (decode cL_days 24 = .ok (.iconst 3, 1)) := by decide +kernel
theorem dL_days_0 : decode cL_days 0 = .ok (.aload_n 3, 1) := db5_31.1
theorem dL_days_1 : decode cL_days 1 = .ok (.aload_n 0, 1) := db5_31.2.1
theorem dL_days_2 : decode cL_days 2 = .ok (.iload_n 1, 1) := db5_31.2.2.1
theorem dL_days_3 : decode cL_days 3 = .ok (.iload_n 2, 1) := db5_31.2.2.2.1
theorem dL_days_4 : decode cL_days 4 = .ok (.invokevirtual 52, 3) := db5_31.2.2.2.2.1
theorem dL_days_7 : decode cL_days 7 = .ok (.i2l, 1) := db5_31.2.2.2.2.2.1
theorem dL_days_8 : decode cL_days 8 = .ok (.putfield 13, 3) := db5_31.2.2.2.2.2.2.1
theorem dL_days_11 : decode cL_days 11 = .ok (.goto 15, 3) := db5_31.2.2.2.2.2.2.2.1
theorem dL_days_14 : decode cL_days 14 = .ok (.astore 4, 2) := db5_31.2.2.2.2.2.2.2.2.1
theorem dL_days_16 : decode cL_days 16 = .ok (.iconst 1, 1) := db5_31.2.2.2.2.2.2.2.2.2.1
theorem dL_days_17 : decode cL_days 17 = .ok (.ireturn, 1) := db5_31.2.2.2.2.2.2.2.2.2.2.1
theorem dL_days_18 : decode cL_days 18 = .ok (.astore 4, 2) := db5_31.2.2.2.2.2.2.2.2.2.2.2.1
theorem dL_days_20 : decode cL_days 20 = .ok (.iconst 2, 1) := db5_31.2.2.2.2.2.2.2.2.2.2.2.2.1
theorem dL_days_21 : decode cL_days 21 = .ok (.ireturn, 1) := db5_31.2.2.2.2.2.2.2.2.2.2.2.2.2.1
theorem dL_days_22 : decode cL_days 22 = .ok (.astore 4, 2) := db5_31.2.2.2.2.2.2.2.2.2.2.2.2.2.2.1
theorem dL_days_24 : decode cL_days 24 = .ok (.iconst 3, 1) := db5_31.2.2.2.2.2.2.2.2.2.2.2.2.2.2.2
theorem db5_32 : (decode cL_days 25 = .ok (.ireturn, 1)) ∧ (decode cL_days 26 = .ok (.iconst 0, 1)) ∧ (decode cL_days 27 = .ok (.ireturn, 1)) := by decide +kernel
theorem dL_days_25 : decode cL_days 25 = .ok (.ireturn, 1) := db5_32.1
theorem dL_days_26 : decode cL_days 26 = .ok (.iconst 0, 1) := db5_32.2.1
theorem dL_days_27 : decode cL_days 27 = .ok (.ireturn, 1) := db5_32.2.2
theorem db5_33 : (decode cL_cycles 0 = .ok (.aload_n 3, 1)) ∧ (decode cL_cycles 1 = .ok (.aload_n 0, 1)) ∧ (decode cL_cycles 2 = .ok (.iload_n 1, 1)) ∧ (decode cL_cycles 3 = .ok (.iload_n 2, 1)) ∧ (decode cL_cycles 4 = .ok (.invokevirtual 55, 3)) ∧ (decode cL_cycles 7 = .ok (.i2l, 1)) ∧ (decode cL_cycles 8 = .ok (.putfield 13, 3)) ∧ (decode cL_cycles 11 = .ok (.goto 15, 3)) ∧ (decode cL_cycles 14 = .ok (.astore 4, 2)) ∧ (decode cL_cycles 16 = .ok (.iconst 1, 1)) ∧ (decode cL_cycles 17 = .ok (.ireturn, 1)) ∧ (decode cL_cycles 18 = .ok (.astore 4, 2)) ∧ (decode cL_cycles 20 = .ok (.iconst 2, 1)) ∧ (decode cL_cycles 21 = .ok (.ireturn, 1)) ∧ (decode cL_cycles 22 = .ok (.astore 4, 2)) ∧ (decode cL_cycles 24 = .ok (.iconst 3, 1)) := by decide +kernel
theorem dL_cycles_0 : decode cL_cycles 0 = .ok (.aload_n 3, 1) := db5_33.1
theorem dL_cycles_1 : decode cL_cycles 1 = .ok (.aload_n 0, 1) := db5_33.2.1
theorem dL_cycles_2 : decode cL_cycles 2 = .ok (.iload_n 1, 1) := db5_33.2.2.1
theorem dL_cycles_3 : decode cL_cycles 3 = .ok (.iload_n 2, 1) := db5_33.2.2.2.1
theorem dL_cycles_4 : decode cL_cycles 4 = .ok (.invokevirtual 55, 3) := db5_33.2.2.2.2.1
theorem dL_cycles_7 : decode cL_cycles 7 = .ok (.i2l, 1) := db5_33.2.2.2.2.2.1
theorem dL_cycles_8 : decode cL_cycles 8 = .ok (.putfield 13, 3) := db5_33.2.2.2.2.2.2.1
theorem dL_cycles_11 : decode cL_cycles 11 = .ok (.goto 15, 3) := db5_33.2.2.2.2.2.2.2.1
theorem dL_cycles_14 : decode cL_cycles 14 = .ok (.astore 4, 2) := db5_33.2.2.2.2.2.2.2.2.1
theorem dL_cycles_16 : decode cL_cycles 16 = .ok (.iconst 1, 1) := db5_33.2.2.2.2.2.2.2.2.2.1
theorem dL_cycles_17 : decode cL_cycles 17 = .ok (.ireturn, 1) := db5_33.2.2.2.2.2.2.2.2.2.2.1
theorem dL_cycles_18 : decode cL_cycles 18 = .ok (.astore 4, 2) := db5_33.2.2.2.2.2.2.2.2.2.2.2.1
theorem dL_cycles_20 : decode cL_cycles 20 = .ok (.iconst 2, 1) := db5_33.2.2.2.2.2.2.2.2.2.2.2.2.1
theorem dL_cycles_21 : decode cL_cycles 21 = .ok (.ireturn, 1) := db5_33.2.2.2.2.2.2.2.2.2.2.2.2.2.1
theorem dL_cycles_22 : decode cL_cycles 22 = .ok (.astore 4, 2) := db5_33.2.2.2.2.2.2.2.2.2.2.2.2.2.2.1
theorem dL_cycles_24 : decode cL_cycles 24 = .ok (.iconst 3, 1) := db5_33.2.2.2.2.2.2.2.2.2.2.2.2.2.2.2
theorem db5_34 : (decode cL_cycles 25 = .ok (.ireturn, 1)) ∧ (decode cL_cycles 26 = .ok (.iconst 0, 1)) ∧ (decode cL_cycles 27 = .ok (.ireturn, 1)) := by decide +kernel
theorem dL_cycles_25 : decode cL_cycles 25 = .ok (.ireturn, 1) := db5_34.1
theorem dL_cycles_26 : decode cL_cycles 26 = .ok (.iconst 0, 1) := db5_34.2.1
theorem dL_cycles_27 : decode cL_cycles 27 = .ok (.ireturn, 1) := db5_34.2.2
theorem db5_35 : (decode cL_act 0 = .ok (.aload 5, 2)) ∧ (decode cL_act 2 = .ok (.aload_n 0, 1)) ∧ (decode cL_act 3 = .ok (.iload_n 1, 1)) ∧ (decode cL_act 4 = .ok (.iload_n 2, 1)) ∧ (decode cL_act 5 = .ok (.iload_n 3, 1)) ∧ (decode cL_act 6 = .ok (.iload 4, 2)) ∧ (decode cL_act 8 = .ok (.invokevirtual 58, 3)) ∧ (decode cL_act 11 = .ok (.i2l, 1)) ∧ (decode cL_act 12 = .ok (.putfield 13, 3)) ∧ (decode cL_act 15 = .ok (.goto 11, 3)) ∧ (decode cL_act 18 = .ok (.astore 6, 2)) ∧ (decode cL_act 20 = .ok (.iconst 1, 1)) ∧ (decode cL_act 21 = .ok (.ireturn, 1)) ∧ (decode cL_act 22 = .ok (.astore 6, 2)) ∧ (decode cL_act 24 = .ok (.iconst 2, 1)) ∧ (decode cL_act 25 = .ok (.ireturn, 1)) := by decide +kernel
theorem dL_act_0 : decode cL_act 0 = .ok (.aload 5, 2) := db5_35.1
theorem dL_act_2 : decode cL_act 2 = .ok (.aload_n 0, 1) := db5_35.2.1
theorem dL_act_3 : decode cL_act 3 = .ok (.iload_n 1, 1) := db5_35.2.2.1
theorem dL_act_4 : decode cL_act 4 = .ok (.iload_n 2, 1) := db5_35.2.2.2.1
theorem dL_act_5 : decode cL_act 5 = .ok (.iload_n 3, 1) := db5_35.2.2.2.2.1
theorem dL_act_6 : decode cL_act 6 = .ok (.iload 4, 2) := db5_35.2.2.2.2.2.1
theorem dL_act_8 : decode cL_act 8 = .ok (.invokevirtual 58, 3) := db5_35.2.2.2.2.2.2.1
theorem dL_act_11 : decode cL_act 11 = .ok (.i2l, 1) := db5_35.2.2.2.2.2.2.2.1
theorem dL_act_12 : decode cL_act 12 = .ok (.putfield 13, 3) := db5_35.2.2.2.2.2.2.2.2.1
theorem dL_act_15 : decode cL_act 15 = .ok (.goto 11, 3) := db5_35.2.2.2.2.2.2.2.2.2.1
theorem dL_act_18 : decode cL_act 18 = .ok (.astore 6, 2) := db5_35.2.2.2.2.2.2.2.2.2.2.1
theorem dL_act_20 : decode cL_act 20 = .ok (.iconst 1, 1) := db5_35.2.2.2.2.2.2.2.2.2.2.2.1
theorem dL_act_21 : decode cL_act 21 = .ok (.ireturn, 1) := db5_35.2.2.2.2.2.2.2.2.2.2.2.2.1
theorem dL_act_22 : decode cL_act 22 = .ok (.astore 6, 2) := db5_35.2.2.2.2.2.2.2.2.2.2.2.2.2.1
theorem dL_act_24 : decode cL_act 24 = .ok (.iconst 2, 1) := db5_35.2.2.2.2.2.2.2.2.2.2.2.2.2.2.1
theorem dL_act_25 : decode cL_act 25 = .ok (.ireturn, 1) := db5_35.2.2.2.2.2.2.2.2.2.2.2.2.2.2.2
theorem db5_36 : (decode cL_act 26 = .ok (.iconst 0, 1)) ∧ (decode cL_act 27 = .ok (.ireturn, 1)) := by decide +kernel
theorem dL_act_26 : decode cL_act 26 = .ok (.iconst 0, 1) := db5_36.1
theorem dL_act_27 : decode cL_act 27 = .ok (.ireturn, 1) := db5_36.2
theorem db5_37 : (decode cL_actOften 0 = .ok (.aload 4, 2)) ∧ (decode cL_actOften 2 = .ok (.aload_n 0, 1)) ∧ (decode cL_actOften 3 = .ok (.iload_n 1, 1)) ∧ (decode cL_actOften 4 = .ok (.iload_n 2, 1)) ∧ (decode cL_actOften 5 = .ok (.iload_n 3, 1)) ∧ (decode cL_actOften 6 = .ok (.invokevirtual 62, 3)) ∧ (decode cL_actOften 9 = .ok (.i2l, 1)) ∧ (decode cL_actOften 10 = .ok (.putfield 13, 3)) ∧ (decode cL_actOften 13 = .ok (.goto 15, 3)) ∧ (decode cL_actOften 16 = .ok (.astore 5, 2)) ∧ (decode cL_actOften 18 = .ok (.iconst 1, 1)) ∧ (decode cL_actOften 19 = .ok (.ireturn, 1)) ∧ (decode cL_actOften 20 = .ok (.astore 5, 2)) ∧ (decode cL_actOften 22 = .ok (.iconst 2, 1)) ∧ (decode cL_actOften 23 = .ok (.ireturn, 1)) ∧ (decode cL_actOften 24 = .ok (.astore 5, 2)) := by decide +kernel
theorem dL_actOften_0 : decode cL_actOften 0 = .ok (.aload 4, 2) := db5_37.1
theorem dL_actOften_2 : decode cL_actOften 2 = .ok (.aload_n 0, 1) := db5_37.2.1
theorem dL_actOften_3 : decode cL_actOften 3 = .ok (.iload_n 1, 1) := db5_37.2.2.1
theorem dL_actOften_4 : decode cL_actOften 4 = .ok (.iload_n 2, 1) := db5_37.2.2.2.1
theorem dL_actOften_5 : decode cL_actOften 5 = .ok (.iload_n 3, 1) := db5_37.2.2.2.2.1
theorem dL_actOften_6 : decode cL_actOften 6 = .ok (.invokevirtual 62, 3) := db5_37.2.2.2.2.2.1
theorem dL_actOften_9 : decode cL_actOften 9 = .ok (.i2l, 1) := db5_37.2.2.2.2.2.2.1
theorem dL_actOften_10 : decode cL_actOften 10 = .ok (.putfield 13, 3) := db5_37.2.2.2.2.2.2.2.1
theorem dL_actOften_13 : decode cL_actOften 13 = .ok (.goto 15, 3) := db5_37.2.2.2.2.2.2.2.2.1
theorem dL_actOften_16 : decode cL_actOften 16 = .ok (.astore 5, 2) := db5_37.2.2.2.2.2.2.2.2.2.1
theorem dL_actOften_18 : decode cL_actOften 18 = .ok (.iconst 1, 1) := db5_37.2.2.2.2.2.2.2.2.2.2.1
theorem dL_actOften_19 : decode cL_actOften 19 = .ok (.ireturn, 1) := db5_37.2.2.2.2.2.2.2.2.2.2.2.1
theorem dL_actOften_20 : decode cL_actOften 20 = .ok (.astore 5, 2) := db5_37.2.2.2.2.2.2.2.2.2.2.2.2.1
theorem dL_actOften_22 : decode cL_actOften 22 = .ok (.iconst 2, 1) := db5_37.2.2.2.2.2.2.2.2.2.2.2.2.2.1
theorem dL_actOften_23 : decode cL_actOften 23 = .ok (.ireturn, 1) := db5_37.2.2.2.2.2.2.2.2.2.2.2.2.2.2.1
theorem dL_actOften_24 : decode cL_actOften 24 = .ok (.astore 5, 2) := db5_37.2.2.2.2.2.2.2.2.2.2.2.2.2.2.2
theorem db5_38 : (decode cL_actOften 26 = .ok (.iconst 3, 1)) ∧ (decode cL_actOften 27 = .ok (.ireturn, 1)) ∧ (decode cL_actOften 28 = .ok (.iconst 0, 1)) ∧ (decode cL_actOften 29 = .ok (.ireturn, 1)) := by decide +kernel
theorem dL_actOften_26 : decode cL_actOften 26 = .ok (.iconst 3, 1) := db5_38.1
theorem dL_actOften_27 : decode cL_actOften 27 = .ok (.ireturn, 1) := db5_38.2.1
theorem dL_actOften_28 : decode cL_actOften 28 = .ok (.iconst 0, 1) := db5_38.2.2.1
theorem dL_actOften_29 : decode cL_actOften 29 = .ok (.ireturn, 1) := db5_38.2.2.2
theorem db5_39 : (decode cL_span 0 = .ok (.aload 5, 2)) ∧ (decode cL_span 2 = .ok (.aload_n 0, 1)) ∧ (decode cL_span 3 = .ok (.iload_n 1, 1)) ∧ (decode cL_span 4 = .ok (.iload_n 2, 1)) ∧ (decode cL_span 5 = .ok (.iload_n 3, 1)) ∧ (decode cL_span 6 = .ok (.iload 4, 2)) ∧ (decode cL_span 8 = .ok (.invokevirtual 65, 3)) ∧ (decode cL_span 11 = .ok (.i2l, 1)) ∧ (decode cL_span 12 = .ok (.putfield 13, 3)) ∧ (decode cL_span 15 = .ok (.goto 11, 3)) ∧ (decode cL_span 18 = .ok (.astore 6, 2)) ∧ (decode cL_span 20 = .ok (.iconst 1, 1)) ∧ (decode cL_span 21 = .ok (.ireturn, 1)) ∧ (decode cL_span 22 = .ok (.astore 6, 2)) ∧ (decode cL_span 24 = .ok (.iconst 2, 1)) ∧ (decode cL_span 25 = .ok (.ireturn, 1)) := by decide +kernel
theorem dL_span_0 : decode cL_span 0 = .ok (.aload 5, 2) := db5_39.1
theorem dL_span_2 : decode cL_span 2 = .ok (.aload_n 0, 1) := db5_39.2.1
theorem dL_span_3 : decode cL_span 3 = .ok (.iload_n 1, 1) := db5_39.2.2.1
theorem dL_span_4 : decode cL_span 4 = .ok (.iload_n 2, 1) := db5_39.2.2.2.1
theorem dL_span_5 : decode cL_span 5 = .ok (.iload_n 3, 1) := db5_39.2.2.2.2.1
theorem dL_span_6 : decode cL_span 6 = .ok (.iload 4, 2) := db5_39.2.2.2.2.2.1
theorem dL_span_8 : decode cL_span 8 = .ok (.invokevirtual 65, 3) := db5_39.2.2.2.2.2.2.1
theorem dL_span_11 : decode cL_span 11 = .ok (.i2l, 1) := db5_39.2.2.2.2.2.2.2.1
theorem dL_span_12 : decode cL_span 12 = .ok (.putfield 13, 3) := db5_39.2.2.2.2.2.2.2.2.1
theorem dL_span_15 : decode cL_span 15 = .ok (.goto 11, 3) := db5_39.2.2.2.2.2.2.2.2.2.1
theorem dL_span_18 : decode cL_span 18 = .ok (.astore 6, 2) := db5_39.2.2.2.2.2.2.2.2.2.2.1
theorem dL_span_20 : decode cL_span 20 = .ok (.iconst 1, 1) := db5_39.2.2.2.2.2.2.2.2.2.2.2.1
theorem dL_span_21 : decode cL_span 21 = .ok (.ireturn, 1) := db5_39.2.2.2.2.2.2.2.2.2.2.2.2.1
theorem dL_span_22 : decode cL_span 22 = .ok (.astore 6, 2) := db5_39.2.2.2.2.2.2.2.2.2.2.2.2.2.1
theorem dL_span_24 : decode cL_span 24 = .ok (.iconst 2, 1) := db5_39.2.2.2.2.2.2.2.2.2.2.2.2.2.2.1
theorem dL_span_25 : decode cL_span 25 = .ok (.ireturn, 1) := db5_39.2.2.2.2.2.2.2.2.2.2.2.2.2.2.2
theorem db5_40 : (decode cL_span 26 = .ok (.iconst 0, 1)) ∧ (decode cL_span 27 = .ok (.ireturn, 1)) := by decide +kernel
theorem dL_span_26 : decode cL_span 26 = .ok (.iconst 0, 1) := db5_40.1
theorem dL_span_27 : decode cL_span 27 = .ok (.ireturn, 1) := db5_40.2
theorem db5_41 : (decode cL_until 0 = .ok (.aload 4, 2)) ∧ (decode cL_until 2 = .ok (.aload_n 0, 1)) ∧ (decode cL_until 3 = .ok (.iload_n 1, 1)) ∧ (decode cL_until 4 = .ok (.iload_n 2, 1)) ∧ (decode cL_until 5 = .ok (.iload_n 3, 1)) ∧ (decode cL_until 6 = .ok (.invokevirtual 68, 3)) ∧ (decode cL_until 9 = .ok (.i2l, 1)) ∧ (decode cL_until 10 = .ok (.putfield 13, 3)) ∧ (decode cL_until 13 = .ok (.goto 11, 3)) ∧ (decode cL_until 16 = .ok (.astore 5, 2)) ∧ (decode cL_until 18 = .ok (.iconst 1, 1)) ∧ (decode cL_until 19 = .ok (.ireturn, 1)) ∧ (decode cL_until 20 = .ok (.astore 5, 2)) ∧ (decode cL_until 22 = .ok (.iconst 2, 1)) ∧ (decode cL_until 23 = .ok (.ireturn, 1)) ∧ (decode cL_until 24 = .ok (.iconst 0, 1)) := by decide +kernel
theorem dL_until_0 : decode cL_until 0 = .ok (.aload 4, 2) := db5_41.1
theorem dL_until_2 : decode cL_until 2 = .ok (.aload_n 0, 1) := db5_41.2.1
theorem dL_until_3 : decode cL_until 3 = .ok (.iload_n 1, 1) := db5_41.2.2.1
theorem dL_until_4 : decode cL_until 4 = .ok (.iload_n 2, 1) := db5_41.2.2.2.1
theorem dL_until_5 : decode cL_until 5 = .ok (.iload_n 3, 1) := db5_41.2.2.2.2.1
theorem dL_until_6 : decode cL_until 6 = .ok (.invokevirtual 68, 3) := db5_41.2.2.2.2.2.1
theorem dL_until_9 : decode cL_until 9 = .ok (.i2l, 1) := db5_41.2.2.2.2.2.2.1
theorem dL_until_10 : decode cL_until 10 = .ok (.putfield 13, 3) := db5_41.2.2.2.2.2.2.2.1
theorem dL_until_13 : decode cL_until 13 = .ok (.goto 11, 3) := db5_41.2.2.2.2.2.2.2.2.1
theorem dL_until_16 : decode cL_until 16 = .ok (.astore 5, 2) := db5_41.2.2.2.2.2.2.2.2.2.1
theorem dL_until_18 : decode cL_until 18 = .ok (.iconst 1, 1) := db5_41.2.2.2.2.2.2.2.2.2.2.1
theorem dL_until_19 : decode cL_until 19 = .ok (.ireturn, 1) := db5_41.2.2.2.2.2.2.2.2.2.2.2.1
theorem dL_until_20 : decode cL_until 20 = .ok (.astore 5, 2) := db5_41.2.2.2.2.2.2.2.2.2.2.2.2.1
theorem dL_until_22 : decode cL_until 22 = .ok (.iconst 2, 1) := db5_41.2.2.2.2.2.2.2.2.2.2.2.2.2.1
theorem dL_until_23 : decode cL_until 23 = .ok (.ireturn, 1) := db5_41.2.2.2.2.2.2.2.2.2.2.2.2.2.2.1
theorem dL_until_24 : decode cL_until 24 = .ok (.iconst 0, 1) := db5_41.2.2.2.2.2.2.2.2.2.2.2.2.2.2.2
theorem dL_until_25 : decode cL_until 25 = .ok (.ireturn, 1) := by decide +kernel
theorem db5_42 : (decode cL_addSpan 0 = .ok (.aload_n 3, 1)) ∧ (decode cL_addSpan 1 = .ok (.aload_n 0, 1)) ∧ (decode cL_addSpan 2 = .ok (.iload_n 1, 1)) ∧ (decode cL_addSpan 3 = .ok (.iload_n 2, 1)) ∧ (decode cL_addSpan 4 = .ok (.invokevirtual 71, 3)) ∧ (decode cL_addSpan 7 = .ok (.i2l, 1)) ∧ (decode cL_addSpan 8 = .ok (.putfield 13, 3)) ∧ (decode cL_addSpan 11 = .ok (.goto 11, 3)) ∧ (decode cL_addSpan 14 = .ok (.astore 4, 2)) ∧ (decode cL_addSpan 16 = .ok (.iconst 1, 1)) ∧ (decode cL_addSpan 17 = .ok (.ireturn, 1)) ∧ (decode cL_addSpan 18 = .ok (.astore 4, 2)) ∧ (decode cL_addSpan 20 = .ok (.iconst 2, 1)) ∧ (decode cL_addSpan 21 = .ok (.ireturn, 1)) ∧ (decode cL_addSpan 22 = .ok (.iconst 0, 1)) ∧ (decode cL_addSpan 23 = .ok (.ireturn, 1)) := by decide +kernel
theorem dL_addSpan_0 : decode cL_addSpan 0 = .ok (.aload_n 3, 1) := db5_42.1
theorem dL_addSpan_1 : decode cL_addSpan 1 = .ok (.aload_n 0, 1) := db5_42.2.1
theorem dL_addSpan_2 : decode cL_addSpan 2 = .ok (.iload_n 1, 1) := db5_42.2.2.1
theorem dL_addSpan_3 : decode cL_addSpan 3 = .ok (.iload_n 2, 1) := db5_42.2.2.2.1
theorem dL_addSpan_4 : decode cL_addSpan 4 = .ok (.invokevirtual 71, 3) := db5_42.2.2.2.2.1
theorem dL_addSpan_7 : decode cL_addSpan 7 = .ok (.i2l, 1) := db5_42.2.2.2.2.2.1
theorem dL_addSpan_8 : decode cL_addSpan 8 = .ok (.putfield 13, 3) := db5_42.2.2.2.2.2.2.1
theorem dL_addSpan_11 : decode cL_addSpan 11 = .ok (.goto 11, 3) := db5_42.2.2.2.2.2.2.2.1
theorem dL_addSpan_14 : decode cL_addSpan 14 = .ok (.astore 4, 2) := db5_42.2.2.2.2.2.2.2.2.1
theorem dL_addSpan_16 : decode cL_addSpan 16 = .ok (.iconst 1, 1) := db5_42.2.2.2.2.2.2.2.2.2.1
theorem dL_addSpan_17 : decode cL_addSpan 17 = .ok (.ireturn, 1) := db5_42.2.2.2.2.2.2.2.2.2.2.1
theorem dL_addSpan_18 : decode cL_addSpan 18 = .ok (.astore 4, 2) := db5_42.2.2.2.2.2.2.2.2.2.2.2.1
theorem dL_addSpan_20 : decode cL_addSpan 20 = .ok (.iconst 2, 1) := db5_42.2.2.2.2.2.2.2.2.2.2.2.2.1
theorem dL_addSpan_21 : decode cL_addSpan 21 = .ok (.ireturn, 1) := db5_42.2.2.2.2.2.2.2.2.2.2.2.2.2.1
theorem dL_addSpan_22 : decode cL_addSpan 22 = .ok (.iconst 0, 1) := db5_42.2.2.2.2.2.2.2.2.2.2.2.2.2.2.1
theorem dL_addSpan_23 : decode cL_addSpan 23 = .ok (.ireturn, 1) := db5_42.2.2.2.2.2.2.2.2.2.2.2.2.2.2.2
theorem db5_43 : (decode cL_turnSpan 0 = .ok (.aload_n 2, 1)) ∧ (decode cL_turnSpan 1 = .ok (.aload_n 0, 1)) ∧ (decode cL_turnSpan 2 = .ok (.iload_n 1, 1)) ∧ (decode cL_turnSpan 3 = .ok (.invokevirtual 74, 3)) ∧ (decode cL_turnSpan 6 = .ok (.i2l, 1)) ∧ (decode cL_turnSpan 7 = .ok (.putfield 13, 3)) ∧ (decode cL_turnSpan 10 = .ok (.goto 6, 3)) ∧ (decode cL_turnSpan 13 = .ok (.astore_n 3, 1)) ∧ (decode cL_turnSpan 14 = .ok (.iconst 1, 1)) ∧ (decode cL_turnSpan 15 = .ok (.ireturn, 1)) ∧ (decode cL_turnSpan 16 = .ok (.iconst 0, 1)) ∧ (decode cL_turnSpan 17 = .ok (.ireturn, 1)) := by decide +kernel
theorem dL_turnSpan_0 : decode cL_turnSpan 0 = .ok (.aload_n 2, 1) := db5_43.1
theorem dL_turnSpan_1 : decode cL_turnSpan 1 = .ok (.aload_n 0, 1) := db5_43.2.1
theorem dL_turnSpan_2 : decode cL_turnSpan 2 = .ok (.iload_n 1, 1) := db5_43.2.2.1
theorem dL_turnSpan_3 : decode cL_turnSpan 3 = .ok (.invokevirtual 74, 3) := db5_43.2.2.2.1
theorem dL_turnSpan_6 : decode cL_turnSpan 6 = .ok (.i2l, 1) := db5_43.2.2.2.2.1
theorem dL_turnSpan_7 : decode cL_turnSpan 7 = .ok (.putfield 13, 3) := db5_43.2.2.2.2.2.1
theorem dL_turnSpan_10 : decode cL_turnSpan 10 = .ok (.goto 6, 3) := db5_43.2.2.2.2.2.2.1
theorem dL_turnSpan_13 : decode cL_turnSpan 13 = .ok (.astore_n 3, 1) := db5_43.2.2.2.2.2.2.2.1
theorem dL_turnSpan_14 : decode cL_turnSpan 14 = .ok (.iconst 1, 1) := db5_43.2.2.2.2.2.2.2.2.1
theorem dL_turnSpan_15 : decode cL_turnSpan 15 = .ok (.ireturn, 1) := db5_43.2.2.2.2.2.2.2.2.2.1
theorem dL_turnSpan_16 : decode cL_turnSpan 16 = .ok (.iconst 0, 1) := db5_43.2.2.2.2.2.2.2.2.2.2.1
theorem dL_turnSpan_17 : decode cL_turnSpan 17 = .ok (.ireturn, 1) := db5_43.2.2.2.2.2.2.2.2.2.2.2
theorem db5_44 : (decode cL_ofSpan 0 = .ok (.aload_n 3, 1)) ∧ (decode cL_ofSpan 1 = .ok (.aload_n 0, 1)) ∧ (decode cL_ofSpan 2 = .ok (.iload_n 1, 1)) ∧ (decode cL_ofSpan 3 = .ok (.iload_n 2, 1)) ∧ (decode cL_ofSpan 4 = .ok (.invokevirtual 77, 3)) ∧ (decode cL_ofSpan 7 = .ok (.i2l, 1)) ∧ (decode cL_ofSpan 8 = .ok (.putfield 13, 3)) ∧ (decode cL_ofSpan 11 = .ok (.goto 11, 3)) ∧ (decode cL_ofSpan 14 = .ok (.astore 4, 2)) ∧ (decode cL_ofSpan 16 = .ok (.iconst 1, 1)) ∧ (decode cL_ofSpan 17 = .ok (.ireturn, 1)) ∧ (decode cL_ofSpan 18 = .ok (.astore 4, 2)) ∧ (decode cL_ofSpan 20 = .ok (.iconst 2, 1)) ∧ (decode cL_ofSpan 21 = .ok (.ireturn, 1)) ∧ (decode cL_ofSpan 22 = .ok (.iconst 0, 1)) ∧ (decode cL_ofSpan 23 = .ok (.ireturn, 1)) := by decide +kernel
theorem dL_ofSpan_0 : decode cL_ofSpan 0 = .ok (.aload_n 3, 1) := db5_44.1
theorem dL_ofSpan_1 : decode cL_ofSpan 1 = .ok (.aload_n 0, 1) := db5_44.2.1
theorem dL_ofSpan_2 : decode cL_ofSpan 2 = .ok (.iload_n 1, 1) := db5_44.2.2.1
theorem dL_ofSpan_3 : decode cL_ofSpan 3 = .ok (.iload_n 2, 1) := db5_44.2.2.2.1
theorem dL_ofSpan_4 : decode cL_ofSpan 4 = .ok (.invokevirtual 77, 3) := db5_44.2.2.2.2.1
theorem dL_ofSpan_7 : decode cL_ofSpan 7 = .ok (.i2l, 1) := db5_44.2.2.2.2.2.1
theorem dL_ofSpan_8 : decode cL_ofSpan 8 = .ok (.putfield 13, 3) := db5_44.2.2.2.2.2.2.1
theorem dL_ofSpan_11 : decode cL_ofSpan 11 = .ok (.goto 11, 3) := db5_44.2.2.2.2.2.2.2.1
theorem dL_ofSpan_14 : decode cL_ofSpan 14 = .ok (.astore 4, 2) := db5_44.2.2.2.2.2.2.2.2.1
theorem dL_ofSpan_16 : decode cL_ofSpan 16 = .ok (.iconst 1, 1) := db5_44.2.2.2.2.2.2.2.2.2.1
theorem dL_ofSpan_17 : decode cL_ofSpan 17 = .ok (.ireturn, 1) := db5_44.2.2.2.2.2.2.2.2.2.2.1
theorem dL_ofSpan_18 : decode cL_ofSpan 18 = .ok (.astore 4, 2) := db5_44.2.2.2.2.2.2.2.2.2.2.2.1
theorem dL_ofSpan_20 : decode cL_ofSpan 20 = .ok (.iconst 2, 1) := db5_44.2.2.2.2.2.2.2.2.2.2.2.2.1
theorem dL_ofSpan_21 : decode cL_ofSpan 21 = .ok (.ireturn, 1) := db5_44.2.2.2.2.2.2.2.2.2.2.2.2.2.1
theorem dL_ofSpan_22 : decode cL_ofSpan 22 = .ok (.iconst 0, 1) := db5_44.2.2.2.2.2.2.2.2.2.2.2.2.2.2.1
theorem dL_ofSpan_23 : decode cL_ofSpan 23 = .ok (.ireturn, 1) := db5_44.2.2.2.2.2.2.2.2.2.2.2.2.2.2.2
theorem db5_45 : (decode cL_isKept 0 = .ok (.aload_n 3, 1)) ∧ (decode cL_isKept 1 = .ok (.aload_n 0, 1)) ∧ (decode cL_isKept 2 = .ok (.iload_n 1, 1)) ∧ (decode cL_isKept 3 = .ok (.iload_n 2, 1)) ∧ (decode cL_isKept 4 = .ok (.invokevirtual 80, 3)) ∧ (decode cL_isKept 7 = .ok (.ifCond .eq 7, 3)) ∧ (decode cL_isKept 10 = .ok (.lconst 1, 1)) ∧ (decode cL_isKept 11 = .ok (.goto 4, 3)) ∧ (decode cL_isKept 14 = .ok (.lconst 0, 1)) ∧ (decode cL_isKept 15 = .ok (.putfield 13, 3)) ∧ (decode cL_isKept 18 = .ok (.goto 11, 3)) ∧ (decode cL_isKept 21 = .ok (.astore 4, 2)) ∧ (decode cL_isKept 23 = .ok (.iconst 1, 1)) ∧ (decode cL_isKept 24 = .ok (.ireturn, 1)) ∧ (decode cL_isKept 25 = .ok (.astore 4, 2)) ∧ (decode cL_isKept 27 = .ok (.iconst 2, 1)) := by decide +kernel
theorem dL_isKept_0 : decode cL_isKept 0 = .ok (.aload_n 3, 1) := db5_45.1
theorem dL_isKept_1 : decode cL_isKept 1 = .ok (.aload_n 0, 1) := db5_45.2.1
theorem dL_isKept_2 : decode cL_isKept 2 = .ok (.iload_n 1, 1) := db5_45.2.2.1
theorem dL_isKept_3 : decode cL_isKept 3 = .ok (.iload_n 2, 1) := db5_45.2.2.2.1
theorem dL_isKept_4 : decode cL_isKept 4 = .ok (.invokevirtual 80, 3) := db5_45.2.2.2.2.1
theorem dL_isKept_7 : decode cL_isKept 7 = .ok (.ifCond .eq 7, 3) := db5_45.2.2.2.2.2.1
theorem dL_isKept_10 : decode cL_isKept 10 = .ok (.lconst 1, 1) := db5_45.2.2.2.2.2.2.1
theorem dL_isKept_11 : decode cL_isKept 11 = .ok (.goto 4, 3) := db5_45.2.2.2.2.2.2.2.1
theorem dL_isKept_14 : decode cL_isKept 14 = .ok (.lconst 0, 1) := db5_45.2.2.2.2.2.2.2.2.1
theorem dL_isKept_15 : decode cL_isKept 15 = .ok (.putfield 13, 3) := db5_45.2.2.2.2.2.2.2.2.2.1
theorem dL_isKept_18 : decode cL_isKept 18 = .ok (.goto 11, 3) := db5_45.2.2.2.2.2.2.2.2.2.2.1
theorem dL_isKept_21 : decode cL_isKept 21 = .ok (.astore 4, 2) := db5_45.2.2.2.2.2.2.2.2.2.2.2.1
theorem dL_isKept_23 : decode cL_isKept 23 = .ok (.iconst 1, 1) := db5_45.2.2.2.2.2.2.2.2.2.2.2.2.1
theorem dL_isKept_24 : decode cL_isKept 24 = .ok (.ireturn, 1) := db5_45.2.2.2.2.2.2.2.2.2.2.2.2.2.1
theorem dL_isKept_25 : decode cL_isKept 25 = .ok (.astore 4, 2) := db5_45.2.2.2.2.2.2.2.2.2.2.2.2.2.2.1
theorem dL_isKept_27 : decode cL_isKept 27 = .ok (.iconst 2, 1) := db5_45.2.2.2.2.2.2.2.2.2.2.2.2.2.2.2
theorem db5_46 : (decode cL_isKept 28 = .ok (.ireturn, 1)) ∧ (decode cL_isKept 29 = .ok (.iconst 0, 1)) ∧ (decode cL_isKept 30 = .ok (.ireturn, 1)) := by decide +kernel
theorem dL_isKept_28 : decode cL_isKept 28 = .ok (.ireturn, 1) := db5_46.1
theorem dL_isKept_29 : decode cL_isKept 29 = .ok (.iconst 0, 1) := db5_46.2.1
theorem dL_isKept_30 : decode cL_isKept 30 = .ok (.ireturn, 1) := db5_46.2.2
theorem db5_47 : (decode cL_loss 0 = .ok (.aload_n 3, 1)) ∧ (decode cL_loss 1 = .ok (.aload_n 0, 1)) ∧ (decode cL_loss 2 = .ok (.iload_n 1, 1)) ∧ (decode cL_loss 3 = .ok (.iload_n 2, 1)) ∧ (decode cL_loss 4 = .ok (.invokevirtual 84, 3)) ∧ (decode cL_loss 7 = .ok (.i2l, 1)) ∧ (decode cL_loss 8 = .ok (.putfield 13, 3)) ∧ (decode cL_loss 11 = .ok (.goto 11, 3)) ∧ (decode cL_loss 14 = .ok (.astore 4, 2)) ∧ (decode cL_loss 16 = .ok (.iconst 1, 1)) ∧ (decode cL_loss 17 = .ok (.ireturn, 1)) ∧ (decode cL_loss 18 = .ok (.astore 4, 2)) ∧ (decode cL_loss 20 = .ok (.iconst 2, 1)) ∧ (decode cL_loss 21 = .ok (.ireturn, 1)) ∧ (decode cL_loss 22 = .ok (.iconst 0, 1)) ∧ (decode cL_loss 23 = .ok (.ireturn, 1)) := by decide +kernel
theorem dL_loss_0 : decode cL_loss 0 = .ok (.aload_n 3, 1) := db5_47.1
theorem dL_loss_1 : decode cL_loss 1 = .ok (.aload_n 0, 1) := db5_47.2.1
theorem dL_loss_2 : decode cL_loss 2 = .ok (.iload_n 1, 1) := db5_47.2.2.1
theorem dL_loss_3 : decode cL_loss 3 = .ok (.iload_n 2, 1) := db5_47.2.2.2.1
theorem dL_loss_4 : decode cL_loss 4 = .ok (.invokevirtual 84, 3) := db5_47.2.2.2.2.1
theorem dL_loss_7 : decode cL_loss 7 = .ok (.i2l, 1) := db5_47.2.2.2.2.2.1
theorem dL_loss_8 : decode cL_loss 8 = .ok (.putfield 13, 3) := db5_47.2.2.2.2.2.2.1
theorem dL_loss_11 : decode cL_loss 11 = .ok (.goto 11, 3) := db5_47.2.2.2.2.2.2.2.1
theorem dL_loss_14 : decode cL_loss 14 = .ok (.astore 4, 2) := db5_47.2.2.2.2.2.2.2.2.1
theorem dL_loss_16 : decode cL_loss 16 = .ok (.iconst 1, 1) := db5_47.2.2.2.2.2.2.2.2.2.1
theorem dL_loss_17 : decode cL_loss 17 = .ok (.ireturn, 1) := db5_47.2.2.2.2.2.2.2.2.2.2.1
theorem dL_loss_18 : decode cL_loss 18 = .ok (.astore 4, 2) := db5_47.2.2.2.2.2.2.2.2.2.2.2.1
theorem dL_loss_20 : decode cL_loss 20 = .ok (.iconst 2, 1) := db5_47.2.2.2.2.2.2.2.2.2.2.2.2.1
theorem dL_loss_21 : decode cL_loss 21 = .ok (.ireturn, 1) := db5_47.2.2.2.2.2.2.2.2.2.2.2.2.2.1
theorem dL_loss_22 : decode cL_loss 22 = .ok (.iconst 0, 1) := db5_47.2.2.2.2.2.2.2.2.2.2.2.2.2.2.1
theorem dL_loss_23 : decode cL_loss 23 = .ok (.ireturn, 1) := db5_47.2.2.2.2.2.2.2.2.2.2.2.2.2.2.2
theorem db5_48 : (decode cL_leadsBack 0 = .ok (.aload_n 3, 1)) ∧ (decode cL_leadsBack 1 = .ok (.aload_n 0, 1)) ∧ (decode cL_leadsBack 2 = .ok (.iload_n 1, 1)) ∧ (decode cL_leadsBack 3 = .ok (.iload_n 2, 1)) ∧ (decode cL_leadsBack 4 = .ok (.invokevirtual 87, 3)) ∧ (decode cL_leadsBack 7 = .ok (.ifCond .eq 7, 3)) ∧ (decode cL_leadsBack 10 = .ok (.lconst 1, 1)) ∧ (decode cL_leadsBack 11 = .ok (.goto 4, 3)) ∧ (decode cL_leadsBack 14 = .ok (.lconst 0, 1)) ∧ (decode cL_leadsBack 15 = .ok (.putfield 13, 3)) ∧ (decode cL_leadsBack 18 = .ok (.goto 11, 3)) ∧ (decode cL_leadsBack 21 = .ok (.astore 4, 2)) ∧ (decode cL_leadsBack 23 = .ok (.iconst 1, 1)) ∧ (decode cL_leadsBack 24 = .ok (.ireturn, 1)) ∧ (decode cL_leadsBack 25 = .ok (.astore 4, 2)) ∧ (decode cL_leadsBack 27 = .ok (.iconst 2, 1)) := by decide +kernel
theorem dL_leadsBack_0 : decode cL_leadsBack 0 = .ok (.aload_n 3, 1) := db5_48.1
theorem dL_leadsBack_1 : decode cL_leadsBack 1 = .ok (.aload_n 0, 1) := db5_48.2.1
theorem dL_leadsBack_2 : decode cL_leadsBack 2 = .ok (.iload_n 1, 1) := db5_48.2.2.1
theorem dL_leadsBack_3 : decode cL_leadsBack 3 = .ok (.iload_n 2, 1) := db5_48.2.2.2.1
theorem dL_leadsBack_4 : decode cL_leadsBack 4 = .ok (.invokevirtual 87, 3) := db5_48.2.2.2.2.1
theorem dL_leadsBack_7 : decode cL_leadsBack 7 = .ok (.ifCond .eq 7, 3) := db5_48.2.2.2.2.2.1
theorem dL_leadsBack_10 : decode cL_leadsBack 10 = .ok (.lconst 1, 1) := db5_48.2.2.2.2.2.2.1
theorem dL_leadsBack_11 : decode cL_leadsBack 11 = .ok (.goto 4, 3) := db5_48.2.2.2.2.2.2.2.1
theorem dL_leadsBack_14 : decode cL_leadsBack 14 = .ok (.lconst 0, 1) := db5_48.2.2.2.2.2.2.2.2.1
theorem dL_leadsBack_15 : decode cL_leadsBack 15 = .ok (.putfield 13, 3) := db5_48.2.2.2.2.2.2.2.2.2.1
theorem dL_leadsBack_18 : decode cL_leadsBack 18 = .ok (.goto 11, 3) := db5_48.2.2.2.2.2.2.2.2.2.2.1
theorem dL_leadsBack_21 : decode cL_leadsBack 21 = .ok (.astore 4, 2) := db5_48.2.2.2.2.2.2.2.2.2.2.2.1
theorem dL_leadsBack_23 : decode cL_leadsBack 23 = .ok (.iconst 1, 1) := db5_48.2.2.2.2.2.2.2.2.2.2.2.2.1
theorem dL_leadsBack_24 : decode cL_leadsBack 24 = .ok (.ireturn, 1) := db5_48.2.2.2.2.2.2.2.2.2.2.2.2.2.1
theorem dL_leadsBack_25 : decode cL_leadsBack 25 = .ok (.astore 4, 2) := db5_48.2.2.2.2.2.2.2.2.2.2.2.2.2.2.1
theorem dL_leadsBack_27 : decode cL_leadsBack 27 = .ok (.iconst 2, 1) := db5_48.2.2.2.2.2.2.2.2.2.2.2.2.2.2.2
theorem db5_49 : (decode cL_leadsBack 28 = .ok (.ireturn, 1)) ∧ (decode cL_leadsBack 29 = .ok (.iconst 0, 1)) ∧ (decode cL_leadsBack 30 = .ok (.ireturn, 1)) := by decide +kernel
theorem dL_leadsBack_28 : decode cL_leadsBack 28 = .ok (.ireturn, 1) := db5_49.1
theorem dL_leadsBack_29 : decode cL_leadsBack 29 = .ok (.iconst 0, 1) := db5_49.2.1
theorem dL_leadsBack_30 : decode cL_leadsBack 30 = .ok (.ireturn, 1) := db5_49.2.2
theorem db5_50 : (decode cL_twice 0 = .ok (.aload 4, 2)) ∧ (decode cL_twice 2 = .ok (.aload_n 0, 1)) ∧ (decode cL_twice 3 = .ok (.iload_n 1, 1)) ∧ (decode cL_twice 4 = .ok (.iload_n 2, 1)) ∧ (decode cL_twice 5 = .ok (.iload_n 3, 1)) ∧ (decode cL_twice 6 = .ok (.invokevirtual 90, 3)) ∧ (decode cL_twice 9 = .ok (.i2l, 1)) ∧ (decode cL_twice 10 = .ok (.putfield 13, 3)) ∧ (decode cL_twice 13 = .ok (.goto 11, 3)) ∧ (decode cL_twice 16 = .ok (.astore 5, 2)) ∧ (decode cL_twice 18 = .ok (.iconst 1, 1)) ∧ (decode cL_twice 19 = .ok (.ireturn, 1)) ∧ (decode cL_twice 20 = .ok (.astore 5, 2)) ∧ (decode cL_twice 22 = .ok (.iconst 2, 1)) ∧ (decode cL_twice 23 = .ok (.ireturn, 1)) ∧ (decode cL_twice 24 = .ok (.iconst 0, 1)) := by decide +kernel
theorem dL_twice_0 : decode cL_twice 0 = .ok (.aload 4, 2) := db5_50.1
theorem dL_twice_2 : decode cL_twice 2 = .ok (.aload_n 0, 1) := db5_50.2.1
theorem dL_twice_3 : decode cL_twice 3 = .ok (.iload_n 1, 1) := db5_50.2.2.1
theorem dL_twice_4 : decode cL_twice 4 = .ok (.iload_n 2, 1) := db5_50.2.2.2.1
theorem dL_twice_5 : decode cL_twice 5 = .ok (.iload_n 3, 1) := db5_50.2.2.2.2.1
theorem dL_twice_6 : decode cL_twice 6 = .ok (.invokevirtual 90, 3) := db5_50.2.2.2.2.2.1
theorem dL_twice_9 : decode cL_twice 9 = .ok (.i2l, 1) := db5_50.2.2.2.2.2.2.1
theorem dL_twice_10 : decode cL_twice 10 = .ok (.putfield 13, 3) := db5_50.2.2.2.2.2.2.2.1
theorem dL_twice_13 : decode cL_twice 13 = .ok (.goto 11, 3) := db5_50.2.2.2.2.2.2.2.2.1
theorem dL_twice_16 : decode cL_twice 16 = .ok (.astore 5, 2) := db5_50.2.2.2.2.2.2.2.2.2.1
theorem dL_twice_18 : decode cL_twice 18 = .ok (.iconst 1, 1) := db5_50.2.2.2.2.2.2.2.2.2.2.1
theorem dL_twice_19 : decode cL_twice 19 = .ok (.ireturn, 1) := db5_50.2.2.2.2.2.2.2.2.2.2.2.1
theorem dL_twice_20 : decode cL_twice 20 = .ok (.astore 5, 2) := db5_50.2.2.2.2.2.2.2.2.2.2.2.2.1
theorem dL_twice_22 : decode cL_twice 22 = .ok (.iconst 2, 1) := db5_50.2.2.2.2.2.2.2.2.2.2.2.2.2.1
theorem dL_twice_23 : decode cL_twice 23 = .ok (.ireturn, 1) := db5_50.2.2.2.2.2.2.2.2.2.2.2.2.2.2.1
theorem dL_twice_24 : decode cL_twice 24 = .ok (.iconst 0, 1) := db5_50.2.2.2.2.2.2.2.2.2.2.2.2.2.2.2
theorem dL_twice_25 : decode cL_twice 25 = .ok (.ireturn, 1) := by decide +kernel
theorem db5_51 : (decode cL_gap 0 = .ok (.aload 4, 2)) ∧ (decode cL_gap 2 = .ok (.aload_n 0, 1)) ∧ (decode cL_gap 3 = .ok (.iload_n 1, 1)) ∧ (decode cL_gap 4 = .ok (.iload_n 2, 1)) ∧ (decode cL_gap 5 = .ok (.iload_n 3, 1)) ∧ (decode cL_gap 6 = .ok (.invokevirtual 93, 3)) ∧ (decode cL_gap 9 = .ok (.i2l, 1)) ∧ (decode cL_gap 10 = .ok (.putfield 13, 3)) ∧ (decode cL_gap 13 = .ok (.goto 11, 3)) ∧ (decode cL_gap 16 = .ok (.astore 5, 2)) ∧ (decode cL_gap 18 = .ok (.iconst 1, 1)) ∧ (decode cL_gap 19 = .ok (.ireturn, 1)) ∧ (decode cL_gap 20 = .ok (.astore 5, 2)) ∧ (decode cL_gap 22 = .ok (.iconst 2, 1)) ∧ (decode cL_gap 23 = .ok (.ireturn, 1)) ∧ (decode cL_gap 24 = .ok (.iconst 0, 1)) := by decide +kernel
theorem dL_gap_0 : decode cL_gap 0 = .ok (.aload 4, 2) := db5_51.1
theorem dL_gap_2 : decode cL_gap 2 = .ok (.aload_n 0, 1) := db5_51.2.1
theorem dL_gap_3 : decode cL_gap 3 = .ok (.iload_n 1, 1) := db5_51.2.2.1
theorem dL_gap_4 : decode cL_gap 4 = .ok (.iload_n 2, 1) := db5_51.2.2.2.1
theorem dL_gap_5 : decode cL_gap 5 = .ok (.iload_n 3, 1) := db5_51.2.2.2.2.1
theorem dL_gap_6 : decode cL_gap 6 = .ok (.invokevirtual 93, 3) := db5_51.2.2.2.2.2.1
theorem dL_gap_9 : decode cL_gap 9 = .ok (.i2l, 1) := db5_51.2.2.2.2.2.2.1
theorem dL_gap_10 : decode cL_gap 10 = .ok (.putfield 13, 3) := db5_51.2.2.2.2.2.2.2.1
theorem dL_gap_13 : decode cL_gap 13 = .ok (.goto 11, 3) := db5_51.2.2.2.2.2.2.2.2.1
theorem dL_gap_16 : decode cL_gap 16 = .ok (.astore 5, 2) := db5_51.2.2.2.2.2.2.2.2.2.1
theorem dL_gap_18 : decode cL_gap 18 = .ok (.iconst 1, 1) := db5_51.2.2.2.2.2.2.2.2.2.2.1
theorem dL_gap_19 : decode cL_gap 19 = .ok (.ireturn, 1) := db5_51.2.2.2.2.2.2.2.2.2.2.2.1
theorem dL_gap_20 : decode cL_gap 20 = .ok (.astore 5, 2) := db5_51.2.2.2.2.2.2.2.2.2.2.2.2.1
theorem dL_gap_22 : decode cL_gap 22 = .ok (.iconst 2, 1) := db5_51.2.2.2.2.2.2.2.2.2.2.2.2.2.1
theorem dL_gap_23 : decode cL_gap 23 = .ok (.ireturn, 1) := db5_51.2.2.2.2.2.2.2.2.2.2.2.2.2.2.1
theorem dL_gap_24 : decode cL_gap 24 = .ok (.iconst 0, 1) := db5_51.2.2.2.2.2.2.2.2.2.2.2.2.2.2.2
theorem dL_gap_25 : decode cL_gap 25 = .ok (.ireturn, 1) := by decide +kernel
theorem db5_52 : (decode cL_lowest 0 = .ok (.aload 4, 2)) ∧ (decode cL_lowest 2 = .ok (.aload_n 0, 1)) ∧ (decode cL_lowest 3 = .ok (.iload_n 1, 1)) ∧ (decode cL_lowest 4 = .ok (.iload_n 2, 1)) ∧ (decode cL_lowest 5 = .ok (.iload_n 3, 1)) ∧ (decode cL_lowest 6 = .ok (.invokevirtual 96, 3)) ∧ (decode cL_lowest 9 = .ok (.i2l, 1)) ∧ (decode cL_lowest 10 = .ok (.putfield 13, 3)) ∧ (decode cL_lowest 13 = .ok (.goto 11, 3)) ∧ (decode cL_lowest 16 = .ok (.astore 5, 2)) ∧ (decode cL_lowest 18 = .ok (.iconst 1, 1)) ∧ (decode cL_lowest 19 = .ok (.ireturn, 1)) ∧ (decode cL_lowest 20 = .ok (.astore 5, 2)) ∧ (decode cL_lowest 22 = .ok (.iconst 2, 1)) ∧ (decode cL_lowest 23 = .ok (.ireturn, 1)) ∧ (decode cL_lowest 24 = .ok (.iconst 0, 1)) := by decide +kernel
theorem dL_lowest_0 : decode cL_lowest 0 = .ok (.aload 4, 2) := db5_52.1
theorem dL_lowest_2 : decode cL_lowest 2 = .ok (.aload_n 0, 1) := db5_52.2.1
theorem dL_lowest_3 : decode cL_lowest 3 = .ok (.iload_n 1, 1) := db5_52.2.2.1
theorem dL_lowest_4 : decode cL_lowest 4 = .ok (.iload_n 2, 1) := db5_52.2.2.2.1
theorem dL_lowest_5 : decode cL_lowest 5 = .ok (.iload_n 3, 1) := db5_52.2.2.2.2.1
theorem dL_lowest_6 : decode cL_lowest 6 = .ok (.invokevirtual 96, 3) := db5_52.2.2.2.2.2.1
theorem dL_lowest_9 : decode cL_lowest 9 = .ok (.i2l, 1) := db5_52.2.2.2.2.2.2.1
theorem dL_lowest_10 : decode cL_lowest 10 = .ok (.putfield 13, 3) := db5_52.2.2.2.2.2.2.2.1
theorem dL_lowest_13 : decode cL_lowest 13 = .ok (.goto 11, 3) := db5_52.2.2.2.2.2.2.2.2.1
theorem dL_lowest_16 : decode cL_lowest 16 = .ok (.astore 5, 2) := db5_52.2.2.2.2.2.2.2.2.2.1
theorem dL_lowest_18 : decode cL_lowest 18 = .ok (.iconst 1, 1) := db5_52.2.2.2.2.2.2.2.2.2.2.1
theorem dL_lowest_19 : decode cL_lowest 19 = .ok (.ireturn, 1) := db5_52.2.2.2.2.2.2.2.2.2.2.2.1
theorem dL_lowest_20 : decode cL_lowest 20 = .ok (.astore 5, 2) := db5_52.2.2.2.2.2.2.2.2.2.2.2.2.1
theorem dL_lowest_22 : decode cL_lowest 22 = .ok (.iconst 2, 1) := db5_52.2.2.2.2.2.2.2.2.2.2.2.2.2.1
theorem dL_lowest_23 : decode cL_lowest 23 = .ok (.ireturn, 1) := db5_52.2.2.2.2.2.2.2.2.2.2.2.2.2.2.1
theorem dL_lowest_24 : decode cL_lowest 24 = .ok (.iconst 0, 1) := db5_52.2.2.2.2.2.2.2.2.2.2.2.2.2.2.2
theorem dL_lowest_25 : decode cL_lowest 25 = .ok (.ireturn, 1) := by decide +kernel
theorem db5_53 : (decode cL_met 0 = .ok (.aload 4, 2)) ∧ (decode cL_met 2 = .ok (.aload_n 0, 1)) ∧ (decode cL_met 3 = .ok (.iload_n 1, 1)) ∧ (decode cL_met 4 = .ok (.iload_n 2, 1)) ∧ (decode cL_met 5 = .ok (.iload_n 3, 1)) ∧ (decode cL_met 6 = .ok (.invokevirtual 99, 3)) ∧ (decode cL_met 9 = .ok (.putfield 103, 3)) ∧ (decode cL_met 12 = .ok (.goto 11, 3)) ∧ (decode cL_met 15 = .ok (.astore 5, 2)) ∧ (decode cL_met 17 = .ok (.iconst 1, 1)) ∧ (decode cL_met 18 = .ok (.ireturn, 1)) ∧ (decode cL_met 19 = .ok (.astore 5, 2)) ∧ (decode cL_met 21 = .ok (.iconst 2, 1)) ∧ (decode cL_met 22 = .ok (.ireturn, 1)) ∧ (decode cL_met 23 = .ok (.iconst 0, 1)) ∧ (decode cL_met 24 = .ok (.ireturn, 1)) := by decide +kernel
theorem dL_met_0 : decode cL_met 0 = .ok (.aload 4, 2) := db5_53.1
theorem dL_met_2 : decode cL_met 2 = .ok (.aload_n 0, 1) := db5_53.2.1
theorem dL_met_3 : decode cL_met 3 = .ok (.iload_n 1, 1) := db5_53.2.2.1
theorem dL_met_4 : decode cL_met 4 = .ok (.iload_n 2, 1) := db5_53.2.2.2.1
theorem dL_met_5 : decode cL_met 5 = .ok (.iload_n 3, 1) := db5_53.2.2.2.2.1
theorem dL_met_6 : decode cL_met 6 = .ok (.invokevirtual 99, 3) := db5_53.2.2.2.2.2.1
theorem dL_met_9 : decode cL_met 9 = .ok (.putfield 103, 3) := db5_53.2.2.2.2.2.2.1
theorem dL_met_12 : decode cL_met 12 = .ok (.goto 11, 3) := db5_53.2.2.2.2.2.2.2.1
theorem dL_met_15 : decode cL_met 15 = .ok (.astore 5, 2) := db5_53.2.2.2.2.2.2.2.2.1
theorem dL_met_17 : decode cL_met 17 = .ok (.iconst 1, 1) := db5_53.2.2.2.2.2.2.2.2.2.1
theorem dL_met_18 : decode cL_met 18 = .ok (.ireturn, 1) := db5_53.2.2.2.2.2.2.2.2.2.2.1
theorem dL_met_19 : decode cL_met 19 = .ok (.astore 5, 2) := db5_53.2.2.2.2.2.2.2.2.2.2.2.1
theorem dL_met_21 : decode cL_met 21 = .ok (.iconst 2, 1) := db5_53.2.2.2.2.2.2.2.2.2.2.2.2.1
theorem dL_met_22 : decode cL_met 22 = .ok (.ireturn, 1) := db5_53.2.2.2.2.2.2.2.2.2.2.2.2.2.1
theorem dL_met_23 : decode cL_met 23 = .ok (.iconst 0, 1) := db5_53.2.2.2.2.2.2.2.2.2.2.2.2.2.2.1
theorem dL_met_24 : decode cL_met 24 = .ok (.ireturn, 1) := db5_53.2.2.2.2.2.2.2.2.2.2.2.2.2.2.2
theorem db5_54 : (decode cL_keeps 0 = .ok (.aload_n 3, 1)) ∧ (decode cL_keeps 1 = .ok (.aload_n 0, 1)) ∧ (decode cL_keeps 2 = .ok (.iload_n 1, 1)) ∧ (decode cL_keeps 3 = .ok (.iload_n 2, 1)) ∧ (decode cL_keeps 4 = .ok (.invokevirtual 107, 3)) ∧ (decode cL_keeps 7 = .ok (.i2l, 1)) ∧ (decode cL_keeps 8 = .ok (.putfield 13, 3)) ∧ (decode cL_keeps 11 = .ok (.goto 11, 3)) ∧ (decode cL_keeps 14 = .ok (.astore 4, 2)) ∧ (decode cL_keeps 16 = .ok (.iconst 1, 1)) ∧ (decode cL_keeps 17 = .ok (.ireturn, 1)) ∧ (decode cL_keeps 18 = .ok (.astore 4, 2)) ∧ (decode cL_keeps 20 = .ok (.iconst 2, 1)) ∧ (decode cL_keeps 21 = .ok (.ireturn, 1)) ∧ (decode cL_keeps 22 = .ok (.iconst 0, 1)) ∧ (decode cL_keeps 23 = .ok (.ireturn, 1)) := by decide +kernel
theorem dL_keeps_0 : decode cL_keeps 0 = .ok (.aload_n 3, 1) := db5_54.1
theorem dL_keeps_1 : decode cL_keeps 1 = .ok (.aload_n 0, 1) := db5_54.2.1
theorem dL_keeps_2 : decode cL_keeps 2 = .ok (.iload_n 1, 1) := db5_54.2.2.1
theorem dL_keeps_3 : decode cL_keeps 3 = .ok (.iload_n 2, 1) := db5_54.2.2.2.1
theorem dL_keeps_4 : decode cL_keeps 4 = .ok (.invokevirtual 107, 3) := db5_54.2.2.2.2.1
theorem dL_keeps_7 : decode cL_keeps 7 = .ok (.i2l, 1) := db5_54.2.2.2.2.2.1
theorem dL_keeps_8 : decode cL_keeps 8 = .ok (.putfield 13, 3) := db5_54.2.2.2.2.2.2.1
theorem dL_keeps_11 : decode cL_keeps 11 = .ok (.goto 11, 3) := db5_54.2.2.2.2.2.2.2.1
theorem dL_keeps_14 : decode cL_keeps 14 = .ok (.astore 4, 2) := db5_54.2.2.2.2.2.2.2.2.1
theorem dL_keeps_16 : decode cL_keeps 16 = .ok (.iconst 1, 1) := db5_54.2.2.2.2.2.2.2.2.2.1
theorem dL_keeps_17 : decode cL_keeps 17 = .ok (.ireturn, 1) := db5_54.2.2.2.2.2.2.2.2.2.2.1
theorem dL_keeps_18 : decode cL_keeps 18 = .ok (.astore 4, 2) := db5_54.2.2.2.2.2.2.2.2.2.2.2.1
theorem dL_keeps_20 : decode cL_keeps 20 = .ok (.iconst 2, 1) := db5_54.2.2.2.2.2.2.2.2.2.2.2.2.1
theorem dL_keeps_21 : decode cL_keeps 21 = .ok (.ireturn, 1) := db5_54.2.2.2.2.2.2.2.2.2.2.2.2.2.1
theorem dL_keeps_22 : decode cL_keeps 22 = .ok (.iconst 0, 1) := db5_54.2.2.2.2.2.2.2.2.2.2.2.2.2.2.1
theorem dL_keeps_23 : decode cL_keeps 23 = .ok (.ireturn, 1) := db5_54.2.2.2.2.2.2.2.2.2.2.2.2.2.2.2
theorem db5_55 : (decode cL_month 0 = .ok (.aload_n 2, 1)) ∧ (decode cL_month 1 = .ok (.aload_n 0, 1)) ∧ (decode cL_month 2 = .ok (.iload_n 1, 1)) ∧ (decode cL_month 3 = .ok (.invokevirtual 110, 3)) ∧ (decode cL_month 6 = .ok (.i2l, 1)) ∧ (decode cL_month 7 = .ok (.putfield 13, 3)) ∧ (decode cL_month 10 = .ok (.goto 6, 3)) ∧ (decode cL_month 13 = .ok (.astore_n 3, 1)) ∧ (decode cL_month 14 = .ok (.iconst 1, 1)) ∧ (decode cL_month 15 = .ok (.ireturn, 1)) ∧ (decode cL_month 16 = .ok (.iconst 0, 1)) ∧ (decode cL_month 17 = .ok (.ireturn, 1)) := by decide +kernel
theorem dL_month_0 : decode cL_month 0 = .ok (.aload_n 2, 1) := db5_55.1
theorem dL_month_1 : decode cL_month 1 = .ok (.aload_n 0, 1) := db5_55.2.1
theorem dL_month_2 : decode cL_month 2 = .ok (.iload_n 1, 1) := db5_55.2.2.1
theorem dL_month_3 : decode cL_month 3 = .ok (.invokevirtual 110, 3) := db5_55.2.2.2.1
theorem dL_month_6 : decode cL_month 6 = .ok (.i2l, 1) := db5_55.2.2.2.2.1
theorem dL_month_7 : decode cL_month 7 = .ok (.putfield 13, 3) := db5_55.2.2.2.2.2.1
theorem dL_month_10 : decode cL_month 10 = .ok (.goto 6, 3) := db5_55.2.2.2.2.2.2.1
theorem dL_month_13 : decode cL_month 13 = .ok (.astore_n 3, 1) := db5_55.2.2.2.2.2.2.2.1
theorem dL_month_14 : decode cL_month 14 = .ok (.iconst 1, 1) := db5_55.2.2.2.2.2.2.2.2.1
theorem dL_month_15 : decode cL_month 15 = .ok (.ireturn, 1) := db5_55.2.2.2.2.2.2.2.2.2.1
theorem dL_month_16 : decode cL_month 16 = .ok (.iconst 0, 1) := db5_55.2.2.2.2.2.2.2.2.2.2.1
theorem dL_month_17 : decode cL_month 17 = .ok (.ireturn, 1) := db5_55.2.2.2.2.2.2.2.2.2.2.2
theorem db5_56 : (decode cL_ofMonthNumber 0 = .ok (.aload_n 3, 1)) ∧ (decode cL_ofMonthNumber 1 = .ok (.aload_n 0, 1)) ∧ (decode cL_ofMonthNumber 2 = .ok (.iload_n 1, 1)) ∧ (decode cL_ofMonthNumber 3 = .ok (.iload_n 2, 1)) ∧ (decode cL_ofMonthNumber 4 = .ok (.invokevirtual 113, 3)) ∧ (decode cL_ofMonthNumber 7 = .ok (.i2l, 1)) ∧ (decode cL_ofMonthNumber 8 = .ok (.putfield 13, 3)) ∧ (decode cL_ofMonthNumber 11 = .ok (.goto 7, 3)) ∧ (decode cL_ofMonthNumber 14 = .ok (.astore 4, 2)) ∧ (decode cL_ofMonthNumber 16 = .ok (.iconst 1, 1)) ∧ (decode cL_ofMonthNumber 17 = .ok (.ireturn, 1)) ∧ (decode cL_ofMonthNumber 18 = .ok (.iconst 0, 1)) ∧ (decode cL_ofMonthNumber 19 = .ok (.ireturn, 1)) := by decide +kernel
theorem dL_ofMonthNumber_0 : decode cL_ofMonthNumber 0 = .ok (.aload_n 3, 1) := db5_56.1
theorem dL_ofMonthNumber_1 : decode cL_ofMonthNumber 1 = .ok (.aload_n 0, 1) := db5_56.2.1
theorem dL_ofMonthNumber_2 : decode cL_ofMonthNumber 2 = .ok (.iload_n 1, 1) := db5_56.2.2.1
theorem dL_ofMonthNumber_3 : decode cL_ofMonthNumber 3 = .ok (.iload_n 2, 1) := db5_56.2.2.2.1
theorem dL_ofMonthNumber_4 : decode cL_ofMonthNumber 4 = .ok (.invokevirtual 113, 3) := db5_56.2.2.2.2.1
theorem dL_ofMonthNumber_7 : decode cL_ofMonthNumber 7 = .ok (.i2l, 1) := db5_56.2.2.2.2.2.1
theorem dL_ofMonthNumber_8 : decode cL_ofMonthNumber 8 = .ok (.putfield 13, 3) := db5_56.2.2.2.2.2.2.1
theorem dL_ofMonthNumber_11 : decode cL_ofMonthNumber 11 = .ok (.goto 7, 3) := db5_56.2.2.2.2.2.2.2.1
theorem dL_ofMonthNumber_14 : decode cL_ofMonthNumber 14 = .ok (.astore 4, 2) := db5_56.2.2.2.2.2.2.2.2.1
theorem dL_ofMonthNumber_16 : decode cL_ofMonthNumber 16 = .ok (.iconst 1, 1) := db5_56.2.2.2.2.2.2.2.2.2.1
theorem dL_ofMonthNumber_17 : decode cL_ofMonthNumber 17 = .ok (.ireturn, 1) := db5_56.2.2.2.2.2.2.2.2.2.2.1
theorem dL_ofMonthNumber_18 : decode cL_ofMonthNumber 18 = .ok (.iconst 0, 1) := db5_56.2.2.2.2.2.2.2.2.2.2.2.1
theorem dL_ofMonthNumber_19 : decode cL_ofMonthNumber 19 = .ok (.ireturn, 1) := db5_56.2.2.2.2.2.2.2.2.2.2.2.2
theorem db5_57 : (decode cL_lengths 0 = .ok (.aload_n 3, 1)) ∧ (decode cL_lengths 1 = .ok (.aload_n 0, 1)) ∧ (decode cL_lengths 2 = .ok (.iload_n 1, 1)) ∧ (decode cL_lengths 3 = .ok (.iload_n 2, 1)) ∧ (decode cL_lengths 4 = .ok (.invokevirtual 116, 3)) ∧ (decode cL_lengths 7 = .ok (.i2l, 1)) ∧ (decode cL_lengths 8 = .ok (.putfield 13, 3)) ∧ (decode cL_lengths 11 = .ok (.goto 7, 3)) ∧ (decode cL_lengths 14 = .ok (.astore 4, 2)) ∧ (decode cL_lengths 16 = .ok (.iconst 1, 1)) ∧ (decode cL_lengths 17 = .ok (.ireturn, 1)) ∧ (decode cL_lengths 18 = .ok (.iconst 0, 1)) ∧ (decode cL_lengths 19 = .ok (.ireturn, 1)) := by decide +kernel
theorem dL_lengths_0 : decode cL_lengths 0 = .ok (.aload_n 3, 1) := db5_57.1
theorem dL_lengths_1 : decode cL_lengths 1 = .ok (.aload_n 0, 1) := db5_57.2.1
theorem dL_lengths_2 : decode cL_lengths 2 = .ok (.iload_n 1, 1) := db5_57.2.2.1
theorem dL_lengths_3 : decode cL_lengths 3 = .ok (.iload_n 2, 1) := db5_57.2.2.2.1
theorem dL_lengths_4 : decode cL_lengths 4 = .ok (.invokevirtual 116, 3) := db5_57.2.2.2.2.1
theorem dL_lengths_7 : decode cL_lengths 7 = .ok (.i2l, 1) := db5_57.2.2.2.2.2.1
theorem dL_lengths_8 : decode cL_lengths 8 = .ok (.putfield 13, 3) := db5_57.2.2.2.2.2.2.1
theorem dL_lengths_11 : decode cL_lengths 11 = .ok (.goto 7, 3) := db5_57.2.2.2.2.2.2.2.1
theorem dL_lengths_14 : decode cL_lengths 14 = .ok (.astore 4, 2) := db5_57.2.2.2.2.2.2.2.2.1
theorem dL_lengths_16 : decode cL_lengths 16 = .ok (.iconst 1, 1) := db5_57.2.2.2.2.2.2.2.2.2.1
theorem dL_lengths_17 : decode cL_lengths 17 = .ok (.ireturn, 1) := db5_57.2.2.2.2.2.2.2.2.2.2.1
theorem dL_lengths_18 : decode cL_lengths 18 = .ok (.iconst 0, 1) := db5_57.2.2.2.2.2.2.2.2.2.2.2.1
theorem dL_lengths_19 : decode cL_lengths 19 = .ok (.ireturn, 1) := db5_57.2.2.2.2.2.2.2.2.2.2.2.2
theorem db5_58 : (decode cL_weekday 0 = .ok (.aload_n 2, 1)) ∧ (decode cL_weekday 1 = .ok (.aload_n 0, 1)) ∧ (decode cL_weekday 2 = .ok (.iload_n 1, 1)) ∧ (decode cL_weekday 3 = .ok (.invokevirtual 119, 3)) ∧ (decode cL_weekday 6 = .ok (.i2l, 1)) ∧ (decode cL_weekday 7 = .ok (.putfield 13, 3)) ∧ (decode cL_weekday 10 = .ok (.goto 6, 3)) ∧ (decode cL_weekday 13 = .ok (.astore_n 3, 1)) ∧ (decode cL_weekday 14 = .ok (.iconst 1, 1)) ∧ (decode cL_weekday 15 = .ok (.ireturn, 1)) ∧ (decode cL_weekday 16 = .ok (.iconst 0, 1)) ∧ (decode cL_weekday 17 = .ok (.ireturn, 1)) := by decide +kernel
theorem dL_weekday_0 : decode cL_weekday 0 = .ok (.aload_n 2, 1) := db5_58.1
theorem dL_weekday_1 : decode cL_weekday 1 = .ok (.aload_n 0, 1) := db5_58.2.1
theorem dL_weekday_2 : decode cL_weekday 2 = .ok (.iload_n 1, 1) := db5_58.2.2.1
theorem dL_weekday_3 : decode cL_weekday 3 = .ok (.invokevirtual 119, 3) := db5_58.2.2.2.1
theorem dL_weekday_6 : decode cL_weekday 6 = .ok (.i2l, 1) := db5_58.2.2.2.2.1
theorem dL_weekday_7 : decode cL_weekday 7 = .ok (.putfield 13, 3) := db5_58.2.2.2.2.2.1
theorem dL_weekday_10 : decode cL_weekday 10 = .ok (.goto 6, 3) := db5_58.2.2.2.2.2.2.1
theorem dL_weekday_13 : decode cL_weekday 13 = .ok (.astore_n 3, 1) := db5_58.2.2.2.2.2.2.2.1
theorem dL_weekday_14 : decode cL_weekday 14 = .ok (.iconst 1, 1) := db5_58.2.2.2.2.2.2.2.2.1
theorem dL_weekday_15 : decode cL_weekday 15 = .ok (.ireturn, 1) := db5_58.2.2.2.2.2.2.2.2.2.1
theorem dL_weekday_16 : decode cL_weekday 16 = .ok (.iconst 0, 1) := db5_58.2.2.2.2.2.2.2.2.2.2.1
theorem dL_weekday_17 : decode cL_weekday 17 = .ok (.ireturn, 1) := db5_58.2.2.2.2.2.2.2.2.2.2.2
theorem db5_59 : (decode cL_nth 0 = .ok (.aload 4, 2)) ∧ (decode cL_nth 2 = .ok (.aload_n 0, 1)) ∧ (decode cL_nth 3 = .ok (.iload_n 1, 1)) ∧ (decode cL_nth 4 = .ok (.iload_n 2, 1)) ∧ (decode cL_nth 5 = .ok (.iload_n 3, 1)) ∧ (decode cL_nth 6 = .ok (.invokevirtual 122, 3)) ∧ (decode cL_nth 9 = .ok (.i2l, 1)) ∧ (decode cL_nth 10 = .ok (.putfield 13, 3)) ∧ (decode cL_nth 13 = .ok (.goto 7, 3)) ∧ (decode cL_nth 16 = .ok (.astore 5, 2)) ∧ (decode cL_nth 18 = .ok (.iconst 1, 1)) ∧ (decode cL_nth 19 = .ok (.ireturn, 1)) ∧ (decode cL_nth 20 = .ok (.iconst 0, 1)) ∧ (decode cL_nth 21 = .ok (.ireturn, 1)) := by decide +kernel
theorem dL_nth_0 : decode cL_nth 0 = .ok (.aload 4, 2) := db5_59.1
theorem dL_nth_2 : decode cL_nth 2 = .ok (.aload_n 0, 1) := db5_59.2.1
theorem dL_nth_3 : decode cL_nth 3 = .ok (.iload_n 1, 1) := db5_59.2.2.1
theorem dL_nth_4 : decode cL_nth 4 = .ok (.iload_n 2, 1) := db5_59.2.2.2.1
theorem dL_nth_5 : decode cL_nth 5 = .ok (.iload_n 3, 1) := db5_59.2.2.2.2.1
theorem dL_nth_6 : decode cL_nth 6 = .ok (.invokevirtual 122, 3) := db5_59.2.2.2.2.2.1
theorem dL_nth_9 : decode cL_nth 9 = .ok (.i2l, 1) := db5_59.2.2.2.2.2.2.1
theorem dL_nth_10 : decode cL_nth 10 = .ok (.putfield 13, 3) := db5_59.2.2.2.2.2.2.2.1
theorem dL_nth_13 : decode cL_nth 13 = .ok (.goto 7, 3) := db5_59.2.2.2.2.2.2.2.2.1
theorem dL_nth_16 : decode cL_nth 16 = .ok (.astore 5, 2) := db5_59.2.2.2.2.2.2.2.2.2.1
theorem dL_nth_18 : decode cL_nth 18 = .ok (.iconst 1, 1) := db5_59.2.2.2.2.2.2.2.2.2.2.1
theorem dL_nth_19 : decode cL_nth 19 = .ok (.ireturn, 1) := db5_59.2.2.2.2.2.2.2.2.2.2.2.1
theorem dL_nth_20 : decode cL_nth 20 = .ok (.iconst 0, 1) := db5_59.2.2.2.2.2.2.2.2.2.2.2.2.1
theorem dL_nth_21 : decode cL_nth 21 = .ok (.ireturn, 1) := db5_59.2.2.2.2.2.2.2.2.2.2.2.2.2
theorem db5_60 : (decode cL_inYear 0 = .ok (.aload 4, 2)) ∧ (decode cL_inYear 2 = .ok (.aload_n 0, 1)) ∧ (decode cL_inYear 3 = .ok (.iload_n 1, 1)) ∧ (decode cL_inYear 4 = .ok (.iload_n 2, 1)) ∧ (decode cL_inYear 5 = .ok (.iload_n 3, 1)) ∧ (decode cL_inYear 6 = .ok (.invokevirtual 125, 3)) ∧ (decode cL_inYear 9 = .ok (.i2l, 1)) ∧ (decode cL_inYear 10 = .ok (.putfield 13, 3)) ∧ (decode cL_inYear 13 = .ok (.goto 7, 3)) ∧ (decode cL_inYear 16 = .ok (.astore 5, 2)) ∧ (decode cL_inYear 18 = .ok (.iconst 1, 1)) ∧ (decode cL_inYear 19 = .ok (.ireturn, 1)) ∧ (decode cL_inYear 20 = .ok (.iconst 0, 1)) ∧ (decode cL_inYear 21 = .ok (.ireturn, 1)) := by decide +kernel
theorem dL_inYear_0 : decode cL_inYear 0 = .ok (.aload 4, 2) := db5_60.1
theorem dL_inYear_2 : decode cL_inYear 2 = .ok (.aload_n 0, 1) := db5_60.2.1
theorem dL_inYear_3 : decode cL_inYear 3 = .ok (.iload_n 1, 1) := db5_60.2.2.1
theorem dL_inYear_4 : decode cL_inYear 4 = .ok (.iload_n 2, 1) := db5_60.2.2.2.1
theorem dL_inYear_5 : decode cL_inYear 5 = .ok (.iload_n 3, 1) := db5_60.2.2.2.2.1
theorem dL_inYear_6 : decode cL_inYear 6 = .ok (.invokevirtual 125, 3) := db5_60.2.2.2.2.2.1
theorem dL_inYear_9 : decode cL_inYear 9 = .ok (.i2l, 1) := db5_60.2.2.2.2.2.2.1
theorem dL_inYear_10 : decode cL_inYear 10 = .ok (.putfield 13, 3) := db5_60.2.2.2.2.2.2.2.1
theorem dL_inYear_13 : decode cL_inYear 13 = .ok (.goto 7, 3) := db5_60.2.2.2.2.2.2.2.2.1
theorem dL_inYear_16 : decode cL_inYear 16 = .ok (.astore 5, 2) := db5_60.2.2.2.2.2.2.2.2.2.1
theorem dL_inYear_18 : decode cL_inYear 18 = .ok (.iconst 1, 1) := db5_60.2.2.2.2.2.2.2.2.2.2.1
theorem dL_inYear_19 : decode cL_inYear 19 = .ok (.ireturn, 1) := db5_60.2.2.2.2.2.2.2.2.2.2.2.1
theorem dL_inYear_20 : decode cL_inYear 20 = .ok (.iconst 0, 1) := db5_60.2.2.2.2.2.2.2.2.2.2.2.2.1
theorem dL_inYear_21 : decode cL_inYear 21 = .ok (.ireturn, 1) := db5_60.2.2.2.2.2.2.2.2.2.2.2.2.2
theorem db5_61 : (decode cL_recurs 0 = .ok (.aload 4, 2)) ∧ (decode cL_recurs 2 = .ok (.aload_n 0, 1)) ∧ (decode cL_recurs 3 = .ok (.iload_n 1, 1)) ∧ (decode cL_recurs 4 = .ok (.iload_n 2, 1)) ∧ (decode cL_recurs 5 = .ok (.iload_n 3, 1)) ∧ (decode cL_recurs 6 = .ok (.invokevirtual 128, 3)) ∧ (decode cL_recurs 9 = .ok (.i2l, 1)) ∧ (decode cL_recurs 10 = .ok (.putfield 13, 3)) ∧ (decode cL_recurs 13 = .ok (.goto 11, 3)) ∧ (decode cL_recurs 16 = .ok (.astore 5, 2)) ∧ (decode cL_recurs 18 = .ok (.iconst 1, 1)) ∧ (decode cL_recurs 19 = .ok (.ireturn, 1)) ∧ (decode cL_recurs 20 = .ok (.astore 5, 2)) ∧ (decode cL_recurs 22 = .ok (.iconst 2, 1)) ∧ (decode cL_recurs 23 = .ok (.ireturn, 1)) ∧ (decode cL_recurs 24 = .ok (.iconst 0, 1)) := by decide +kernel
theorem dL_recurs_0 : decode cL_recurs 0 = .ok (.aload 4, 2) := db5_61.1
theorem dL_recurs_2 : decode cL_recurs 2 = .ok (.aload_n 0, 1) := db5_61.2.1
theorem dL_recurs_3 : decode cL_recurs 3 = .ok (.iload_n 1, 1) := db5_61.2.2.1
theorem dL_recurs_4 : decode cL_recurs 4 = .ok (.iload_n 2, 1) := db5_61.2.2.2.1
theorem dL_recurs_5 : decode cL_recurs 5 = .ok (.iload_n 3, 1) := db5_61.2.2.2.2.1
theorem dL_recurs_6 : decode cL_recurs 6 = .ok (.invokevirtual 128, 3) := db5_61.2.2.2.2.2.1
theorem dL_recurs_9 : decode cL_recurs 9 = .ok (.i2l, 1) := db5_61.2.2.2.2.2.2.1
theorem dL_recurs_10 : decode cL_recurs 10 = .ok (.putfield 13, 3) := db5_61.2.2.2.2.2.2.2.1
theorem dL_recurs_13 : decode cL_recurs 13 = .ok (.goto 11, 3) := db5_61.2.2.2.2.2.2.2.2.1
theorem dL_recurs_16 : decode cL_recurs 16 = .ok (.astore 5, 2) := db5_61.2.2.2.2.2.2.2.2.2.1
theorem dL_recurs_18 : decode cL_recurs 18 = .ok (.iconst 1, 1) := db5_61.2.2.2.2.2.2.2.2.2.2.1
theorem dL_recurs_19 : decode cL_recurs 19 = .ok (.ireturn, 1) := db5_61.2.2.2.2.2.2.2.2.2.2.2.1
theorem dL_recurs_20 : decode cL_recurs 20 = .ok (.astore 5, 2) := db5_61.2.2.2.2.2.2.2.2.2.2.2.2.1
theorem dL_recurs_22 : decode cL_recurs 22 = .ok (.iconst 2, 1) := db5_61.2.2.2.2.2.2.2.2.2.2.2.2.2.1
theorem dL_recurs_23 : decode cL_recurs 23 = .ok (.ireturn, 1) := db5_61.2.2.2.2.2.2.2.2.2.2.2.2.2.2.1
theorem dL_recurs_24 : decode cL_recurs 24 = .ok (.iconst 0, 1) := db5_61.2.2.2.2.2.2.2.2.2.2.2.2.2.2.2
theorem dL_recurs_25 : decode cL_recurs 25 = .ok (.ireturn, 1) := by decide +kernel
theorem db5_62 : (decode cL_age 0 = .ok (.aload_n 3, 1)) ∧ (decode cL_age 1 = .ok (.aload_n 0, 1)) ∧ (decode cL_age 2 = .ok (.iload_n 1, 1)) ∧ (decode cL_age 3 = .ok (.iload_n 2, 1)) ∧ (decode cL_age 4 = .ok (.invokevirtual 131, 3)) ∧ (decode cL_age 7 = .ok (.i2l, 1)) ∧ (decode cL_age 8 = .ok (.putfield 13, 3)) ∧ (decode cL_age 11 = .ok (.goto 11, 3)) ∧ (decode cL_age 14 = .ok (.astore 4, 2)) ∧ (decode cL_age 16 = .ok (.iconst 1, 1)) ∧ (decode cL_age 17 = .ok (.ireturn, 1)) ∧ (decode cL_age 18 = .ok (.astore 4, 2)) ∧ (decode cL_age 20 = .ok (.iconst 2, 1)) ∧ (decode cL_age 21 = .ok (.ireturn, 1)) ∧ (decode cL_age 22 = .ok (.iconst 0, 1)) ∧ (decode cL_age 23 = .ok (.ireturn, 1)) := by decide +kernel
theorem dL_age_0 : decode cL_age 0 = .ok (.aload_n 3, 1) := db5_62.1
theorem dL_age_1 : decode cL_age 1 = .ok (.aload_n 0, 1) := db5_62.2.1
theorem dL_age_2 : decode cL_age 2 = .ok (.iload_n 1, 1) := db5_62.2.2.1
theorem dL_age_3 : decode cL_age 3 = .ok (.iload_n 2, 1) := db5_62.2.2.2.1
theorem dL_age_4 : decode cL_age 4 = .ok (.invokevirtual 131, 3) := db5_62.2.2.2.2.1
theorem dL_age_7 : decode cL_age 7 = .ok (.i2l, 1) := db5_62.2.2.2.2.2.1
theorem dL_age_8 : decode cL_age 8 = .ok (.putfield 13, 3) := db5_62.2.2.2.2.2.2.1
theorem dL_age_11 : decode cL_age 11 = .ok (.goto 11, 3) := db5_62.2.2.2.2.2.2.2.1
theorem dL_age_14 : decode cL_age 14 = .ok (.astore 4, 2) := db5_62.2.2.2.2.2.2.2.2.1
theorem dL_age_16 : decode cL_age 16 = .ok (.iconst 1, 1) := db5_62.2.2.2.2.2.2.2.2.2.1
theorem dL_age_17 : decode cL_age 17 = .ok (.ireturn, 1) := db5_62.2.2.2.2.2.2.2.2.2.2.1
theorem dL_age_18 : decode cL_age 18 = .ok (.astore 4, 2) := db5_62.2.2.2.2.2.2.2.2.2.2.2.1
theorem dL_age_20 : decode cL_age 20 = .ok (.iconst 2, 1) := db5_62.2.2.2.2.2.2.2.2.2.2.2.2.1
theorem dL_age_21 : decode cL_age 21 = .ok (.ireturn, 1) := db5_62.2.2.2.2.2.2.2.2.2.2.2.2.2.1
theorem dL_age_22 : decode cL_age 22 = .ok (.iconst 0, 1) := db5_62.2.2.2.2.2.2.2.2.2.2.2.2.2.2.1
theorem dL_age_23 : decode cL_age 23 = .ok (.ireturn, 1) := db5_62.2.2.2.2.2.2.2.2.2.2.2.2.2.2.2
theorem db5_63 : (decode cL_anniversaries 0 = .ok (.aload 4, 2)) ∧ (decode cL_anniversaries 2 = .ok (.aload_n 0, 1)) ∧ (decode cL_anniversaries 3 = .ok (.iload_n 1, 1)) ∧ (decode cL_anniversaries 4 = .ok (.iload_n 2, 1)) ∧ (decode cL_anniversaries 5 = .ok (.iload_n 3, 1)) ∧ (decode cL_anniversaries 6 = .ok (.invokevirtual 134, 3)) ∧ (decode cL_anniversaries 9 = .ok (.i2l, 1)) ∧ (decode cL_anniversaries 10 = .ok (.putfield 13, 3)) ∧ (decode cL_anniversaries 13 = .ok (.goto 7, 3)) ∧ (decode cL_anniversaries 16 = .ok (.astore 5, 2)) ∧ (decode cL_anniversaries 18 = .ok (.iconst 1, 1)) ∧ (decode cL_anniversaries 19 = .ok (.ireturn, 1)) ∧ (decode cL_anniversaries 20 = .ok (.iconst 0, 1)) ∧ (decode cL_anniversaries 21 = .ok (.ireturn, 1)) := by decide +kernel
theorem dL_anniversaries_0 : decode cL_anniversaries 0 = .ok (.aload 4, 2) := db5_63.1
theorem dL_anniversaries_2 : decode cL_anniversaries 2 = .ok (.aload_n 0, 1) := db5_63.2.1
theorem dL_anniversaries_3 : decode cL_anniversaries 3 = .ok (.iload_n 1, 1) := db5_63.2.2.1
theorem dL_anniversaries_4 : decode cL_anniversaries 4 = .ok (.iload_n 2, 1) := db5_63.2.2.2.1
theorem dL_anniversaries_5 : decode cL_anniversaries 5 = .ok (.iload_n 3, 1) := db5_63.2.2.2.2.1
theorem dL_anniversaries_6 : decode cL_anniversaries 6 = .ok (.invokevirtual 134, 3) := db5_63.2.2.2.2.2.1
theorem dL_anniversaries_9 : decode cL_anniversaries 9 = .ok (.i2l, 1) := db5_63.2.2.2.2.2.2.1
theorem dL_anniversaries_10 : decode cL_anniversaries 10 = .ok (.putfield 13, 3) := db5_63.2.2.2.2.2.2.2.1
theorem dL_anniversaries_13 : decode cL_anniversaries 13 = .ok (.goto 7, 3) := db5_63.2.2.2.2.2.2.2.2.1
theorem dL_anniversaries_16 : decode cL_anniversaries 16 = .ok (.astore 5, 2) := db5_63.2.2.2.2.2.2.2.2.2.1
theorem dL_anniversaries_18 : decode cL_anniversaries 18 = .ok (.iconst 1, 1) := db5_63.2.2.2.2.2.2.2.2.2.2.1
theorem dL_anniversaries_19 : decode cL_anniversaries 19 = .ok (.ireturn, 1) := db5_63.2.2.2.2.2.2.2.2.2.2.2.1
theorem dL_anniversaries_20 : decode cL_anniversaries 20 = .ok (.iconst 0, 1) := db5_63.2.2.2.2.2.2.2.2.2.2.2.2.1
theorem dL_anniversaries_21 : decode cL_anniversaries 21 = .ok (.ireturn, 1) := db5_63.2.2.2.2.2.2.2.2.2.2.2.2.2
theorem db5_64 : (decode cL_toNext 0 = .ok (.aload 4, 2)) ∧ (decode cL_toNext 2 = .ok (.aload_n 0, 1)) ∧ (decode cL_toNext 3 = .ok (.iload_n 1, 1)) ∧ (decode cL_toNext 4 = .ok (.iload_n 2, 1)) ∧ (decode cL_toNext 5 = .ok (.iload_n 3, 1)) ∧ (decode cL_toNext 6 = .ok (.invokevirtual 138, 3)) ∧ (decode cL_toNext 9 = .ok (.i2l, 1)) ∧ (decode cL_toNext 10 = .ok (.putfield 13, 3)) ∧ (decode cL_toNext 13 = .ok (.goto 7, 3)) ∧ (decode cL_toNext 16 = .ok (.astore 5, 2)) ∧ (decode cL_toNext 18 = .ok (.iconst 1, 1)) ∧ (decode cL_toNext 19 = .ok (.ireturn, 1)) ∧ (decode cL_toNext 20 = .ok (.iconst 0, 1)) ∧ (decode cL_toNext 21 = .ok (.ireturn, 1)) := by decide +kernel
theorem dL_toNext_0 : decode cL_toNext 0 = .ok (.aload 4, 2) := db5_64.1
theorem dL_toNext_2 : decode cL_toNext 2 = .ok (.aload_n 0, 1) := db5_64.2.1
theorem dL_toNext_3 : decode cL_toNext 3 = .ok (.iload_n 1, 1) := db5_64.2.2.1
theorem dL_toNext_4 : decode cL_toNext 4 = .ok (.iload_n 2, 1) := db5_64.2.2.2.1
theorem dL_toNext_5 : decode cL_toNext 5 = .ok (.iload_n 3, 1) := db5_64.2.2.2.2.1
theorem dL_toNext_6 : decode cL_toNext 6 = .ok (.invokevirtual 138, 3) := db5_64.2.2.2.2.2.1
theorem dL_toNext_9 : decode cL_toNext 9 = .ok (.i2l, 1) := db5_64.2.2.2.2.2.2.1
theorem dL_toNext_10 : decode cL_toNext 10 = .ok (.putfield 13, 3) := db5_64.2.2.2.2.2.2.2.1
theorem dL_toNext_13 : decode cL_toNext 13 = .ok (.goto 7, 3) := db5_64.2.2.2.2.2.2.2.2.1
theorem dL_toNext_16 : decode cL_toNext 16 = .ok (.astore 5, 2) := db5_64.2.2.2.2.2.2.2.2.2.1
theorem dL_toNext_18 : decode cL_toNext 18 = .ok (.iconst 1, 1) := db5_64.2.2.2.2.2.2.2.2.2.2.1
theorem dL_toNext_19 : decode cL_toNext 19 = .ok (.ireturn, 1) := db5_64.2.2.2.2.2.2.2.2.2.2.2.1
theorem dL_toNext_20 : decode cL_toNext 20 = .ok (.iconst 0, 1) := db5_64.2.2.2.2.2.2.2.2.2.2.2.2.1
theorem dL_toNext_21 : decode cL_toNext 21 = .ok (.ireturn, 1) := db5_64.2.2.2.2.2.2.2.2.2.2.2.2.2
theorem db5_65 : (decode cL_wholeMonths 0 = .ok (.aload_n 3, 1)) ∧ (decode cL_wholeMonths 1 = .ok (.aload_n 0, 1)) ∧ (decode cL_wholeMonths 2 = .ok (.iload_n 1, 1)) ∧ (decode cL_wholeMonths 3 = .ok (.iload_n 2, 1)) ∧ (decode cL_wholeMonths 4 = .ok (.invokevirtual 141, 3)) ∧ (decode cL_wholeMonths 7 = .ok (.i2l, 1)) ∧ (decode cL_wholeMonths 8 = .ok (.putfield 13, 3)) ∧ (decode cL_wholeMonths 11 = .ok (.goto 7, 3)) ∧ (decode cL_wholeMonths 14 = .ok (.astore 4, 2)) ∧ (decode cL_wholeMonths 16 = .ok (.iconst 1, 1)) ∧ (decode cL_wholeMonths 17 = .ok (.ireturn, 1)) ∧ (decode cL_wholeMonths 18 = .ok (.iconst 0, 1)) ∧ (decode cL_wholeMonths 19 = .ok (.ireturn, 1)) := by decide +kernel
theorem dL_wholeMonths_0 : decode cL_wholeMonths 0 = .ok (.aload_n 3, 1) := db5_65.1
theorem dL_wholeMonths_1 : decode cL_wholeMonths 1 = .ok (.aload_n 0, 1) := db5_65.2.1
theorem dL_wholeMonths_2 : decode cL_wholeMonths 2 = .ok (.iload_n 1, 1) := db5_65.2.2.1
theorem dL_wholeMonths_3 : decode cL_wholeMonths 3 = .ok (.iload_n 2, 1) := db5_65.2.2.2.1
theorem dL_wholeMonths_4 : decode cL_wholeMonths 4 = .ok (.invokevirtual 141, 3) := db5_65.2.2.2.2.1
theorem dL_wholeMonths_7 : decode cL_wholeMonths 7 = .ok (.i2l, 1) := db5_65.2.2.2.2.2.1
theorem dL_wholeMonths_8 : decode cL_wholeMonths 8 = .ok (.putfield 13, 3) := db5_65.2.2.2.2.2.2.1
theorem dL_wholeMonths_11 : decode cL_wholeMonths 11 = .ok (.goto 7, 3) := db5_65.2.2.2.2.2.2.2.1
theorem dL_wholeMonths_14 : decode cL_wholeMonths 14 = .ok (.astore 4, 2) := db5_65.2.2.2.2.2.2.2.2.1
theorem dL_wholeMonths_16 : decode cL_wholeMonths 16 = .ok (.iconst 1, 1) := db5_65.2.2.2.2.2.2.2.2.2.1
theorem dL_wholeMonths_17 : decode cL_wholeMonths 17 = .ok (.ireturn, 1) := db5_65.2.2.2.2.2.2.2.2.2.2.1
theorem dL_wholeMonths_18 : decode cL_wholeMonths 18 = .ok (.iconst 0, 1) := db5_65.2.2.2.2.2.2.2.2.2.2.2.1
theorem dL_wholeMonths_19 : decode cL_wholeMonths 19 = .ok (.ireturn, 1) := db5_65.2.2.2.2.2.2.2.2.2.2.2.2
theorem db5_66 : (decode cL_year 0 = .ok (.aload_n 2, 1)) ∧ (decode cL_year 1 = .ok (.aload_n 0, 1)) ∧ (decode cL_year 2 = .ok (.iload_n 1, 1)) ∧ (decode cL_year 3 = .ok (.invokevirtual 144, 3)) ∧ (decode cL_year 6 = .ok (.i2l, 1)) ∧ (decode cL_year 7 = .ok (.putfield 13, 3)) ∧ (decode cL_year 10 = .ok (.goto 6, 3)) ∧ (decode cL_year 13 = .ok (.astore_n 3, 1)) ∧ (decode cL_year 14 = .ok (.iconst 1, 1)) ∧ (decode cL_year 15 = .ok (.ireturn, 1)) ∧ (decode cL_year 16 = .ok (.iconst 0, 1)) ∧ (decode cL_year 17 = .ok (.ireturn, 1)) := by decide +kernel
theorem dL_year_0 : decode cL_year 0 = .ok (.aload_n 2, 1) := db5_66.1
theorem dL_year_1 : decode cL_year 1 = .ok (.aload_n 0, 1) := db5_66.2.1
theorem dL_year_2 : decode cL_year 2 = .ok (.iload_n 1, 1) := db5_66.2.2.1
theorem dL_year_3 : decode cL_year 3 = .ok (.invokevirtual 144, 3) := db5_66.2.2.2.1
theorem dL_year_6 : decode cL_year 6 = .ok (.i2l, 1) := db5_66.2.2.2.2.1
theorem dL_year_7 : decode cL_year 7 = .ok (.putfield 13, 3) := db5_66.2.2.2.2.2.1
theorem dL_year_10 : decode cL_year 10 = .ok (.goto 6, 3) := db5_66.2.2.2.2.2.2.1
theorem dL_year_13 : decode cL_year 13 = .ok (.astore_n 3, 1) := db5_66.2.2.2.2.2.2.2.1
theorem dL_year_14 : decode cL_year 14 = .ok (.iconst 1, 1) := db5_66.2.2.2.2.2.2.2.2.1
theorem dL_year_15 : decode cL_year 15 = .ok (.ireturn, 1) := db5_66.2.2.2.2.2.2.2.2.2.1
theorem dL_year_16 : decode cL_year 16 = .ok (.iconst 0, 1) := db5_66.2.2.2.2.2.2.2.2.2.2.1
theorem dL_year_17 : decode cL_year 17 = .ok (.ireturn, 1) := db5_66.2.2.2.2.2.2.2.2.2.2.2
theorem db5_67 : (decode cL_monthOfYear 0 = .ok (.aload_n 2, 1)) ∧ (decode cL_monthOfYear 1 = .ok (.aload_n 0, 1)) ∧ (decode cL_monthOfYear 2 = .ok (.iload_n 1, 1)) ∧ (decode cL_monthOfYear 3 = .ok (.invokevirtual 147, 3)) ∧ (decode cL_monthOfYear 6 = .ok (.i2l, 1)) ∧ (decode cL_monthOfYear 7 = .ok (.putfield 13, 3)) ∧ (decode cL_monthOfYear 10 = .ok (.goto 6, 3)) ∧ (decode cL_monthOfYear 13 = .ok (.astore_n 3, 1)) ∧ (decode cL_monthOfYear 14 = .ok (.iconst 1, 1)) ∧ (decode cL_monthOfYear 15 = .ok (.ireturn, 1)) ∧ (decode cL_monthOfYear 16 = .ok (.iconst 0, 1)) ∧ (decode cL_monthOfYear 17 = .ok (.ireturn, 1)) := by decide +kernel
theorem dL_monthOfYear_0 : decode cL_monthOfYear 0 = .ok (.aload_n 2, 1) := db5_67.1
theorem dL_monthOfYear_1 : decode cL_monthOfYear 1 = .ok (.aload_n 0, 1) := db5_67.2.1
theorem dL_monthOfYear_2 : decode cL_monthOfYear 2 = .ok (.iload_n 1, 1) := db5_67.2.2.1
theorem dL_monthOfYear_3 : decode cL_monthOfYear 3 = .ok (.invokevirtual 147, 3) := db5_67.2.2.2.1
theorem dL_monthOfYear_6 : decode cL_monthOfYear 6 = .ok (.i2l, 1) := db5_67.2.2.2.2.1
theorem dL_monthOfYear_7 : decode cL_monthOfYear 7 = .ok (.putfield 13, 3) := db5_67.2.2.2.2.2.1
theorem dL_monthOfYear_10 : decode cL_monthOfYear 10 = .ok (.goto 6, 3) := db5_67.2.2.2.2.2.2.1
theorem dL_monthOfYear_13 : decode cL_monthOfYear 13 = .ok (.astore_n 3, 1) := db5_67.2.2.2.2.2.2.2.1
theorem dL_monthOfYear_14 : decode cL_monthOfYear 14 = .ok (.iconst 1, 1) := db5_67.2.2.2.2.2.2.2.2.1
theorem dL_monthOfYear_15 : decode cL_monthOfYear 15 = .ok (.ireturn, 1) := db5_67.2.2.2.2.2.2.2.2.2.1
theorem dL_monthOfYear_16 : decode cL_monthOfYear 16 = .ok (.iconst 0, 1) := db5_67.2.2.2.2.2.2.2.2.2.2.1
theorem dL_monthOfYear_17 : decode cL_monthOfYear 17 = .ok (.ireturn, 1) := db5_67.2.2.2.2.2.2.2.2.2.2.2
theorem db5_68 : (decode cL_day 0 = .ok (.aload_n 2, 1)) ∧ (decode cL_day 1 = .ok (.aload_n 0, 1)) ∧ (decode cL_day 2 = .ok (.iload_n 1, 1)) ∧ (decode cL_day 3 = .ok (.invokevirtual 150, 3)) ∧ (decode cL_day 6 = .ok (.i2l, 1)) ∧ (decode cL_day 7 = .ok (.putfield 13, 3)) ∧ (decode cL_day 10 = .ok (.goto 6, 3)) ∧ (decode cL_day 13 = .ok (.astore_n 3, 1)) ∧ (decode cL_day 14 = .ok (.iconst 1, 1)) ∧ (decode cL_day 15 = .ok (.ireturn, 1)) ∧ (decode cL_day 16 = .ok (.iconst 0, 1)) ∧ (decode cL_day 17 = .ok (.ireturn, 1)) := by decide +kernel
theorem dL_day_0 : decode cL_day 0 = .ok (.aload_n 2, 1) := db5_68.1
theorem dL_day_1 : decode cL_day 1 = .ok (.aload_n 0, 1) := db5_68.2.1
theorem dL_day_2 : decode cL_day 2 = .ok (.iload_n 1, 1) := db5_68.2.2.1
theorem dL_day_3 : decode cL_day 3 = .ok (.invokevirtual 150, 3) := db5_68.2.2.2.1
theorem dL_day_6 : decode cL_day 6 = .ok (.i2l, 1) := db5_68.2.2.2.2.1
theorem dL_day_7 : decode cL_day 7 = .ok (.putfield 13, 3) := db5_68.2.2.2.2.2.1
theorem dL_day_10 : decode cL_day 10 = .ok (.goto 6, 3) := db5_68.2.2.2.2.2.2.1
theorem dL_day_13 : decode cL_day 13 = .ok (.astore_n 3, 1) := db5_68.2.2.2.2.2.2.2.1
theorem dL_day_14 : decode cL_day 14 = .ok (.iconst 1, 1) := db5_68.2.2.2.2.2.2.2.2.1
theorem dL_day_15 : decode cL_day 15 = .ok (.ireturn, 1) := db5_68.2.2.2.2.2.2.2.2.2.1
theorem dL_day_16 : decode cL_day 16 = .ok (.iconst 0, 1) := db5_68.2.2.2.2.2.2.2.2.2.2.1
theorem dL_day_17 : decode cL_day 17 = .ok (.ireturn, 1) := db5_68.2.2.2.2.2.2.2.2.2.2.2
theorem db5_69 : (decode cL_dayOfYear 0 = .ok (.aload_n 2, 1)) ∧ (decode cL_dayOfYear 1 = .ok (.aload_n 0, 1)) ∧ (decode cL_dayOfYear 2 = .ok (.iload_n 1, 1)) ∧ (decode cL_dayOfYear 3 = .ok (.invokevirtual 153, 3)) ∧ (decode cL_dayOfYear 6 = .ok (.i2l, 1)) ∧ (decode cL_dayOfYear 7 = .ok (.putfield 13, 3)) ∧ (decode cL_dayOfYear 10 = .ok (.goto 6, 3)) ∧ (decode cL_dayOfYear 13 = .ok (.astore_n 3, 1)) ∧ (decode cL_dayOfYear 14 = .ok (.iconst 1, 1)) ∧ (decode cL_dayOfYear 15 = .ok (.ireturn, 1)) ∧ (decode cL_dayOfYear 16 = .ok (.iconst 0, 1)) ∧ (decode cL_dayOfYear 17 = .ok (.ireturn, 1)) := by decide +kernel
theorem dL_dayOfYear_0 : decode cL_dayOfYear 0 = .ok (.aload_n 2, 1) := db5_69.1
theorem dL_dayOfYear_1 : decode cL_dayOfYear 1 = .ok (.aload_n 0, 1) := db5_69.2.1
theorem dL_dayOfYear_2 : decode cL_dayOfYear 2 = .ok (.iload_n 1, 1) := db5_69.2.2.1
theorem dL_dayOfYear_3 : decode cL_dayOfYear 3 = .ok (.invokevirtual 153, 3) := db5_69.2.2.2.1
theorem dL_dayOfYear_6 : decode cL_dayOfYear 6 = .ok (.i2l, 1) := db5_69.2.2.2.2.1
theorem dL_dayOfYear_7 : decode cL_dayOfYear 7 = .ok (.putfield 13, 3) := db5_69.2.2.2.2.2.1
theorem dL_dayOfYear_10 : decode cL_dayOfYear 10 = .ok (.goto 6, 3) := db5_69.2.2.2.2.2.2.1
theorem dL_dayOfYear_13 : decode cL_dayOfYear 13 = .ok (.astore_n 3, 1) := db5_69.2.2.2.2.2.2.2.1
theorem dL_dayOfYear_14 : decode cL_dayOfYear 14 = .ok (.iconst 1, 1) := db5_69.2.2.2.2.2.2.2.2.1
theorem dL_dayOfYear_15 : decode cL_dayOfYear 15 = .ok (.ireturn, 1) := db5_69.2.2.2.2.2.2.2.2.2.1
theorem dL_dayOfYear_16 : decode cL_dayOfYear 16 = .ok (.iconst 0, 1) := db5_69.2.2.2.2.2.2.2.2.2.2.1
theorem dL_dayOfYear_17 : decode cL_dayOfYear 17 = .ok (.ireturn, 1) := db5_69.2.2.2.2.2.2.2.2.2.2.2
theorem db5_70 : (decode cL_number 0 = .ok (.aload_n 2, 1)) ∧ (decode cL_number 1 = .ok (.aload_n 0, 1)) ∧ (decode cL_number 2 = .ok (.iload_n 1, 1)) ∧ (decode cL_number 3 = .ok (.invokevirtual 156, 3)) ∧ (decode cL_number 6 = .ok (.i2l, 1)) ∧ (decode cL_number 7 = .ok (.putfield 13, 3)) ∧ (decode cL_number 10 = .ok (.goto 6, 3)) ∧ (decode cL_number 13 = .ok (.astore_n 3, 1)) ∧ (decode cL_number 14 = .ok (.iconst 1, 1)) ∧ (decode cL_number 15 = .ok (.ireturn, 1)) ∧ (decode cL_number 16 = .ok (.iconst 0, 1)) ∧ (decode cL_number 17 = .ok (.ireturn, 1)) := by decide +kernel
theorem dL_number_0 : decode cL_number 0 = .ok (.aload_n 2, 1) := db5_70.1
theorem dL_number_1 : decode cL_number 1 = .ok (.aload_n 0, 1) := db5_70.2.1
theorem dL_number_2 : decode cL_number 2 = .ok (.iload_n 1, 1) := db5_70.2.2.1
theorem dL_number_3 : decode cL_number 3 = .ok (.invokevirtual 156, 3) := db5_70.2.2.2.1
theorem dL_number_6 : decode cL_number 6 = .ok (.i2l, 1) := db5_70.2.2.2.2.1
theorem dL_number_7 : decode cL_number 7 = .ok (.putfield 13, 3) := db5_70.2.2.2.2.2.1
theorem dL_number_10 : decode cL_number 10 = .ok (.goto 6, 3) := db5_70.2.2.2.2.2.2.1
theorem dL_number_13 : decode cL_number 13 = .ok (.astore_n 3, 1) := db5_70.2.2.2.2.2.2.2.1
theorem dL_number_14 : decode cL_number 14 = .ok (.iconst 1, 1) := db5_70.2.2.2.2.2.2.2.2.1
theorem dL_number_15 : decode cL_number 15 = .ok (.ireturn, 1) := db5_70.2.2.2.2.2.2.2.2.2.1
theorem dL_number_16 : decode cL_number 16 = .ok (.iconst 0, 1) := db5_70.2.2.2.2.2.2.2.2.2.2.1
theorem dL_number_17 : decode cL_number 17 = .ok (.ireturn, 1) := db5_70.2.2.2.2.2.2.2.2.2.2.2
theorem db5_71 : (decode cL_lengthOfMonth 0 = .ok (.aload_n 2, 1)) ∧ (decode cL_lengthOfMonth 1 = .ok (.aload_n 0, 1)) ∧ (decode cL_lengthOfMonth 2 = .ok (.iload_n 1, 1)) ∧ (decode cL_lengthOfMonth 3 = .ok (.invokevirtual 159, 3)) ∧ (decode cL_lengthOfMonth 6 = .ok (.i2l, 1)) ∧ (decode cL_lengthOfMonth 7 = .ok (.putfield 13, 3)) ∧ (decode cL_lengthOfMonth 10 = .ok (.goto 6, 3)) ∧ (decode cL_lengthOfMonth 13 = .ok (.astore_n 3, 1)) ∧ (decode cL_lengthOfMonth 14 = .ok (.iconst 1, 1)) ∧ (decode cL_lengthOfMonth 15 = .ok (.ireturn, 1)) ∧ (decode cL_lengthOfMonth 16 = .ok (.iconst 0, 1)) ∧ (decode cL_lengthOfMonth 17 = .ok (.ireturn, 1)) := by decide +kernel
theorem dL_lengthOfMonth_0 : decode cL_lengthOfMonth 0 = .ok (.aload_n 2, 1) := db5_71.1
theorem dL_lengthOfMonth_1 : decode cL_lengthOfMonth 1 = .ok (.aload_n 0, 1) := db5_71.2.1
theorem dL_lengthOfMonth_2 : decode cL_lengthOfMonth 2 = .ok (.iload_n 1, 1) := db5_71.2.2.1
theorem dL_lengthOfMonth_3 : decode cL_lengthOfMonth 3 = .ok (.invokevirtual 159, 3) := db5_71.2.2.2.1
theorem dL_lengthOfMonth_6 : decode cL_lengthOfMonth 6 = .ok (.i2l, 1) := db5_71.2.2.2.2.1
theorem dL_lengthOfMonth_7 : decode cL_lengthOfMonth 7 = .ok (.putfield 13, 3) := db5_71.2.2.2.2.2.1
theorem dL_lengthOfMonth_10 : decode cL_lengthOfMonth 10 = .ok (.goto 6, 3) := db5_71.2.2.2.2.2.2.1
theorem dL_lengthOfMonth_13 : decode cL_lengthOfMonth 13 = .ok (.astore_n 3, 1) := db5_71.2.2.2.2.2.2.2.1
theorem dL_lengthOfMonth_14 : decode cL_lengthOfMonth 14 = .ok (.iconst 1, 1) := db5_71.2.2.2.2.2.2.2.2.1
theorem dL_lengthOfMonth_15 : decode cL_lengthOfMonth 15 = .ok (.ireturn, 1) := db5_71.2.2.2.2.2.2.2.2.2.1
theorem dL_lengthOfMonth_16 : decode cL_lengthOfMonth 16 = .ok (.iconst 0, 1) := db5_71.2.2.2.2.2.2.2.2.2.2.1
theorem dL_lengthOfMonth_17 : decode cL_lengthOfMonth 17 = .ok (.ireturn, 1) := db5_71.2.2.2.2.2.2.2.2.2.2.2
theorem db5_72 : (decode cL_isLeapYear 0 = .ok (.aload_n 2, 1)) ∧ (decode cL_isLeapYear 1 = .ok (.aload_n 0, 1)) ∧ (decode cL_isLeapYear 2 = .ok (.iload_n 1, 1)) ∧ (decode cL_isLeapYear 3 = .ok (.invokevirtual 162, 3)) ∧ (decode cL_isLeapYear 6 = .ok (.ifCond .eq 7, 3)) ∧ (decode cL_isLeapYear 9 = .ok (.lconst 1, 1)) ∧ (decode cL_isLeapYear 10 = .ok (.goto 4, 3)) ∧ (decode cL_isLeapYear 13 = .ok (.lconst 0, 1)) ∧ (decode cL_isLeapYear 14 = .ok (.putfield 13, 3)) ∧ (decode cL_isLeapYear 17 = .ok (.goto 6, 3)) ∧ (decode cL_isLeapYear 20 = .ok (.astore_n 3, 1)) ∧ (decode cL_isLeapYear 21 = .ok (.iconst 1, 1)) ∧ (decode cL_isLeapYear 22 = .ok (.ireturn, 1)) ∧ (decode cL_isLeapYear 23 = .ok (.iconst 0, 1)) ∧ (decode cL_isLeapYear 24 = .ok (.ireturn, 1)) := by decide +kernel
theorem dL_isLeapYear_0 : decode cL_isLeapYear 0 = .ok (.aload_n 2, 1) := db5_72.1
theorem dL_isLeapYear_1 : decode cL_isLeapYear 1 = .ok (.aload_n 0, 1) := db5_72.2.1
theorem dL_isLeapYear_2 : decode cL_isLeapYear 2 = .ok (.iload_n 1, 1) := db5_72.2.2.1
theorem dL_isLeapYear_3 : decode cL_isLeapYear 3 = .ok (.invokevirtual 162, 3) := db5_72.2.2.2.1
theorem dL_isLeapYear_6 : decode cL_isLeapYear 6 = .ok (.ifCond .eq 7, 3) := db5_72.2.2.2.2.1
theorem dL_isLeapYear_9 : decode cL_isLeapYear 9 = .ok (.lconst 1, 1) := db5_72.2.2.2.2.2.1
theorem dL_isLeapYear_10 : decode cL_isLeapYear 10 = .ok (.goto 4, 3) := db5_72.2.2.2.2.2.2.1
theorem dL_isLeapYear_13 : decode cL_isLeapYear 13 = .ok (.lconst 0, 1) := db5_72.2.2.2.2.2.2.2.1
theorem dL_isLeapYear_14 : decode cL_isLeapYear 14 = .ok (.putfield 13, 3) := db5_72.2.2.2.2.2.2.2.2.1
theorem dL_isLeapYear_17 : decode cL_isLeapYear 17 = .ok (.goto 6, 3) := db5_72.2.2.2.2.2.2.2.2.2.1
theorem dL_isLeapYear_20 : decode cL_isLeapYear 20 = .ok (.astore_n 3, 1) := db5_72.2.2.2.2.2.2.2.2.2.2.1
theorem dL_isLeapYear_21 : decode cL_isLeapYear 21 = .ok (.iconst 1, 1) := db5_72.2.2.2.2.2.2.2.2.2.2.2.1
theorem dL_isLeapYear_22 : decode cL_isLeapYear 22 = .ok (.ireturn, 1) := db5_72.2.2.2.2.2.2.2.2.2.2.2.2.1
theorem dL_isLeapYear_23 : decode cL_isLeapYear 23 = .ok (.iconst 0, 1) := db5_72.2.2.2.2.2.2.2.2.2.2.2.2.2.1
theorem dL_isLeapYear_24 : decode cL_isLeapYear 24 = .ok (.ireturn, 1) := db5_72.2.2.2.2.2.2.2.2.2.2.2.2.2.2
theorem db5_73 : (decode cL_text 0 = .ok (.aload_n 2, 1)) ∧ (decode cL_text 1 = .ok (.aload_n 0, 1)) ∧ (decode cL_text 2 = .ok (.iload_n 1, 1)) ∧ (decode cL_text 3 = .ok (.invokevirtual 166, 3)) ∧ (decode cL_text 6 = .ok (.putfield 103, 3)) ∧ (decode cL_text 9 = .ok (.goto 6, 3)) ∧ (decode cL_text 12 = .ok (.astore_n 3, 1)) ∧ (decode cL_text 13 = .ok (.iconst 1, 1)) ∧ (decode cL_text 14 = .ok (.ireturn, 1)) ∧ (decode cL_text 15 = .ok (.iconst 0, 1)) ∧ (decode cL_text 16 = .ok (.ireturn, 1)) := by decide +kernel
theorem dL_text_0 : decode cL_text 0 = .ok (.aload_n 2, 1) := db5_73.1
theorem dL_text_1 : decode cL_text 1 = .ok (.aload_n 0, 1) := db5_73.2.1
theorem dL_text_2 : decode cL_text 2 = .ok (.iload_n 1, 1) := db5_73.2.2.1
theorem dL_text_3 : decode cL_text 3 = .ok (.invokevirtual 166, 3) := db5_73.2.2.2.1
theorem dL_text_6 : decode cL_text 6 = .ok (.putfield 103, 3) := db5_73.2.2.2.2.1
theorem dL_text_9 : decode cL_text 9 = .ok (.goto 6, 3) := db5_73.2.2.2.2.2.1
theorem dL_text_12 : decode cL_text 12 = .ok (.astore_n 3, 1) := db5_73.2.2.2.2.2.2.1
theorem dL_text_13 : decode cL_text 13 = .ok (.iconst 1, 1) := db5_73.2.2.2.2.2.2.2.1
theorem dL_text_14 : decode cL_text 14 = .ok (.ireturn, 1) := db5_73.2.2.2.2.2.2.2.2.1
theorem dL_text_15 : decode cL_text 15 = .ok (.iconst 0, 1) := db5_73.2.2.2.2.2.2.2.2.2.1
theorem dL_text_16 : decode cL_text 16 = .ok (.ireturn, 1) := db5_73.2.2.2.2.2.2.2.2.2.2
theorem db5_74 : (decode cL_compare 0 = .ok (.aload_n 3, 1)) ∧ (decode cL_compare 1 = .ok (.aload_n 0, 1)) ∧ (decode cL_compare 2 = .ok (.iload_n 1, 1)) ∧ (decode cL_compare 3 = .ok (.iload_n 2, 1)) ∧ (decode cL_compare 4 = .ok (.invokevirtual 170, 3)) ∧ (decode cL_compare 7 = .ok (.i2l, 1)) ∧ (decode cL_compare 8 = .ok (.putfield 13, 3)) ∧ (decode cL_compare 11 = .ok (.goto 7, 3)) ∧ (decode cL_compare 14 = .ok (.astore 4, 2)) ∧ (decode cL_compare 16 = .ok (.iconst 1, 1)) ∧ (decode cL_compare 17 = .ok (.ireturn, 1)) ∧ (decode cL_compare 18 = .ok (.iconst 0, 1)) ∧ (decode cL_compare 19 = .ok (.ireturn, 1)) := by decide +kernel
theorem dL_compare_0 : decode cL_compare 0 = .ok (.aload_n 3, 1) := db5_74.1
theorem dL_compare_1 : decode cL_compare 1 = .ok (.aload_n 0, 1) := db5_74.2.1
theorem dL_compare_2 : decode cL_compare 2 = .ok (.iload_n 1, 1) := db5_74.2.2.1
theorem dL_compare_3 : decode cL_compare 3 = .ok (.iload_n 2, 1) := db5_74.2.2.2.1
theorem dL_compare_4 : decode cL_compare 4 = .ok (.invokevirtual 170, 3) := db5_74.2.2.2.2.1
theorem dL_compare_7 : decode cL_compare 7 = .ok (.i2l, 1) := db5_74.2.2.2.2.2.1
theorem dL_compare_8 : decode cL_compare 8 = .ok (.putfield 13, 3) := db5_74.2.2.2.2.2.2.1
theorem dL_compare_11 : decode cL_compare 11 = .ok (.goto 7, 3) := db5_74.2.2.2.2.2.2.2.1
theorem dL_compare_14 : decode cL_compare 14 = .ok (.astore 4, 2) := db5_74.2.2.2.2.2.2.2.2.1
theorem dL_compare_16 : decode cL_compare 16 = .ok (.iconst 1, 1) := db5_74.2.2.2.2.2.2.2.2.2.1
theorem dL_compare_17 : decode cL_compare 17 = .ok (.ireturn, 1) := db5_74.2.2.2.2.2.2.2.2.2.2.1
theorem dL_compare_18 : decode cL_compare 18 = .ok (.iconst 0, 1) := db5_74.2.2.2.2.2.2.2.2.2.2.2.1
theorem dL_compare_19 : decode cL_compare 19 = .ok (.ireturn, 1) := db5_74.2.2.2.2.2.2.2.2.2.2.2.2
theorem db5_75 : (decode cL_between 0 = .ok (.aload_n 3, 1)) ∧ (decode cL_between 1 = .ok (.aload_n 0, 1)) ∧ (decode cL_between 2 = .ok (.iload_n 1, 1)) ∧ (decode cL_between 3 = .ok (.iload_n 2, 1)) ∧ (decode cL_between 4 = .ok (.invokevirtual 173, 3)) ∧ (decode cL_between 7 = .ok (.i2l, 1)) ∧ (decode cL_between 8 = .ok (.putfield 13, 3)) ∧ (decode cL_between 11 = .ok (.goto 7, 3)) ∧ (decode cL_between 14 = .ok (.astore 4, 2)) ∧ (decode cL_between 16 = .ok (.iconst 1, 1)) ∧ (decode cL_between 17 = .ok (.ireturn, 1)) ∧ (decode cL_between 18 = .ok (.iconst 0, 1)) ∧ (decode cL_between 19 = .ok (.ireturn, 1)) := by decide +kernel
theorem dL_between_0 : decode cL_between 0 = .ok (.aload_n 3, 1) := db5_75.1
theorem dL_between_1 : decode cL_between 1 = .ok (.aload_n 0, 1) := db5_75.2.1
theorem dL_between_2 : decode cL_between 2 = .ok (.iload_n 1, 1) := db5_75.2.2.1
theorem dL_between_3 : decode cL_between 3 = .ok (.iload_n 2, 1) := db5_75.2.2.2.1
theorem dL_between_4 : decode cL_between 4 = .ok (.invokevirtual 173, 3) := db5_75.2.2.2.2.1
theorem dL_between_7 : decode cL_between 7 = .ok (.i2l, 1) := db5_75.2.2.2.2.2.1
theorem dL_between_8 : decode cL_between 8 = .ok (.putfield 13, 3) := db5_75.2.2.2.2.2.2.1
theorem dL_between_11 : decode cL_between 11 = .ok (.goto 7, 3) := db5_75.2.2.2.2.2.2.2.1
theorem dL_between_14 : decode cL_between 14 = .ok (.astore 4, 2) := db5_75.2.2.2.2.2.2.2.2.1
theorem dL_between_16 : decode cL_between 16 = .ok (.iconst 1, 1) := db5_75.2.2.2.2.2.2.2.2.2.1
theorem dL_between_17 : decode cL_between 17 = .ok (.ireturn, 1) := db5_75.2.2.2.2.2.2.2.2.2.2.1
theorem dL_between_18 : decode cL_between 18 = .ok (.iconst 0, 1) := db5_75.2.2.2.2.2.2.2.2.2.2.2.1
theorem dL_between_19 : decode cL_between 19 = .ok (.ireturn, 1) := db5_75.2.2.2.2.2.2.2.2.2.2.2.2
theorem db5_76 : (decode cL_house 0 = .ok (.aload_n 2, 1)) ∧ (decode cL_house 1 = .ok (.aload_n 0, 1)) ∧ (decode cL_house 2 = .ok (.iload_n 1, 1)) ∧ (decode cL_house 3 = .ok (.invokevirtual 176, 3)) ∧ (decode cL_house 6 = .ok (.i2l, 1)) ∧ (decode cL_house 7 = .ok (.putfield 13, 3)) ∧ (decode cL_house 10 = .ok (.goto 6, 3)) ∧ (decode cL_house 13 = .ok (.astore_n 3, 1)) ∧ (decode cL_house 14 = .ok (.iconst 1, 1)) ∧ (decode cL_house 15 = .ok (.ireturn, 1)) ∧ (decode cL_house 16 = .ok (.iconst 0, 1)) ∧ (decode cL_house 17 = .ok (.ireturn, 1)) := by decide +kernel
theorem dL_house_0 : decode cL_house 0 = .ok (.aload_n 2, 1) := db5_76.1
theorem dL_house_1 : decode cL_house 1 = .ok (.aload_n 0, 1) := db5_76.2.1
theorem dL_house_2 : decode cL_house 2 = .ok (.iload_n 1, 1) := db5_76.2.2.1
theorem dL_house_3 : decode cL_house 3 = .ok (.invokevirtual 176, 3) := db5_76.2.2.2.1
theorem dL_house_6 : decode cL_house 6 = .ok (.i2l, 1) := db5_76.2.2.2.2.1
theorem dL_house_7 : decode cL_house 7 = .ok (.putfield 13, 3) := db5_76.2.2.2.2.2.1
theorem dL_house_10 : decode cL_house 10 = .ok (.goto 6, 3) := db5_76.2.2.2.2.2.2.1
theorem dL_house_13 : decode cL_house 13 = .ok (.astore_n 3, 1) := db5_76.2.2.2.2.2.2.2.1
theorem dL_house_14 : decode cL_house 14 = .ok (.iconst 1, 1) := db5_76.2.2.2.2.2.2.2.2.1
theorem dL_house_15 : decode cL_house 15 = .ok (.ireturn, 1) := db5_76.2.2.2.2.2.2.2.2.2.1
theorem dL_house_16 : decode cL_house 16 = .ok (.iconst 0, 1) := db5_76.2.2.2.2.2.2.2.2.2.2.1
theorem dL_house_17 : decode cL_house 17 = .ok (.ireturn, 1) := db5_76.2.2.2.2.2.2.2.2.2.2.2
theorem db5_77 : (decode cL_law 0 = .ok (.new 8, 3)) ∧ (decode cL_law 3 = .ok (.dup, 1)) ∧ (decode cL_law 4 = .ok (.invokespecial 179, 3)) ∧ (decode cL_law 7 = .ok (.astore_n 1, 1)) ∧ (decode cL_law 8 = .ok (.new 180, 3)) ∧ (decode cL_law 11 = .ok (.dup, 1)) ∧ (decode cL_law 12 = .ok (.invokespecial 182, 3)) ∧ (decode cL_law 15 = .ok (.astore_n 2, 1)) ∧ (decode cL_law 16 = .ok (.new 14, 3)) ∧ (decode cL_law 19 = .ok (.dup, 1)) ∧ (decode cL_law 20 = .ok (.invokespecial 183, 3)) ∧ (decode cL_law 23 = .ok (.astore_n 3, 1)) ∧ (decode cL_law 24 = .ok (.iconst 0, 1)) ∧ (decode cL_law 25 = .ok (.istore 4, 2)) ∧ (decode cL_law 27 = .ok (.iload 4, 2)) ∧ (decode cL_law 29 = .ok (.aload_n 0, 1)) := by decide +kernel
theorem dL_law_0 : decode cL_law 0 = .ok (.new 8, 3) := db5_77.1
theorem dL_law_3 : decode cL_law 3 = .ok (.dup, 1) := db5_77.2.1
theorem dL_law_4 : decode cL_law 4 = .ok (.invokespecial 179, 3) := db5_77.2.2.1
theorem dL_law_7 : decode cL_law 7 = .ok (.astore_n 1, 1) := db5_77.2.2.2.1
theorem dL_law_8 : decode cL_law 8 = .ok (.new 180, 3) := db5_77.2.2.2.2.1
theorem dL_law_11 : decode cL_law 11 = .ok (.dup, 1) := db5_77.2.2.2.2.2.1
theorem dL_law_12 : decode cL_law 12 = .ok (.invokespecial 182, 3) := db5_77.2.2.2.2.2.2.1
theorem dL_law_15 : decode cL_law 15 = .ok (.astore_n 2, 1) := db5_77.2.2.2.2.2.2.2.1
theorem dL_law_16 : decode cL_law 16 = .ok (.new 14, 3) := db5_77.2.2.2.2.2.2.2.2.1
theorem dL_law_19 : decode cL_law 19 = .ok (.dup, 1) := db5_77.2.2.2.2.2.2.2.2.2.1
theorem dL_law_20 : decode cL_law 20 = .ok (.invokespecial 183, 3) := db5_77.2.2.2.2.2.2.2.2.2.2.1
theorem dL_law_23 : decode cL_law 23 = .ok (.astore_n 3, 1) := db5_77.2.2.2.2.2.2.2.2.2.2.2.1
theorem dL_law_24 : decode cL_law 24 = .ok (.iconst 0, 1) := db5_77.2.2.2.2.2.2.2.2.2.2.2.2.1
theorem dL_law_25 : decode cL_law 25 = .ok (.istore 4, 2) := db5_77.2.2.2.2.2.2.2.2.2.2.2.2.2.1
theorem dL_law_27 : decode cL_law 27 = .ok (.iload 4, 2) := db5_77.2.2.2.2.2.2.2.2.2.2.2.2.2.2.1
theorem dL_law_29 : decode cL_law 29 = .ok (.aload_n 0, 1) := db5_77.2.2.2.2.2.2.2.2.2.2.2.2.2.2.2
theorem db5_78 : (decode cL_law 30 = .ok (.arraylength, 1)) ∧ (decode cL_law 31 = .ok (.iconst 5, 1)) ∧ (decode cL_law 32 = .ok (.isub, 1)) ∧ (decode cL_law 33 = .ok (.if_icmp .gt 2333, 3)) ∧ (decode cL_law 36 = .ok (.aload_n 0, 1)) ∧ (decode cL_law 37 = .ok (.iload 4, 2)) ∧ (decode cL_law 39 = .ok (.iaload, 1)) ∧ (decode cL_law 40 = .ok (.bipush 63, 2)) ∧ (decode cL_law 42 = .ok (.iand, 1)) ∧ (decode cL_law 43 = .ok (.tableswitch 2317 0 50 #[217, 310, 350, 402, 442, 470, 498, 538, 578, 618, 658, 698, 794, 846, 910, 962, 1002, 1030, 1070, 1110, 1150, 1190, 1242, 1294, 1346, 1398, 1438, 1466, 1506, 1546, 1574, 1626, 1678, 1730, 1770, 1838, 1906, 1946, 1974, 2002, 2030, 2058, 2086, 2114, 2142, 2170, 2210, 2250, 2278, 2291, 2304], 217)) ∧ (decode cL_law 260 = .ok (.aload_n 1, 1)) ∧ (decode cL_law 261 = .ok (.aload_n 0, 1)) ∧ (decode cL_law 262 = .ok (.iload 4, 2)) ∧ (decode cL_law 264 = .ok (.iconst 1, 1)) ∧ (decode cL_law 265 = .ok (.iadd, 1)) ∧ (decode cL_law 266 = .ok (.iaload, 1)) := by decide +kernel
theorem dL_law_30 : decode cL_law 30 = .ok (.arraylength, 1) := db5_78.1
theorem dL_law_31 : decode cL_law 31 = .ok (.iconst 5, 1) := db5_78.2.1
theorem dL_law_32 : decode cL_law 32 = .ok (.isub, 1) := db5_78.2.2.1
theorem dL_law_33 : decode cL_law 33 = .ok (.if_icmp .gt 2333, 3) := db5_78.2.2.2.1
theorem dL_law_36 : decode cL_law 36 = .ok (.aload_n 0, 1) := db5_78.2.2.2.2.1
theorem dL_law_37 : decode cL_law 37 = .ok (.iload 4, 2) := db5_78.2.2.2.2.2.1
theorem dL_law_39 : decode cL_law 39 = .ok (.iaload, 1) := db5_78.2.2.2.2.2.2.1
theorem dL_law_40 : decode cL_law 40 = .ok (.bipush 63, 2) := db5_78.2.2.2.2.2.2.2.1
theorem dL_law_42 : decode cL_law 42 = .ok (.iand, 1) := db5_78.2.2.2.2.2.2.2.2.1
theorem dL_law_43 : decode cL_law 43 = .ok (.tableswitch 2317 0 50 #[217, 310, 350, 402, 442, 470, 498, 538, 578, 618, 658, 698, 794, 846, 910, 962, 1002, 1030, 1070, 1110, 1150, 1190, 1242, 1294, 1346, 1398, 1438, 1466, 1506, 1546, 1574, 1626, 1678, 1730, 1770, 1838, 1906, 1946, 1974, 2002, 2030, 2058, 2086, 2114, 2142, 2170, 2210, 2250, 2278, 2291, 2304], 217) := db5_78.2.2.2.2.2.2.2.2.2.1
theorem dL_law_260 : decode cL_law 260 = .ok (.aload_n 1, 1) := db5_78.2.2.2.2.2.2.2.2.2.2.1
theorem dL_law_261 : decode cL_law 261 = .ok (.aload_n 0, 1) := db5_78.2.2.2.2.2.2.2.2.2.2.2.1
theorem dL_law_262 : decode cL_law 262 = .ok (.iload 4, 2) := db5_78.2.2.2.2.2.2.2.2.2.2.2.2.1
theorem dL_law_264 : decode cL_law 264 = .ok (.iconst 1, 1) := db5_78.2.2.2.2.2.2.2.2.2.2.2.2.2.1
theorem dL_law_265 : decode cL_law 265 = .ok (.iadd, 1) := db5_78.2.2.2.2.2.2.2.2.2.2.2.2.2.2.1
theorem dL_law_266 : decode cL_law 266 = .ok (.iaload, 1) := db5_78.2.2.2.2.2.2.2.2.2.2.2.2.2.2.2
theorem db5_79 : (decode cL_law 267 = .ok (.aload_n 0, 1)) ∧ (decode cL_law 268 = .ok (.iload 4, 2)) ∧ (decode cL_law 270 = .ok (.iconst 2, 1)) ∧ (decode cL_law 271 = .ok (.iadd, 1)) ∧ (decode cL_law 272 = .ok (.iaload, 1)) ∧ (decode cL_law 273 = .ok (.aload_n 0, 1)) ∧ (decode cL_law 274 = .ok (.iload 4, 2)) ∧ (decode cL_law 276 = .ok (.iconst 3, 1)) ∧ (decode cL_law 277 = .ok (.iadd, 1)) ∧ (decode cL_law 278 = .ok (.iaload, 1)) ∧ (decode cL_law 279 = .ok (.aload_n 0, 1)) ∧ (decode cL_law 280 = .ok (.iload 4, 2)) ∧ (decode cL_law 282 = .ok (.iconst 4, 1)) ∧ (decode cL_law 283 = .ok (.iadd, 1)) ∧ (decode cL_law 284 = .ok (.iaload, 1)) ∧ (decode cL_law 285 = .ok (.aload_n 3, 1)) := by decide +kernel
theorem dL_law_267 : decode cL_law 267 = .ok (.aload_n 0, 1) := db5_79.1
theorem dL_law_268 : decode cL_law 268 = .ok (.iload 4, 2) := db5_79.2.1
theorem dL_law_270 : decode cL_law 270 = .ok (.iconst 2, 1) := db5_79.2.2.1
theorem dL_law_271 : decode cL_law 271 = .ok (.iadd, 1) := db5_79.2.2.2.1
theorem dL_law_272 : decode cL_law 272 = .ok (.iaload, 1) := db5_79.2.2.2.2.1
theorem dL_law_273 : decode cL_law 273 = .ok (.aload_n 0, 1) := db5_79.2.2.2.2.2.1
theorem dL_law_274 : decode cL_law 274 = .ok (.iload 4, 2) := db5_79.2.2.2.2.2.2.1
theorem dL_law_276 : decode cL_law 276 = .ok (.iconst 3, 1) := db5_79.2.2.2.2.2.2.2.1
theorem dL_law_277 : decode cL_law 277 = .ok (.iadd, 1) := db5_79.2.2.2.2.2.2.2.2.1
theorem dL_law_278 : decode cL_law 278 = .ok (.iaload, 1) := db5_79.2.2.2.2.2.2.2.2.2.1
theorem dL_law_279 : decode cL_law 279 = .ok (.aload_n 0, 1) := db5_79.2.2.2.2.2.2.2.2.2.2.1
theorem dL_law_280 : decode cL_law 280 = .ok (.iload 4, 2) := db5_79.2.2.2.2.2.2.2.2.2.2.2.1
theorem dL_law_282 : decode cL_law 282 = .ok (.iconst 4, 1) := db5_79.2.2.2.2.2.2.2.2.2.2.2.2.1
theorem dL_law_283 : decode cL_law 283 = .ok (.iadd, 1) := db5_79.2.2.2.2.2.2.2.2.2.2.2.2.2.1
theorem dL_law_284 : decode cL_law 284 = .ok (.iaload, 1) := db5_79.2.2.2.2.2.2.2.2.2.2.2.2.2.2.1
theorem dL_law_285 : decode cL_law 285 = .ok (.aload_n 3, 1) := db5_79.2.2.2.2.2.2.2.2.2.2.2.2.2.2.2
theorem db5_80 : (decode cL_law 286 = .ok (.invokestatic 184, 3)) ∧ (decode cL_law 289 = .ok (.istore 5, 2)) ∧ (decode cL_law 291 = .ok (.aload_n 2, 1)) ∧ (decode cL_law 292 = .ok (.aload_n 0, 1)) ∧ (decode cL_law 293 = .ok (.iload 4, 2)) ∧ (decode cL_law 295 = .ok (.iconst 1, 1)) ∧ (decode cL_law 296 = .ok (.iadd, 1)) ∧ (decode cL_law 297 = .ok (.iaload, 1)) ∧ (decode cL_law 298 = .ok (.aload_n 0, 1)) ∧ (decode cL_law 299 = .ok (.iload 4, 2)) ∧ (decode cL_law 301 = .ok (.iconst 2, 1)) ∧ (decode cL_law 302 = .ok (.iadd, 1)) ∧ (decode cL_law 303 = .ok (.iaload, 1)) ∧ (decode cL_law 304 = .ok (.aload_n 0, 1)) ∧ (decode cL_law 305 = .ok (.iload 4, 2)) ∧ (decode cL_law 307 = .ok (.iconst 3, 1)) := by decide +kernel
theorem dL_law_286 : decode cL_law 286 = .ok (.invokestatic 184, 3) := db5_80.1
theorem dL_law_289 : decode cL_law 289 = .ok (.istore 5, 2) := db5_80.2.1
theorem dL_law_291 : decode cL_law 291 = .ok (.aload_n 2, 1) := db5_80.2.2.1
theorem dL_law_292 : decode cL_law 292 = .ok (.aload_n 0, 1) := db5_80.2.2.2.1
theorem dL_law_293 : decode cL_law 293 = .ok (.iload 4, 2) := db5_80.2.2.2.2.1
theorem dL_law_295 : decode cL_law 295 = .ok (.iconst 1, 1) := db5_80.2.2.2.2.2.1
theorem dL_law_296 : decode cL_law 296 = .ok (.iadd, 1) := db5_80.2.2.2.2.2.2.1
theorem dL_law_297 : decode cL_law 297 = .ok (.iaload, 1) := db5_80.2.2.2.2.2.2.2.1
theorem dL_law_298 : decode cL_law 298 = .ok (.aload_n 0, 1) := db5_80.2.2.2.2.2.2.2.2.1
theorem dL_law_299 : decode cL_law 299 = .ok (.iload 4, 2) := db5_80.2.2.2.2.2.2.2.2.2.1
theorem dL_law_301 : decode cL_law 301 = .ok (.iconst 2, 1) := db5_80.2.2.2.2.2.2.2.2.2.2.1
theorem dL_law_302 : decode cL_law 302 = .ok (.iadd, 1) := db5_80.2.2.2.2.2.2.2.2.2.2.2.1
theorem dL_law_303 : decode cL_law 303 = .ok (.iaload, 1) := db5_80.2.2.2.2.2.2.2.2.2.2.2.2.1
theorem dL_law_304 : decode cL_law 304 = .ok (.aload_n 0, 1) := db5_80.2.2.2.2.2.2.2.2.2.2.2.2.2.1
theorem dL_law_305 : decode cL_law 305 = .ok (.iload 4, 2) := db5_80.2.2.2.2.2.2.2.2.2.2.2.2.2.2.1
theorem dL_law_307 : decode cL_law 307 = .ok (.iconst 3, 1) := db5_80.2.2.2.2.2.2.2.2.2.2.2.2.2.2.2
theorem db5_81 : (decode cL_law 308 = .ok (.iadd, 1)) ∧ (decode cL_law 309 = .ok (.iaload, 1)) ∧ (decode cL_law 310 = .ok (.aload_n 0, 1)) ∧ (decode cL_law 311 = .ok (.iload 4, 2)) ∧ (decode cL_law 313 = .ok (.iconst 4, 1)) ∧ (decode cL_law 314 = .ok (.iadd, 1)) ∧ (decode cL_law 315 = .ok (.iaload, 1)) ∧ (decode cL_law 316 = .ok (.invokevirtual 189, 3)) ∧ (decode cL_law 319 = .ok (.istore 6, 2)) ∧ (decode cL_law 321 = .ok (.aload_n 2, 1)) ∧ (decode cL_law 322 = .ok (.invokevirtual 190, 3)) ∧ (decode cL_law 325 = .ok (.iload 5, 2)) ∧ (decode cL_law 327 = .ok (.if_icmp .eq 5, 3)) ∧ (decode cL_law 330 = .ok (.iconst 0, 1)) ∧ (decode cL_law 331 = .ok (.ireturn, 1)) ∧ (decode cL_law 332 = .ok (.iload 5, 2)) := by decide +kernel
theorem dL_law_308 : decode cL_law 308 = .ok (.iadd, 1) := db5_81.1
theorem dL_law_309 : decode cL_law 309 = .ok (.iaload, 1) := db5_81.2.1
theorem dL_law_310 : decode cL_law 310 = .ok (.aload_n 0, 1) := db5_81.2.2.1
theorem dL_law_311 : decode cL_law 311 = .ok (.iload 4, 2) := db5_81.2.2.2.1
theorem dL_law_313 : decode cL_law 313 = .ok (.iconst 4, 1) := db5_81.2.2.2.2.1
theorem dL_law_314 : decode cL_law 314 = .ok (.iadd, 1) := db5_81.2.2.2.2.2.1
theorem dL_law_315 : decode cL_law 315 = .ok (.iaload, 1) := db5_81.2.2.2.2.2.2.1
theorem dL_law_316 : decode cL_law 316 = .ok (.invokevirtual 189, 3) := db5_81.2.2.2.2.2.2.2.1
theorem dL_law_319 : decode cL_law 319 = .ok (.istore 6, 2) := db5_81.2.2.2.2.2.2.2.2.1
theorem dL_law_321 : decode cL_law 321 = .ok (.aload_n 2, 1) := db5_81.2.2.2.2.2.2.2.2.2.1
theorem dL_law_322 : decode cL_law 322 = .ok (.invokevirtual 190, 3) := db5_81.2.2.2.2.2.2.2.2.2.2.1
theorem dL_law_325 : decode cL_law 325 = .ok (.iload 5, 2) := db5_81.2.2.2.2.2.2.2.2.2.2.2.1
theorem dL_law_327 : decode cL_law 327 = .ok (.if_icmp .eq 5, 3) := db5_81.2.2.2.2.2.2.2.2.2.2.2.2.1
theorem dL_law_330 : decode cL_law 330 = .ok (.iconst 0, 1) := db5_81.2.2.2.2.2.2.2.2.2.2.2.2.2.1
theorem dL_law_331 : decode cL_law 331 = .ok (.ireturn, 1) := db5_81.2.2.2.2.2.2.2.2.2.2.2.2.2.2.1
theorem dL_law_332 : decode cL_law 332 = .ok (.iload 5, 2) := db5_81.2.2.2.2.2.2.2.2.2.2.2.2.2.2.2
theorem db5_82 : (decode cL_law 334 = .ok (.ifCond .ne 16, 3)) ∧ (decode cL_law 337 = .ok (.aload_n 3, 1)) ∧ (decode cL_law 338 = .ok (.getfield 13, 3)) ∧ (decode cL_law 341 = .ok (.iload 6, 2)) ∧ (decode cL_law 343 = .ok (.i2l, 1)) ∧ (decode cL_law 344 = .ok (.lcmp, 1)) ∧ (decode cL_law 345 = .ok (.ifCond .eq 5, 3)) ∧ (decode cL_law 348 = .ok (.iconst 0, 1)) ∧ (decode cL_law 349 = .ok (.ireturn, 1)) ∧ (decode cL_law 350 = .ok (.goto 2010, 3)) ∧ (decode cL_law 353 = .ok (.aload_n 1, 1)) ∧ (decode cL_law 354 = .ok (.aload_n 0, 1)) ∧ (decode cL_law 355 = .ok (.iload 4, 2)) ∧ (decode cL_law 357 = .ok (.iconst 1, 1)) ∧ (decode cL_law 358 = .ok (.iadd, 1)) ∧ (decode cL_law 359 = .ok (.iaload, 1)) := by decide +kernel
theorem dL_law_334 : decode cL_law 334 = .ok (.ifCond .ne 16, 3) := db5_82.1
theorem dL_law_337 : decode cL_law 337 = .ok (.aload_n 3, 1) := db5_82.2.1
theorem dL_law_338 : decode cL_law 338 = .ok (.getfield 13, 3) := db5_82.2.2.1
theorem dL_law_341 : decode cL_law 341 = .ok (.iload 6, 2) := db5_82.2.2.2.1
theorem dL_law_343 : decode cL_law 343 = .ok (.i2l, 1) := db5_82.2.2.2.2.1
theorem dL_law_344 : decode cL_law 344 = .ok (.lcmp, 1) := db5_82.2.2.2.2.2.1
theorem dL_law_345 : decode cL_law 345 = .ok (.ifCond .eq 5, 3) := db5_82.2.2.2.2.2.2.1
theorem dL_law_348 : decode cL_law 348 = .ok (.iconst 0, 1) := db5_82.2.2.2.2.2.2.2.1
theorem dL_law_349 : decode cL_law 349 = .ok (.ireturn, 1) := db5_82.2.2.2.2.2.2.2.2.1
theorem dL_law_350 : decode cL_law 350 = .ok (.goto 2010, 3) := db5_82.2.2.2.2.2.2.2.2.2.1
theorem dL_law_353 : decode cL_law 353 = .ok (.aload_n 1, 1) := db5_82.2.2.2.2.2.2.2.2.2.2.1
theorem dL_law_354 : decode cL_law 354 = .ok (.aload_n 0, 1) := db5_82.2.2.2.2.2.2.2.2.2.2.2.1
theorem dL_law_355 : decode cL_law 355 = .ok (.iload 4, 2) := db5_82.2.2.2.2.2.2.2.2.2.2.2.2.1
theorem dL_law_357 : decode cL_law 357 = .ok (.iconst 1, 1) := db5_82.2.2.2.2.2.2.2.2.2.2.2.2.2.1
theorem dL_law_358 : decode cL_law 358 = .ok (.iadd, 1) := db5_82.2.2.2.2.2.2.2.2.2.2.2.2.2.2.1
theorem dL_law_359 : decode cL_law 359 = .ok (.iaload, 1) := db5_82.2.2.2.2.2.2.2.2.2.2.2.2.2.2.2
theorem db5_83 : (decode cL_law 360 = .ok (.aload_n 0, 1)) ∧ (decode cL_law 361 = .ok (.iload 4, 2)) ∧ (decode cL_law 363 = .ok (.iconst 2, 1)) ∧ (decode cL_law 364 = .ok (.iadd, 1)) ∧ (decode cL_law 365 = .ok (.iaload, 1)) ∧ (decode cL_law 366 = .ok (.aload_n 3, 1)) ∧ (decode cL_law 367 = .ok (.invokestatic 194, 3)) ∧ (decode cL_law 370 = .ok (.istore 5, 2)) ∧ (decode cL_law 372 = .ok (.aload_n 2, 1)) ∧ (decode cL_law 373 = .ok (.aload_n 0, 1)) ∧ (decode cL_law 374 = .ok (.iload 4, 2)) ∧ (decode cL_law 376 = .ok (.iconst 1, 1)) ∧ (decode cL_law 377 = .ok (.iadd, 1)) ∧ (decode cL_law 378 = .ok (.iaload, 1)) ∧ (decode cL_law 379 = .ok (.aload_n 0, 1)) ∧ (decode cL_law 380 = .ok (.iload 4, 2)) := by decide +kernel
theorem dL_law_360 : decode cL_law 360 = .ok (.aload_n 0, 1) := db5_83.1
theorem dL_law_361 : decode cL_law 361 = .ok (.iload 4, 2) := db5_83.2.1
theorem dL_law_363 : decode cL_law 363 = .ok (.iconst 2, 1) := db5_83.2.2.1
theorem dL_law_364 : decode cL_law 364 = .ok (.iadd, 1) := db5_83.2.2.2.1
theorem dL_law_365 : decode cL_law 365 = .ok (.iaload, 1) := db5_83.2.2.2.2.1
theorem dL_law_366 : decode cL_law 366 = .ok (.aload_n 3, 1) := db5_83.2.2.2.2.2.1
theorem dL_law_367 : decode cL_law 367 = .ok (.invokestatic 194, 3) := db5_83.2.2.2.2.2.2.1
theorem dL_law_370 : decode cL_law 370 = .ok (.istore 5, 2) := db5_83.2.2.2.2.2.2.2.1
theorem dL_law_372 : decode cL_law 372 = .ok (.aload_n 2, 1) := db5_83.2.2.2.2.2.2.2.2.1
theorem dL_law_373 : decode cL_law 373 = .ok (.aload_n 0, 1) := db5_83.2.2.2.2.2.2.2.2.2.1
theorem dL_law_374 : decode cL_law 374 = .ok (.iload 4, 2) := db5_83.2.2.2.2.2.2.2.2.2.2.1
theorem dL_law_376 : decode cL_law 376 = .ok (.iconst 1, 1) := db5_83.2.2.2.2.2.2.2.2.2.2.2.1
theorem dL_law_377 : decode cL_law 377 = .ok (.iadd, 1) := db5_83.2.2.2.2.2.2.2.2.2.2.2.2.1
theorem dL_law_378 : decode cL_law 378 = .ok (.iaload, 1) := db5_83.2.2.2.2.2.2.2.2.2.2.2.2.2.1
theorem dL_law_379 : decode cL_law 379 = .ok (.aload_n 0, 1) := db5_83.2.2.2.2.2.2.2.2.2.2.2.2.2.2.1
theorem dL_law_380 : decode cL_law 380 = .ok (.iload 4, 2) := db5_83.2.2.2.2.2.2.2.2.2.2.2.2.2.2.2
theorem db5_84 : (decode cL_law 382 = .ok (.iconst 2, 1)) ∧ (decode cL_law 383 = .ok (.iadd, 1)) ∧ (decode cL_law 384 = .ok (.iaload, 1)) ∧ (decode cL_law 385 = .ok (.invokevirtual 197, 3)) ∧ (decode cL_law 388 = .ok (.istore 6, 2)) ∧ (decode cL_law 390 = .ok (.goto 1970, 3)) ∧ (decode cL_law 393 = .ok (.aload_n 1, 1)) ∧ (decode cL_law 394 = .ok (.aload_n 0, 1)) ∧ (decode cL_law 395 = .ok (.iload 4, 2)) ∧ (decode cL_law 397 = .ok (.iconst 1, 1)) ∧ (decode cL_law 398 = .ok (.iadd, 1)) ∧ (decode cL_law 399 = .ok (.iaload, 1)) ∧ (decode cL_law 400 = .ok (.aload_n 0, 1)) ∧ (decode cL_law 401 = .ok (.iload 4, 2)) ∧ (decode cL_law 403 = .ok (.iconst 2, 1)) ∧ (decode cL_law 404 = .ok (.iadd, 1)) := by decide +kernel
theorem dL_law_382 : decode cL_law 382 = .ok (.iconst 2, 1) := db5_84.1
theorem dL_law_383 : decode cL_law 383 = .ok (.iadd, 1) := db5_84.2.1
theorem dL_law_384 : decode cL_law 384 = .ok (.iaload, 1) := db5_84.2.2.1
theorem dL_law_385 : decode cL_law 385 = .ok (.invokevirtual 197, 3) := db5_84.2.2.2.1
theorem dL_law_388 : decode cL_law 388 = .ok (.istore 6, 2) := db5_84.2.2.2.2.1
theorem dL_law_390 : decode cL_law 390 = .ok (.goto 1970, 3) := db5_84.2.2.2.2.2.1
theorem dL_law_393 : decode cL_law 393 = .ok (.aload_n 1, 1) := db5_84.2.2.2.2.2.2.1
theorem dL_law_394 : decode cL_law 394 = .ok (.aload_n 0, 1) := db5_84.2.2.2.2.2.2.2.1
theorem dL_law_395 : decode cL_law 395 = .ok (.iload 4, 2) := db5_84.2.2.2.2.2.2.2.2.1
theorem dL_law_397 : decode cL_law 397 = .ok (.iconst 1, 1) := db5_84.2.2.2.2.2.2.2.2.2.1
theorem dL_law_398 : decode cL_law 398 = .ok (.iadd, 1) := db5_84.2.2.2.2.2.2.2.2.2.2.1
theorem dL_law_399 : decode cL_law 399 = .ok (.iaload, 1) := db5_84.2.2.2.2.2.2.2.2.2.2.2.1
theorem dL_law_400 : decode cL_law 400 = .ok (.aload_n 0, 1) := db5_84.2.2.2.2.2.2.2.2.2.2.2.2.1
theorem dL_law_401 : decode cL_law 401 = .ok (.iload 4, 2) := db5_84.2.2.2.2.2.2.2.2.2.2.2.2.2.1
theorem dL_law_403 : decode cL_law 403 = .ok (.iconst 2, 1) := db5_84.2.2.2.2.2.2.2.2.2.2.2.2.2.2.1
theorem dL_law_404 : decode cL_law 404 = .ok (.iadd, 1) := db5_84.2.2.2.2.2.2.2.2.2.2.2.2.2.2.2
theorem db5_85 : (decode cL_law 405 = .ok (.iaload, 1)) ∧ (decode cL_law 406 = .ok (.aload_n 0, 1)) ∧ (decode cL_law 407 = .ok (.iload 4, 2)) ∧ (decode cL_law 409 = .ok (.iconst 3, 1)) ∧ (decode cL_law 410 = .ok (.iadd, 1)) ∧ (decode cL_law 411 = .ok (.iaload, 1)) ∧ (decode cL_law 412 = .ok (.aload_n 3, 1)) ∧ (decode cL_law 413 = .ok (.invokestatic 198, 3)) ∧ (decode cL_law 416 = .ok (.istore 5, 2)) ∧ (decode cL_law 418 = .ok (.aload_n 2, 1)) ∧ (decode cL_law 419 = .ok (.aload_n 0, 1)) ∧ (decode cL_law 420 = .ok (.iload 4, 2)) ∧ (decode cL_law 422 = .ok (.iconst 1, 1)) ∧ (decode cL_law 423 = .ok (.iadd, 1)) ∧ (decode cL_law 424 = .ok (.iaload, 1)) ∧ (decode cL_law 425 = .ok (.aload_n 0, 1)) := by decide +kernel
theorem dL_law_405 : decode cL_law 405 = .ok (.iaload, 1) := db5_85.1
theorem dL_law_406 : decode cL_law 406 = .ok (.aload_n 0, 1) := db5_85.2.1
theorem dL_law_407 : decode cL_law 407 = .ok (.iload 4, 2) := db5_85.2.2.1
theorem dL_law_409 : decode cL_law 409 = .ok (.iconst 3, 1) := db5_85.2.2.2.1
theorem dL_law_410 : decode cL_law 410 = .ok (.iadd, 1) := db5_85.2.2.2.2.1
theorem dL_law_411 : decode cL_law 411 = .ok (.iaload, 1) := db5_85.2.2.2.2.2.1
theorem dL_law_412 : decode cL_law 412 = .ok (.aload_n 3, 1) := db5_85.2.2.2.2.2.2.1
theorem dL_law_413 : decode cL_law 413 = .ok (.invokestatic 198, 3) := db5_85.2.2.2.2.2.2.2.1
theorem dL_law_416 : decode cL_law 416 = .ok (.istore 5, 2) := db5_85.2.2.2.2.2.2.2.2.1
theorem dL_law_418 : decode cL_law 418 = .ok (.aload_n 2, 1) := db5_85.2.2.2.2.2.2.2.2.2.1
theorem dL_law_419 : decode cL_law 419 = .ok (.aload_n 0, 1) := db5_85.2.2.2.2.2.2.2.2.2.2.1
theorem dL_law_420 : decode cL_law 420 = .ok (.iload 4, 2) := db5_85.2.2.2.2.2.2.2.2.2.2.2.1
theorem dL_law_422 : decode cL_law 422 = .ok (.iconst 1, 1) := db5_85.2.2.2.2.2.2.2.2.2.2.2.2.1
theorem dL_law_423 : decode cL_law 423 = .ok (.iadd, 1) := db5_85.2.2.2.2.2.2.2.2.2.2.2.2.2.1
theorem dL_law_424 : decode cL_law 424 = .ok (.iaload, 1) := db5_85.2.2.2.2.2.2.2.2.2.2.2.2.2.2.1
theorem dL_law_425 : decode cL_law 425 = .ok (.aload_n 0, 1) := db5_85.2.2.2.2.2.2.2.2.2.2.2.2.2.2.2
theorem db5_86 : (decode cL_law 426 = .ok (.iload 4, 2)) ∧ (decode cL_law 428 = .ok (.iconst 2, 1)) ∧ (decode cL_law 429 = .ok (.iadd, 1)) ∧ (decode cL_law 430 = .ok (.iaload, 1)) ∧ (decode cL_law 431 = .ok (.aload_n 0, 1)) ∧ (decode cL_law 432 = .ok (.iload 4, 2)) ∧ (decode cL_law 434 = .ok (.iconst 3, 1)) ∧ (decode cL_law 435 = .ok (.iadd, 1)) ∧ (decode cL_law 436 = .ok (.iaload, 1)) ∧ (decode cL_law 437 = .ok (.invokevirtual 201, 3)) ∧ (decode cL_law 440 = .ok (.istore 6, 2)) ∧ (decode cL_law 442 = .ok (.goto 1918, 3)) ∧ (decode cL_law 445 = .ok (.aload_n 1, 1)) ∧ (decode cL_law 446 = .ok (.aload_n 0, 1)) ∧ (decode cL_law 447 = .ok (.iload 4, 2)) ∧ (decode cL_law 449 = .ok (.iconst 1, 1)) := by decide +kernel
theorem dL_law_426 : decode cL_law 426 = .ok (.iload 4, 2) := db5_86.1
theorem dL_law_428 : decode cL_law 428 = .ok (.iconst 2, 1) := db5_86.2.1
theorem dL_law_429 : decode cL_law 429 = .ok (.iadd, 1) := db5_86.2.2.1
theorem dL_law_430 : decode cL_law 430 = .ok (.iaload, 1) := db5_86.2.2.2.1
theorem dL_law_431 : decode cL_law 431 = .ok (.aload_n 0, 1) := db5_86.2.2.2.2.1
theorem dL_law_432 : decode cL_law 432 = .ok (.iload 4, 2) := db5_86.2.2.2.2.2.1
theorem dL_law_434 : decode cL_law 434 = .ok (.iconst 3, 1) := db5_86.2.2.2.2.2.2.1
theorem dL_law_435 : decode cL_law 435 = .ok (.iadd, 1) := db5_86.2.2.2.2.2.2.2.1
theorem dL_law_436 : decode cL_law 436 = .ok (.iaload, 1) := db5_86.2.2.2.2.2.2.2.2.1
theorem dL_law_437 : decode cL_law 437 = .ok (.invokevirtual 201, 3) := db5_86.2.2.2.2.2.2.2.2.2.1
theorem dL_law_440 : decode cL_law 440 = .ok (.istore 6, 2) := db5_86.2.2.2.2.2.2.2.2.2.2.1
theorem dL_law_442 : decode cL_law 442 = .ok (.goto 1918, 3) := db5_86.2.2.2.2.2.2.2.2.2.2.2.1
theorem dL_law_445 : decode cL_law 445 = .ok (.aload_n 1, 1) := db5_86.2.2.2.2.2.2.2.2.2.2.2.2.1
theorem dL_law_446 : decode cL_law 446 = .ok (.aload_n 0, 1) := db5_86.2.2.2.2.2.2.2.2.2.2.2.2.2.1
theorem dL_law_447 : decode cL_law 447 = .ok (.iload 4, 2) := db5_86.2.2.2.2.2.2.2.2.2.2.2.2.2.2.1
theorem dL_law_449 : decode cL_law 449 = .ok (.iconst 1, 1) := db5_86.2.2.2.2.2.2.2.2.2.2.2.2.2.2.2
theorem db5_87 : (decode cL_law 450 = .ok (.iadd, 1)) ∧ (decode cL_law 451 = .ok (.iaload, 1)) ∧ (decode cL_law 452 = .ok (.aload_n 0, 1)) ∧ (decode cL_law 453 = .ok (.iload 4, 2)) ∧ (decode cL_law 455 = .ok (.iconst 2, 1)) ∧ (decode cL_law 456 = .ok (.iadd, 1)) ∧ (decode cL_law 457 = .ok (.iaload, 1)) ∧ (decode cL_law 458 = .ok (.aload_n 3, 1)) ∧ (decode cL_law 459 = .ok (.invokestatic 202, 3)) ∧ (decode cL_law 462 = .ok (.istore 5, 2)) ∧ (decode cL_law 464 = .ok (.aload_n 2, 1)) ∧ (decode cL_law 465 = .ok (.aload_n 0, 1)) ∧ (decode cL_law 466 = .ok (.iload 4, 2)) ∧ (decode cL_law 468 = .ok (.iconst 1, 1)) ∧ (decode cL_law 469 = .ok (.iadd, 1)) ∧ (decode cL_law 470 = .ok (.iaload, 1)) := by decide +kernel
theorem dL_law_450 : decode cL_law 450 = .ok (.iadd, 1) := db5_87.1
theorem dL_law_451 : decode cL_law 451 = .ok (.iaload, 1) := db5_87.2.1
theorem dL_law_452 : decode cL_law 452 = .ok (.aload_n 0, 1) := db5_87.2.2.1
theorem dL_law_453 : decode cL_law 453 = .ok (.iload 4, 2) := db5_87.2.2.2.1
theorem dL_law_455 : decode cL_law 455 = .ok (.iconst 2, 1) := db5_87.2.2.2.2.1
theorem dL_law_456 : decode cL_law 456 = .ok (.iadd, 1) := db5_87.2.2.2.2.2.1
theorem dL_law_457 : decode cL_law 457 = .ok (.iaload, 1) := db5_87.2.2.2.2.2.2.1
theorem dL_law_458 : decode cL_law 458 = .ok (.aload_n 3, 1) := db5_87.2.2.2.2.2.2.2.1
theorem dL_law_459 : decode cL_law 459 = .ok (.invokestatic 202, 3) := db5_87.2.2.2.2.2.2.2.2.1
theorem dL_law_462 : decode cL_law 462 = .ok (.istore 5, 2) := db5_87.2.2.2.2.2.2.2.2.2.1
theorem dL_law_464 : decode cL_law 464 = .ok (.aload_n 2, 1) := db5_87.2.2.2.2.2.2.2.2.2.2.1
theorem dL_law_465 : decode cL_law 465 = .ok (.aload_n 0, 1) := db5_87.2.2.2.2.2.2.2.2.2.2.2.1
theorem dL_law_466 : decode cL_law 466 = .ok (.iload 4, 2) := db5_87.2.2.2.2.2.2.2.2.2.2.2.2.1
theorem dL_law_468 : decode cL_law 468 = .ok (.iconst 1, 1) := db5_87.2.2.2.2.2.2.2.2.2.2.2.2.2.1
theorem dL_law_469 : decode cL_law 469 = .ok (.iadd, 1) := db5_87.2.2.2.2.2.2.2.2.2.2.2.2.2.2.1
theorem dL_law_470 : decode cL_law 470 = .ok (.iaload, 1) := db5_87.2.2.2.2.2.2.2.2.2.2.2.2.2.2.2
theorem db5_88 : (decode cL_law 471 = .ok (.aload_n 0, 1)) ∧ (decode cL_law 472 = .ok (.iload 4, 2)) ∧ (decode cL_law 474 = .ok (.iconst 2, 1)) ∧ (decode cL_law 475 = .ok (.iadd, 1)) ∧ (decode cL_law 476 = .ok (.iaload, 1)) ∧ (decode cL_law 477 = .ok (.invokevirtual 204, 3)) ∧ (decode cL_law 480 = .ok (.istore 6, 2)) ∧ (decode cL_law 482 = .ok (.goto 1878, 3)) ∧ (decode cL_law 485 = .ok (.aload_n 1, 1)) ∧ (decode cL_law 486 = .ok (.aload_n 0, 1)) ∧ (decode cL_law 487 = .ok (.iload 4, 2)) ∧ (decode cL_law 489 = .ok (.iconst 1, 1)) ∧ (decode cL_law 490 = .ok (.iadd, 1)) ∧ (decode cL_law 491 = .ok (.iaload, 1)) ∧ (decode cL_law 492 = .ok (.aload_n 3, 1)) ∧ (decode cL_law 493 = .ok (.invokestatic 205, 3)) := by decide +kernel
theorem dL_law_471 : decode cL_law 471 = .ok (.aload_n 0, 1) := db5_88.1
theorem dL_law_472 : decode cL_law 472 = .ok (.iload 4, 2) := db5_88.2.1
theorem dL_law_474 : decode cL_law 474 = .ok (.iconst 2, 1) := db5_88.2.2.1
theorem dL_law_475 : decode cL_law 475 = .ok (.iadd, 1) := db5_88.2.2.2.1
theorem dL_law_476 : decode cL_law 476 = .ok (.iaload, 1) := db5_88.2.2.2.2.1
theorem dL_law_477 : decode cL_law 477 = .ok (.invokevirtual 204, 3) := db5_88.2.2.2.2.2.1
theorem dL_law_480 : decode cL_law 480 = .ok (.istore 6, 2) := db5_88.2.2.2.2.2.2.1
theorem dL_law_482 : decode cL_law 482 = .ok (.goto 1878, 3) := db5_88.2.2.2.2.2.2.2.1
theorem dL_law_485 : decode cL_law 485 = .ok (.aload_n 1, 1) := db5_88.2.2.2.2.2.2.2.2.1
theorem dL_law_486 : decode cL_law 486 = .ok (.aload_n 0, 1) := db5_88.2.2.2.2.2.2.2.2.2.1
theorem dL_law_487 : decode cL_law 487 = .ok (.iload 4, 2) := db5_88.2.2.2.2.2.2.2.2.2.2.1
theorem dL_law_489 : decode cL_law 489 = .ok (.iconst 1, 1) := db5_88.2.2.2.2.2.2.2.2.2.2.2.1
theorem dL_law_490 : decode cL_law 490 = .ok (.iadd, 1) := db5_88.2.2.2.2.2.2.2.2.2.2.2.2.1
theorem dL_law_491 : decode cL_law 491 = .ok (.iaload, 1) := db5_88.2.2.2.2.2.2.2.2.2.2.2.2.2.1
theorem dL_law_492 : decode cL_law 492 = .ok (.aload_n 3, 1) := db5_88.2.2.2.2.2.2.2.2.2.2.2.2.2.2.1
theorem dL_law_493 : decode cL_law 493 = .ok (.invokestatic 205, 3) := db5_88.2.2.2.2.2.2.2.2.2.2.2.2.2.2.2
theorem db5_89 : (decode cL_law 496 = .ok (.istore 5, 2)) ∧ (decode cL_law 498 = .ok (.aload_n 2, 1)) ∧ (decode cL_law 499 = .ok (.aload_n 0, 1)) ∧ (decode cL_law 500 = .ok (.iload 4, 2)) ∧ (decode cL_law 502 = .ok (.iconst 1, 1)) ∧ (decode cL_law 503 = .ok (.iadd, 1)) ∧ (decode cL_law 504 = .ok (.iaload, 1)) ∧ (decode cL_law 505 = .ok (.invokevirtual 208, 3)) ∧ (decode cL_law 508 = .ok (.istore 6, 2)) ∧ (decode cL_law 510 = .ok (.goto 1850, 3)) ∧ (decode cL_law 513 = .ok (.aload_n 1, 1)) ∧ (decode cL_law 514 = .ok (.aload_n 0, 1)) ∧ (decode cL_law 515 = .ok (.iload 4, 2)) ∧ (decode cL_law 517 = .ok (.iconst 1, 1)) ∧ (decode cL_law 518 = .ok (.iadd, 1)) ∧ (decode cL_law 519 = .ok (.iaload, 1)) := by decide +kernel
theorem dL_law_496 : decode cL_law 496 = .ok (.istore 5, 2) := db5_89.1
theorem dL_law_498 : decode cL_law 498 = .ok (.aload_n 2, 1) := db5_89.2.1
theorem dL_law_499 : decode cL_law 499 = .ok (.aload_n 0, 1) := db5_89.2.2.1
theorem dL_law_500 : decode cL_law 500 = .ok (.iload 4, 2) := db5_89.2.2.2.1
theorem dL_law_502 : decode cL_law 502 = .ok (.iconst 1, 1) := db5_89.2.2.2.2.1
theorem dL_law_503 : decode cL_law 503 = .ok (.iadd, 1) := db5_89.2.2.2.2.2.1
theorem dL_law_504 : decode cL_law 504 = .ok (.iaload, 1) := db5_89.2.2.2.2.2.2.1
theorem dL_law_505 : decode cL_law 505 = .ok (.invokevirtual 208, 3) := db5_89.2.2.2.2.2.2.2.1
theorem dL_law_508 : decode cL_law 508 = .ok (.istore 6, 2) := db5_89.2.2.2.2.2.2.2.2.1
theorem dL_law_510 : decode cL_law 510 = .ok (.goto 1850, 3) := db5_89.2.2.2.2.2.2.2.2.2.1
theorem dL_law_513 : decode cL_law 513 = .ok (.aload_n 1, 1) := db5_89.2.2.2.2.2.2.2.2.2.2.1
theorem dL_law_514 : decode cL_law 514 = .ok (.aload_n 0, 1) := db5_89.2.2.2.2.2.2.2.2.2.2.2.1
theorem dL_law_515 : decode cL_law 515 = .ok (.iload 4, 2) := db5_89.2.2.2.2.2.2.2.2.2.2.2.2.1
theorem dL_law_517 : decode cL_law 517 = .ok (.iconst 1, 1) := db5_89.2.2.2.2.2.2.2.2.2.2.2.2.2.1
theorem dL_law_518 : decode cL_law 518 = .ok (.iadd, 1) := db5_89.2.2.2.2.2.2.2.2.2.2.2.2.2.2.1
theorem dL_law_519 : decode cL_law 519 = .ok (.iaload, 1) := db5_89.2.2.2.2.2.2.2.2.2.2.2.2.2.2.2
theorem db5_90 : (decode cL_law 520 = .ok (.aload_n 3, 1)) ∧ (decode cL_law 521 = .ok (.invokestatic 209, 3)) ∧ (decode cL_law 524 = .ok (.istore 5, 2)) ∧ (decode cL_law 526 = .ok (.aload_n 2, 1)) ∧ (decode cL_law 527 = .ok (.aload_n 0, 1)) ∧ (decode cL_law 528 = .ok (.iload 4, 2)) ∧ (decode cL_law 530 = .ok (.iconst 1, 1)) ∧ (decode cL_law 531 = .ok (.iadd, 1)) ∧ (decode cL_law 532 = .ok (.iaload, 1)) ∧ (decode cL_law 533 = .ok (.invokevirtual 211, 3)) ∧ (decode cL_law 536 = .ok (.istore 6, 2)) ∧ (decode cL_law 538 = .ok (.goto 1822, 3)) ∧ (decode cL_law 541 = .ok (.aload_n 1, 1)) ∧ (decode cL_law 542 = .ok (.aload_n 0, 1)) ∧ (decode cL_law 543 = .ok (.iload 4, 2)) ∧ (decode cL_law 545 = .ok (.iconst 1, 1)) := by decide +kernel
theorem dL_law_520 : decode cL_law 520 = .ok (.aload_n 3, 1) := db5_90.1
theorem dL_law_521 : decode cL_law 521 = .ok (.invokestatic 209, 3) := db5_90.2.1
theorem dL_law_524 : decode cL_law 524 = .ok (.istore 5, 2) := db5_90.2.2.1
theorem dL_law_526 : decode cL_law 526 = .ok (.aload_n 2, 1) := db5_90.2.2.2.1
theorem dL_law_527 : decode cL_law 527 = .ok (.aload_n 0, 1) := db5_90.2.2.2.2.1
theorem dL_law_528 : decode cL_law 528 = .ok (.iload 4, 2) := db5_90.2.2.2.2.2.1
theorem dL_law_530 : decode cL_law 530 = .ok (.iconst 1, 1) := db5_90.2.2.2.2.2.2.1
theorem dL_law_531 : decode cL_law 531 = .ok (.iadd, 1) := db5_90.2.2.2.2.2.2.2.1
theorem dL_law_532 : decode cL_law 532 = .ok (.iaload, 1) := db5_90.2.2.2.2.2.2.2.2.1
theorem dL_law_533 : decode cL_law 533 = .ok (.invokevirtual 211, 3) := db5_90.2.2.2.2.2.2.2.2.2.1
theorem dL_law_536 : decode cL_law 536 = .ok (.istore 6, 2) := db5_90.2.2.2.2.2.2.2.2.2.2.1
theorem dL_law_538 : decode cL_law 538 = .ok (.goto 1822, 3) := db5_90.2.2.2.2.2.2.2.2.2.2.2.1
theorem dL_law_541 : decode cL_law 541 = .ok (.aload_n 1, 1) := db5_90.2.2.2.2.2.2.2.2.2.2.2.2.1
theorem dL_law_542 : decode cL_law 542 = .ok (.aload_n 0, 1) := db5_90.2.2.2.2.2.2.2.2.2.2.2.2.2.1
theorem dL_law_543 : decode cL_law 543 = .ok (.iload 4, 2) := db5_90.2.2.2.2.2.2.2.2.2.2.2.2.2.2.1
theorem dL_law_545 : decode cL_law 545 = .ok (.iconst 1, 1) := db5_90.2.2.2.2.2.2.2.2.2.2.2.2.2.2.2
theorem db5_91 : (decode cL_law 546 = .ok (.iadd, 1)) ∧ (decode cL_law 547 = .ok (.iaload, 1)) ∧ (decode cL_law 548 = .ok (.aload_n 0, 1)) ∧ (decode cL_law 549 = .ok (.iload 4, 2)) ∧ (decode cL_law 551 = .ok (.iconst 2, 1)) ∧ (decode cL_law 552 = .ok (.iadd, 1)) ∧ (decode cL_law 553 = .ok (.iaload, 1)) ∧ (decode cL_law 554 = .ok (.aload_n 3, 1)) ∧ (decode cL_law 555 = .ok (.invokestatic 212, 3)) ∧ (decode cL_law 558 = .ok (.istore 5, 2)) ∧ (decode cL_law 560 = .ok (.aload_n 2, 1)) ∧ (decode cL_law 561 = .ok (.aload_n 0, 1)) ∧ (decode cL_law 562 = .ok (.iload 4, 2)) ∧ (decode cL_law 564 = .ok (.iconst 1, 1)) ∧ (decode cL_law 565 = .ok (.iadd, 1)) ∧ (decode cL_law 566 = .ok (.iaload, 1)) := by decide +kernel
theorem dL_law_546 : decode cL_law 546 = .ok (.iadd, 1) := db5_91.1
theorem dL_law_547 : decode cL_law 547 = .ok (.iaload, 1) := db5_91.2.1
theorem dL_law_548 : decode cL_law 548 = .ok (.aload_n 0, 1) := db5_91.2.2.1
theorem dL_law_549 : decode cL_law 549 = .ok (.iload 4, 2) := db5_91.2.2.2.1
theorem dL_law_551 : decode cL_law 551 = .ok (.iconst 2, 1) := db5_91.2.2.2.2.1
theorem dL_law_552 : decode cL_law 552 = .ok (.iadd, 1) := db5_91.2.2.2.2.2.1
theorem dL_law_553 : decode cL_law 553 = .ok (.iaload, 1) := db5_91.2.2.2.2.2.2.1
theorem dL_law_554 : decode cL_law 554 = .ok (.aload_n 3, 1) := db5_91.2.2.2.2.2.2.2.1
theorem dL_law_555 : decode cL_law 555 = .ok (.invokestatic 212, 3) := db5_91.2.2.2.2.2.2.2.2.1
theorem dL_law_558 : decode cL_law 558 = .ok (.istore 5, 2) := db5_91.2.2.2.2.2.2.2.2.2.1
theorem dL_law_560 : decode cL_law 560 = .ok (.aload_n 2, 1) := db5_91.2.2.2.2.2.2.2.2.2.2.1
theorem dL_law_561 : decode cL_law 561 = .ok (.aload_n 0, 1) := db5_91.2.2.2.2.2.2.2.2.2.2.2.1
theorem dL_law_562 : decode cL_law 562 = .ok (.iload 4, 2) := db5_91.2.2.2.2.2.2.2.2.2.2.2.2.1
theorem dL_law_564 : decode cL_law 564 = .ok (.iconst 1, 1) := db5_91.2.2.2.2.2.2.2.2.2.2.2.2.2.1
theorem dL_law_565 : decode cL_law 565 = .ok (.iadd, 1) := db5_91.2.2.2.2.2.2.2.2.2.2.2.2.2.2.1
theorem dL_law_566 : decode cL_law 566 = .ok (.iaload, 1) := db5_91.2.2.2.2.2.2.2.2.2.2.2.2.2.2.2
theorem db5_92 : (decode cL_law 567 = .ok (.aload_n 0, 1)) ∧ (decode cL_law 568 = .ok (.iload 4, 2)) ∧ (decode cL_law 570 = .ok (.iconst 2, 1)) ∧ (decode cL_law 571 = .ok (.iadd, 1)) ∧ (decode cL_law 572 = .ok (.iaload, 1)) ∧ (decode cL_law 573 = .ok (.invokevirtual 214, 3)) ∧ (decode cL_law 576 = .ok (.istore 6, 2)) ∧ (decode cL_law 578 = .ok (.goto 1782, 3)) ∧ (decode cL_law 581 = .ok (.aload_n 1, 1)) ∧ (decode cL_law 582 = .ok (.aload_n 0, 1)) ∧ (decode cL_law 583 = .ok (.iload 4, 2)) ∧ (decode cL_law 585 = .ok (.iconst 1, 1)) ∧ (decode cL_law 586 = .ok (.iadd, 1)) ∧ (decode cL_law 587 = .ok (.iaload, 1)) ∧ (decode cL_law 588 = .ok (.aload_n 0, 1)) ∧ (decode cL_law 589 = .ok (.iload 4, 2)) := by decide +kernel
theorem dL_law_567 : decode cL_law 567 = .ok (.aload_n 0, 1) := db5_92.1
theorem dL_law_568 : decode cL_law 568 = .ok (.iload 4, 2) := db5_92.2.1
theorem dL_law_570 : decode cL_law 570 = .ok (.iconst 2, 1) := db5_92.2.2.1
theorem dL_law_571 : decode cL_law 571 = .ok (.iadd, 1) := db5_92.2.2.2.1
theorem dL_law_572 : decode cL_law 572 = .ok (.iaload, 1) := db5_92.2.2.2.2.1
theorem dL_law_573 : decode cL_law 573 = .ok (.invokevirtual 214, 3) := db5_92.2.2.2.2.2.1
theorem dL_law_576 : decode cL_law 576 = .ok (.istore 6, 2) := db5_92.2.2.2.2.2.2.1
theorem dL_law_578 : decode cL_law 578 = .ok (.goto 1782, 3) := db5_92.2.2.2.2.2.2.2.1
theorem dL_law_581 : decode cL_law 581 = .ok (.aload_n 1, 1) := db5_92.2.2.2.2.2.2.2.2.1
theorem dL_law_582 : decode cL_law 582 = .ok (.aload_n 0, 1) := db5_92.2.2.2.2.2.2.2.2.2.1
theorem dL_law_583 : decode cL_law 583 = .ok (.iload 4, 2) := db5_92.2.2.2.2.2.2.2.2.2.2.1
theorem dL_law_585 : decode cL_law 585 = .ok (.iconst 1, 1) := db5_92.2.2.2.2.2.2.2.2.2.2.2.1
theorem dL_law_586 : decode cL_law 586 = .ok (.iadd, 1) := db5_92.2.2.2.2.2.2.2.2.2.2.2.2.1
theorem dL_law_587 : decode cL_law 587 = .ok (.iaload, 1) := db5_92.2.2.2.2.2.2.2.2.2.2.2.2.2.1
theorem dL_law_588 : decode cL_law 588 = .ok (.aload_n 0, 1) := db5_92.2.2.2.2.2.2.2.2.2.2.2.2.2.2.1
theorem dL_law_589 : decode cL_law 589 = .ok (.iload 4, 2) := db5_92.2.2.2.2.2.2.2.2.2.2.2.2.2.2.2
theorem db5_93 : (decode cL_law 591 = .ok (.iconst 2, 1)) ∧ (decode cL_law 592 = .ok (.iadd, 1)) ∧ (decode cL_law 593 = .ok (.iaload, 1)) ∧ (decode cL_law 594 = .ok (.aload_n 3, 1)) ∧ (decode cL_law 595 = .ok (.invokestatic 215, 3)) ∧ (decode cL_law 598 = .ok (.istore 5, 2)) ∧ (decode cL_law 600 = .ok (.aload_n 2, 1)) ∧ (decode cL_law 601 = .ok (.aload_n 0, 1)) ∧ (decode cL_law 602 = .ok (.iload 4, 2)) ∧ (decode cL_law 604 = .ok (.iconst 1, 1)) ∧ (decode cL_law 605 = .ok (.iadd, 1)) ∧ (decode cL_law 606 = .ok (.iaload, 1)) ∧ (decode cL_law 607 = .ok (.aload_n 0, 1)) ∧ (decode cL_law 608 = .ok (.iload 4, 2)) ∧ (decode cL_law 610 = .ok (.iconst 2, 1)) ∧ (decode cL_law 611 = .ok (.iadd, 1)) := by decide +kernel
theorem dL_law_591 : decode cL_law 591 = .ok (.iconst 2, 1) := db5_93.1
theorem dL_law_592 : decode cL_law 592 = .ok (.iadd, 1) := db5_93.2.1
theorem dL_law_593 : decode cL_law 593 = .ok (.iaload, 1) := db5_93.2.2.1
theorem dL_law_594 : decode cL_law 594 = .ok (.aload_n 3, 1) := db5_93.2.2.2.1
theorem dL_law_595 : decode cL_law 595 = .ok (.invokestatic 215, 3) := db5_93.2.2.2.2.1
theorem dL_law_598 : decode cL_law 598 = .ok (.istore 5, 2) := db5_93.2.2.2.2.2.1
theorem dL_law_600 : decode cL_law 600 = .ok (.aload_n 2, 1) := db5_93.2.2.2.2.2.2.1
theorem dL_law_601 : decode cL_law 601 = .ok (.aload_n 0, 1) := db5_93.2.2.2.2.2.2.2.1
theorem dL_law_602 : decode cL_law 602 = .ok (.iload 4, 2) := db5_93.2.2.2.2.2.2.2.2.1
theorem dL_law_604 : decode cL_law 604 = .ok (.iconst 1, 1) := db5_93.2.2.2.2.2.2.2.2.2.1
theorem dL_law_605 : decode cL_law 605 = .ok (.iadd, 1) := db5_93.2.2.2.2.2.2.2.2.2.2.1
theorem dL_law_606 : decode cL_law 606 = .ok (.iaload, 1) := db5_93.2.2.2.2.2.2.2.2.2.2.2.1
theorem dL_law_607 : decode cL_law 607 = .ok (.aload_n 0, 1) := db5_93.2.2.2.2.2.2.2.2.2.2.2.2.1
theorem dL_law_608 : decode cL_law 608 = .ok (.iload 4, 2) := db5_93.2.2.2.2.2.2.2.2.2.2.2.2.2.1
theorem dL_law_610 : decode cL_law 610 = .ok (.iconst 2, 1) := db5_93.2.2.2.2.2.2.2.2.2.2.2.2.2.2.1
theorem dL_law_611 : decode cL_law 611 = .ok (.iadd, 1) := db5_93.2.2.2.2.2.2.2.2.2.2.2.2.2.2.2
theorem db5_94 : (decode cL_law 612 = .ok (.iaload, 1)) ∧ (decode cL_law 613 = .ok (.invokevirtual 217, 3)) ∧ (decode cL_law 616 = .ok (.istore 6, 2)) ∧ (decode cL_law 618 = .ok (.goto 1742, 3)) ∧ (decode cL_law 621 = .ok (.aload_n 1, 1)) ∧ (decode cL_law 622 = .ok (.aload_n 0, 1)) ∧ (decode cL_law 623 = .ok (.iload 4, 2)) ∧ (decode cL_law 625 = .ok (.iconst 1, 1)) ∧ (decode cL_law 626 = .ok (.iadd, 1)) ∧ (decode cL_law 627 = .ok (.iaload, 1)) ∧ (decode cL_law 628 = .ok (.aload_n 0, 1)) ∧ (decode cL_law 629 = .ok (.iload 4, 2)) ∧ (decode cL_law 631 = .ok (.iconst 2, 1)) ∧ (decode cL_law 632 = .ok (.iadd, 1)) ∧ (decode cL_law 633 = .ok (.iaload, 1)) ∧ (decode cL_law 634 = .ok (.aload_n 3, 1)) := by decide +kernel
theorem dL_law_612 : decode cL_law 612 = .ok (.iaload, 1) := db5_94.1
theorem dL_law_613 : decode cL_law 613 = .ok (.invokevirtual 217, 3) := db5_94.2.1
theorem dL_law_616 : decode cL_law 616 = .ok (.istore 6, 2) := db5_94.2.2.1
theorem dL_law_618 : decode cL_law 618 = .ok (.goto 1742, 3) := db5_94.2.2.2.1
theorem dL_law_621 : decode cL_law 621 = .ok (.aload_n 1, 1) := db5_94.2.2.2.2.1
theorem dL_law_622 : decode cL_law 622 = .ok (.aload_n 0, 1) := db5_94.2.2.2.2.2.1
theorem dL_law_623 : decode cL_law 623 = .ok (.iload 4, 2) := db5_94.2.2.2.2.2.2.1
theorem dL_law_625 : decode cL_law 625 = .ok (.iconst 1, 1) := db5_94.2.2.2.2.2.2.2.1
theorem dL_law_626 : decode cL_law 626 = .ok (.iadd, 1) := db5_94.2.2.2.2.2.2.2.2.1
theorem dL_law_627 : decode cL_law 627 = .ok (.iaload, 1) := db5_94.2.2.2.2.2.2.2.2.2.1
theorem dL_law_628 : decode cL_law 628 = .ok (.aload_n 0, 1) := db5_94.2.2.2.2.2.2.2.2.2.2.1
theorem dL_law_629 : decode cL_law 629 = .ok (.iload 4, 2) := db5_94.2.2.2.2.2.2.2.2.2.2.2.1
theorem dL_law_631 : decode cL_law 631 = .ok (.iconst 2, 1) := db5_94.2.2.2.2.2.2.2.2.2.2.2.2.1
theorem dL_law_632 : decode cL_law 632 = .ok (.iadd, 1) := db5_94.2.2.2.2.2.2.2.2.2.2.2.2.2.1
theorem dL_law_633 : decode cL_law 633 = .ok (.iaload, 1) := db5_94.2.2.2.2.2.2.2.2.2.2.2.2.2.2.1
theorem dL_law_634 : decode cL_law 634 = .ok (.aload_n 3, 1) := db5_94.2.2.2.2.2.2.2.2.2.2.2.2.2.2.2
theorem db5_95 : (decode cL_law 635 = .ok (.invokestatic 218, 3)) ∧ (decode cL_law 638 = .ok (.istore 5, 2)) ∧ (decode cL_law 640 = .ok (.aload_n 2, 1)) ∧ (decode cL_law 641 = .ok (.aload_n 0, 1)) ∧ (decode cL_law 642 = .ok (.iload 4, 2)) ∧ (decode cL_law 644 = .ok (.iconst 1, 1)) ∧ (decode cL_law 645 = .ok (.iadd, 1)) ∧ (decode cL_law 646 = .ok (.iaload, 1)) ∧ (decode cL_law 647 = .ok (.aload_n 0, 1)) ∧ (decode cL_law 648 = .ok (.iload 4, 2)) ∧ (decode cL_law 650 = .ok (.iconst 2, 1)) ∧ (decode cL_law 651 = .ok (.iadd, 1)) ∧ (decode cL_law 652 = .ok (.iaload, 1)) ∧ (decode cL_law 653 = .ok (.invokevirtual 220, 3)) ∧ (decode cL_law 656 = .ok (.istore 6, 2)) ∧ (decode cL_law 658 = .ok (.goto 1702, 3)) := by decide +kernel
theorem dL_law_635 : decode cL_law 635 = .ok (.invokestatic 218, 3) := db5_95.1
theorem dL_law_638 : decode cL_law 638 = .ok (.istore 5, 2) := db5_95.2.1
theorem dL_law_640 : decode cL_law 640 = .ok (.aload_n 2, 1) := db5_95.2.2.1
theorem dL_law_641 : decode cL_law 641 = .ok (.aload_n 0, 1) := db5_95.2.2.2.1
theorem dL_law_642 : decode cL_law 642 = .ok (.iload 4, 2) := db5_95.2.2.2.2.1
theorem dL_law_644 : decode cL_law 644 = .ok (.iconst 1, 1) := db5_95.2.2.2.2.2.1
theorem dL_law_645 : decode cL_law 645 = .ok (.iadd, 1) := db5_95.2.2.2.2.2.2.1
theorem dL_law_646 : decode cL_law 646 = .ok (.iaload, 1) := db5_95.2.2.2.2.2.2.2.1
theorem dL_law_647 : decode cL_law 647 = .ok (.aload_n 0, 1) := db5_95.2.2.2.2.2.2.2.2.1
theorem dL_law_648 : decode cL_law 648 = .ok (.iload 4, 2) := db5_95.2.2.2.2.2.2.2.2.2.1
theorem dL_law_650 : decode cL_law 650 = .ok (.iconst 2, 1) := db5_95.2.2.2.2.2.2.2.2.2.2.1
theorem dL_law_651 : decode cL_law 651 = .ok (.iadd, 1) := db5_95.2.2.2.2.2.2.2.2.2.2.2.1
theorem dL_law_652 : decode cL_law 652 = .ok (.iaload, 1) := db5_95.2.2.2.2.2.2.2.2.2.2.2.2.1
theorem dL_law_653 : decode cL_law 653 = .ok (.invokevirtual 220, 3) := db5_95.2.2.2.2.2.2.2.2.2.2.2.2.2.1
theorem dL_law_656 : decode cL_law 656 = .ok (.istore 6, 2) := db5_95.2.2.2.2.2.2.2.2.2.2.2.2.2.2.1
theorem dL_law_658 : decode cL_law 658 = .ok (.goto 1702, 3) := db5_95.2.2.2.2.2.2.2.2.2.2.2.2.2.2.2
theorem db5_96 : (decode cL_law 661 = .ok (.aload_n 1, 1)) ∧ (decode cL_law 662 = .ok (.aload_n 0, 1)) ∧ (decode cL_law 663 = .ok (.iload 4, 2)) ∧ (decode cL_law 665 = .ok (.iconst 1, 1)) ∧ (decode cL_law 666 = .ok (.iadd, 1)) ∧ (decode cL_law 667 = .ok (.iaload, 1)) ∧ (decode cL_law 668 = .ok (.aload_n 0, 1)) ∧ (decode cL_law 669 = .ok (.iload 4, 2)) ∧ (decode cL_law 671 = .ok (.iconst 2, 1)) ∧ (decode cL_law 672 = .ok (.iadd, 1)) ∧ (decode cL_law 673 = .ok (.iaload, 1)) ∧ (decode cL_law 674 = .ok (.aload_n 3, 1)) ∧ (decode cL_law 675 = .ok (.invokestatic 221, 3)) ∧ (decode cL_law 678 = .ok (.istore 5, 2)) ∧ (decode cL_law 680 = .ok (.aload_n 2, 1)) ∧ (decode cL_law 681 = .ok (.aload_n 0, 1)) := by decide +kernel
theorem dL_law_661 : decode cL_law 661 = .ok (.aload_n 1, 1) := db5_96.1
theorem dL_law_662 : decode cL_law 662 = .ok (.aload_n 0, 1) := db5_96.2.1
theorem dL_law_663 : decode cL_law 663 = .ok (.iload 4, 2) := db5_96.2.2.1
theorem dL_law_665 : decode cL_law 665 = .ok (.iconst 1, 1) := db5_96.2.2.2.1
theorem dL_law_666 : decode cL_law 666 = .ok (.iadd, 1) := db5_96.2.2.2.2.1
theorem dL_law_667 : decode cL_law 667 = .ok (.iaload, 1) := db5_96.2.2.2.2.2.1
theorem dL_law_668 : decode cL_law 668 = .ok (.aload_n 0, 1) := db5_96.2.2.2.2.2.2.1
theorem dL_law_669 : decode cL_law 669 = .ok (.iload 4, 2) := db5_96.2.2.2.2.2.2.2.1
theorem dL_law_671 : decode cL_law 671 = .ok (.iconst 2, 1) := db5_96.2.2.2.2.2.2.2.2.1
theorem dL_law_672 : decode cL_law 672 = .ok (.iadd, 1) := db5_96.2.2.2.2.2.2.2.2.2.1
theorem dL_law_673 : decode cL_law 673 = .ok (.iaload, 1) := db5_96.2.2.2.2.2.2.2.2.2.2.1
theorem dL_law_674 : decode cL_law 674 = .ok (.aload_n 3, 1) := db5_96.2.2.2.2.2.2.2.2.2.2.2.1
theorem dL_law_675 : decode cL_law 675 = .ok (.invokestatic 221, 3) := db5_96.2.2.2.2.2.2.2.2.2.2.2.2.1
theorem dL_law_678 : decode cL_law 678 = .ok (.istore 5, 2) := db5_96.2.2.2.2.2.2.2.2.2.2.2.2.2.1
theorem dL_law_680 : decode cL_law 680 = .ok (.aload_n 2, 1) := db5_96.2.2.2.2.2.2.2.2.2.2.2.2.2.2.1
theorem dL_law_681 : decode cL_law 681 = .ok (.aload_n 0, 1) := db5_96.2.2.2.2.2.2.2.2.2.2.2.2.2.2.2
theorem db5_97 : (decode cL_law 682 = .ok (.iload 4, 2)) ∧ (decode cL_law 684 = .ok (.iconst 1, 1)) ∧ (decode cL_law 685 = .ok (.iadd, 1)) ∧ (decode cL_law 686 = .ok (.iaload, 1)) ∧ (decode cL_law 687 = .ok (.aload_n 0, 1)) ∧ (decode cL_law 688 = .ok (.iload 4, 2)) ∧ (decode cL_law 690 = .ok (.iconst 2, 1)) ∧ (decode cL_law 691 = .ok (.iadd, 1)) ∧ (decode cL_law 692 = .ok (.iaload, 1)) ∧ (decode cL_law 693 = .ok (.invokevirtual 223, 3)) ∧ (decode cL_law 696 = .ok (.istore 6, 2)) ∧ (decode cL_law 698 = .ok (.goto 1662, 3)) ∧ (decode cL_law 701 = .ok (.aload_n 1, 1)) ∧ (decode cL_law 702 = .ok (.aload_n 0, 1)) ∧ (decode cL_law 703 = .ok (.iload 4, 2)) ∧ (decode cL_law 705 = .ok (.iconst 1, 1)) := by decide +kernel
theorem dL_law_682 : decode cL_law 682 = .ok (.iload 4, 2) := db5_97.1
theorem dL_law_684 : decode cL_law 684 = .ok (.iconst 1, 1) := db5_97.2.1
theorem dL_law_685 : decode cL_law 685 = .ok (.iadd, 1) := db5_97.2.2.1
theorem dL_law_686 : decode cL_law 686 = .ok (.iaload, 1) := db5_97.2.2.2.1
theorem dL_law_687 : decode cL_law 687 = .ok (.aload_n 0, 1) := db5_97.2.2.2.2.1
theorem dL_law_688 : decode cL_law 688 = .ok (.iload 4, 2) := db5_97.2.2.2.2.2.1
theorem dL_law_690 : decode cL_law 690 = .ok (.iconst 2, 1) := db5_97.2.2.2.2.2.2.1
theorem dL_law_691 : decode cL_law 691 = .ok (.iadd, 1) := db5_97.2.2.2.2.2.2.2.1
theorem dL_law_692 : decode cL_law 692 = .ok (.iaload, 1) := db5_97.2.2.2.2.2.2.2.2.1
theorem dL_law_693 : decode cL_law 693 = .ok (.invokevirtual 223, 3) := db5_97.2.2.2.2.2.2.2.2.2.1
theorem dL_law_696 : decode cL_law 696 = .ok (.istore 6, 2) := db5_97.2.2.2.2.2.2.2.2.2.2.1
theorem dL_law_698 : decode cL_law 698 = .ok (.goto 1662, 3) := db5_97.2.2.2.2.2.2.2.2.2.2.2.1
theorem dL_law_701 : decode cL_law 701 = .ok (.aload_n 1, 1) := db5_97.2.2.2.2.2.2.2.2.2.2.2.2.1
theorem dL_law_702 : decode cL_law 702 = .ok (.aload_n 0, 1) := db5_97.2.2.2.2.2.2.2.2.2.2.2.2.2.1
theorem dL_law_703 : decode cL_law 703 = .ok (.iload 4, 2) := db5_97.2.2.2.2.2.2.2.2.2.2.2.2.2.2.1
theorem dL_law_705 : decode cL_law 705 = .ok (.iconst 1, 1) := db5_97.2.2.2.2.2.2.2.2.2.2.2.2.2.2.2
theorem db5_98 : (decode cL_law 706 = .ok (.iadd, 1)) ∧ (decode cL_law 707 = .ok (.iaload, 1)) ∧ (decode cL_law 708 = .ok (.aload_n 0, 1)) ∧ (decode cL_law 709 = .ok (.iload 4, 2)) ∧ (decode cL_law 711 = .ok (.iconst 2, 1)) ∧ (decode cL_law 712 = .ok (.iadd, 1)) ∧ (decode cL_law 713 = .ok (.iaload, 1)) ∧ (decode cL_law 714 = .ok (.aload_n 3, 1)) ∧ (decode cL_law 715 = .ok (.invokestatic 224, 3)) ∧ (decode cL_law 718 = .ok (.istore 5, 2)) ∧ (decode cL_law 720 = .ok (.aload_n 2, 1)) ∧ (decode cL_law 721 = .ok (.aload_n 0, 1)) ∧ (decode cL_law 722 = .ok (.iload 4, 2)) ∧ (decode cL_law 724 = .ok (.iconst 1, 1)) ∧ (decode cL_law 725 = .ok (.iadd, 1)) ∧ (decode cL_law 726 = .ok (.iaload, 1)) := by decide +kernel
theorem dL_law_706 : decode cL_law 706 = .ok (.iadd, 1) := db5_98.1
theorem dL_law_707 : decode cL_law 707 = .ok (.iaload, 1) := db5_98.2.1
theorem dL_law_708 : decode cL_law 708 = .ok (.aload_n 0, 1) := db5_98.2.2.1
theorem dL_law_709 : decode cL_law 709 = .ok (.iload 4, 2) := db5_98.2.2.2.1
theorem dL_law_711 : decode cL_law 711 = .ok (.iconst 2, 1) := db5_98.2.2.2.2.1
theorem dL_law_712 : decode cL_law 712 = .ok (.iadd, 1) := db5_98.2.2.2.2.2.1
theorem dL_law_713 : decode cL_law 713 = .ok (.iaload, 1) := db5_98.2.2.2.2.2.2.1
theorem dL_law_714 : decode cL_law 714 = .ok (.aload_n 3, 1) := db5_98.2.2.2.2.2.2.2.1
theorem dL_law_715 : decode cL_law 715 = .ok (.invokestatic 224, 3) := db5_98.2.2.2.2.2.2.2.2.1
theorem dL_law_718 : decode cL_law 718 = .ok (.istore 5, 2) := db5_98.2.2.2.2.2.2.2.2.2.1
theorem dL_law_720 : decode cL_law 720 = .ok (.aload_n 2, 1) := db5_98.2.2.2.2.2.2.2.2.2.2.1
theorem dL_law_721 : decode cL_law 721 = .ok (.aload_n 0, 1) := db5_98.2.2.2.2.2.2.2.2.2.2.2.1
theorem dL_law_722 : decode cL_law 722 = .ok (.iload 4, 2) := db5_98.2.2.2.2.2.2.2.2.2.2.2.2.1
theorem dL_law_724 : decode cL_law 724 = .ok (.iconst 1, 1) := db5_98.2.2.2.2.2.2.2.2.2.2.2.2.2.1
theorem dL_law_725 : decode cL_law 725 = .ok (.iadd, 1) := db5_98.2.2.2.2.2.2.2.2.2.2.2.2.2.2.1
theorem dL_law_726 : decode cL_law 726 = .ok (.iaload, 1) := db5_98.2.2.2.2.2.2.2.2.2.2.2.2.2.2.2
theorem db5_99 : (decode cL_law 727 = .ok (.aload_n 0, 1)) ∧ (decode cL_law 728 = .ok (.iload 4, 2)) ∧ (decode cL_law 730 = .ok (.iconst 2, 1)) ∧ (decode cL_law 731 = .ok (.iadd, 1)) ∧ (decode cL_law 732 = .ok (.iaload, 1)) ∧ (decode cL_law 733 = .ok (.invokevirtual 226, 3)) ∧ (decode cL_law 736 = .ok (.istore 6, 2)) ∧ (decode cL_law 738 = .ok (.goto 1622, 3)) ∧ (decode cL_law 741 = .ok (.aload_n 1, 1)) ∧ (decode cL_law 742 = .ok (.aload_n 0, 1)) ∧ (decode cL_law 743 = .ok (.iload 4, 2)) ∧ (decode cL_law 745 = .ok (.iconst 1, 1)) ∧ (decode cL_law 746 = .ok (.iadd, 1)) ∧ (decode cL_law 747 = .ok (.iaload, 1)) ∧ (decode cL_law 748 = .ok (.aload_n 0, 1)) ∧ (decode cL_law 749 = .ok (.iload 4, 2)) := by decide +kernel
theorem dL_law_727 : decode cL_law 727 = .ok (.aload_n 0, 1) := db5_99.1
theorem dL_law_728 : decode cL_law 728 = .ok (.iload 4, 2) := db5_99.2.1
theorem dL_law_730 : decode cL_law 730 = .ok (.iconst 2, 1) := db5_99.2.2.1
theorem dL_law_731 : decode cL_law 731 = .ok (.iadd, 1) := db5_99.2.2.2.1
theorem dL_law_732 : decode cL_law 732 = .ok (.iaload, 1) := db5_99.2.2.2.2.1
theorem dL_law_733 : decode cL_law 733 = .ok (.invokevirtual 226, 3) := db5_99.2.2.2.2.2.1
theorem dL_law_736 : decode cL_law 736 = .ok (.istore 6, 2) := db5_99.2.2.2.2.2.2.1
theorem dL_law_738 : decode cL_law 738 = .ok (.goto 1622, 3) := db5_99.2.2.2.2.2.2.2.1
theorem dL_law_741 : decode cL_law 741 = .ok (.aload_n 1, 1) := db5_99.2.2.2.2.2.2.2.2.1
theorem dL_law_742 : decode cL_law 742 = .ok (.aload_n 0, 1) := db5_99.2.2.2.2.2.2.2.2.2.1
theorem dL_law_743 : decode cL_law 743 = .ok (.iload 4, 2) := db5_99.2.2.2.2.2.2.2.2.2.2.1
theorem dL_law_745 : decode cL_law 745 = .ok (.iconst 1, 1) := db5_99.2.2.2.2.2.2.2.2.2.2.2.1
theorem dL_law_746 : decode cL_law 746 = .ok (.iadd, 1) := db5_99.2.2.2.2.2.2.2.2.2.2.2.2.1
theorem dL_law_747 : decode cL_law 747 = .ok (.iaload, 1) := db5_99.2.2.2.2.2.2.2.2.2.2.2.2.2.1
theorem dL_law_748 : decode cL_law 748 = .ok (.aload_n 0, 1) := db5_99.2.2.2.2.2.2.2.2.2.2.2.2.2.2.1
theorem dL_law_749 : decode cL_law 749 = .ok (.iload 4, 2) := db5_99.2.2.2.2.2.2.2.2.2.2.2.2.2.2.2
theorem db5_100 : (decode cL_law 751 = .ok (.iconst 2, 1)) ∧ (decode cL_law 752 = .ok (.iadd, 1)) ∧ (decode cL_law 753 = .ok (.iaload, 1)) ∧ (decode cL_law 754 = .ok (.aload_n 0, 1)) ∧ (decode cL_law 755 = .ok (.iload 4, 2)) ∧ (decode cL_law 757 = .ok (.iconst 3, 1)) ∧ (decode cL_law 758 = .ok (.iadd, 1)) ∧ (decode cL_law 759 = .ok (.iaload, 1)) ∧ (decode cL_law 760 = .ok (.ifCond .eq 7, 3)) ∧ (decode cL_law 763 = .ok (.iconst 1, 1)) ∧ (decode cL_law 764 = .ok (.goto 4, 3)) ∧ (decode cL_law 767 = .ok (.iconst 0, 1)) ∧ (decode cL_law 768 = .ok (.aload_n 0, 1)) ∧ (decode cL_law 769 = .ok (.iload 4, 2)) ∧ (decode cL_law 771 = .ok (.iconst 4, 1)) ∧ (decode cL_law 772 = .ok (.iadd, 1)) := by decide +kernel
theorem dL_law_751 : decode cL_law 751 = .ok (.iconst 2, 1) := db5_100.1
theorem dL_law_752 : decode cL_law 752 = .ok (.iadd, 1) := db5_100.2.1
theorem dL_law_753 : decode cL_law 753 = .ok (.iaload, 1) := db5_100.2.2.1
theorem dL_law_754 : decode cL_law 754 = .ok (.aload_n 0, 1) := db5_100.2.2.2.1
theorem dL_law_755 : decode cL_law 755 = .ok (.iload 4, 2) := db5_100.2.2.2.2.1
theorem dL_law_757 : decode cL_law 757 = .ok (.iconst 3, 1) := db5_100.2.2.2.2.2.1
theorem dL_law_758 : decode cL_law 758 = .ok (.iadd, 1) := db5_100.2.2.2.2.2.2.1
theorem dL_law_759 : decode cL_law 759 = .ok (.iaload, 1) := db5_100.2.2.2.2.2.2.2.1
theorem dL_law_760 : decode cL_law 760 = .ok (.ifCond .eq 7, 3) := db5_100.2.2.2.2.2.2.2.2.1
theorem dL_law_763 : decode cL_law 763 = .ok (.iconst 1, 1) := db5_100.2.2.2.2.2.2.2.2.2.1
theorem dL_law_764 : decode cL_law 764 = .ok (.goto 4, 3) := db5_100.2.2.2.2.2.2.2.2.2.2.1
theorem dL_law_767 : decode cL_law 767 = .ok (.iconst 0, 1) := db5_100.2.2.2.2.2.2.2.2.2.2.2.1
theorem dL_law_768 : decode cL_law 768 = .ok (.aload_n 0, 1) := db5_100.2.2.2.2.2.2.2.2.2.2.2.2.1
theorem dL_law_769 : decode cL_law 769 = .ok (.iload 4, 2) := db5_100.2.2.2.2.2.2.2.2.2.2.2.2.2.1
theorem dL_law_771 : decode cL_law 771 = .ok (.iconst 4, 1) := db5_100.2.2.2.2.2.2.2.2.2.2.2.2.2.2.1
theorem dL_law_772 : decode cL_law 772 = .ok (.iadd, 1) := db5_100.2.2.2.2.2.2.2.2.2.2.2.2.2.2.2
theorem db5_101 : (decode cL_law 773 = .ok (.iaload, 1)) ∧ (decode cL_law 774 = .ok (.ifCond .eq 7, 3)) ∧ (decode cL_law 777 = .ok (.iconst 1, 1)) ∧ (decode cL_law 778 = .ok (.goto 4, 3)) ∧ (decode cL_law 781 = .ok (.iconst 0, 1)) ∧ (decode cL_law 782 = .ok (.aload_n 3, 1)) ∧ (decode cL_law 783 = .ok (.invokestatic 227, 3)) ∧ (decode cL_law 786 = .ok (.istore 5, 2)) ∧ (decode cL_law 788 = .ok (.aload_n 2, 1)) ∧ (decode cL_law 789 = .ok (.aload_n 0, 1)) ∧ (decode cL_law 790 = .ok (.iload 4, 2)) ∧ (decode cL_law 792 = .ok (.iconst 1, 1)) ∧ (decode cL_law 793 = .ok (.iadd, 1)) ∧ (decode cL_law 794 = .ok (.iaload, 1)) ∧ (decode cL_law 795 = .ok (.aload_n 0, 1)) ∧ (decode cL_law 796 = .ok (.iload 4, 2)) := by decide +kernel
theorem dL_law_773 : decode cL_law 773 = .ok (.iaload, 1) := db5_101.1
theorem dL_law_774 : decode cL_law 774 = .ok (.ifCond .eq 7, 3) := db5_101.2.1
theorem dL_law_777 : decode cL_law 777 = .ok (.iconst 1, 1) := db5_101.2.2.1
theorem dL_law_778 : decode cL_law 778 = .ok (.goto 4, 3) := db5_101.2.2.2.1
theorem dL_law_781 : decode cL_law 781 = .ok (.iconst 0, 1) := db5_101.2.2.2.2.1
theorem dL_law_782 : decode cL_law 782 = .ok (.aload_n 3, 1) := db5_101.2.2.2.2.2.1
theorem dL_law_783 : decode cL_law 783 = .ok (.invokestatic 227, 3) := db5_101.2.2.2.2.2.2.1
theorem dL_law_786 : decode cL_law 786 = .ok (.istore 5, 2) := db5_101.2.2.2.2.2.2.2.1
theorem dL_law_788 : decode cL_law 788 = .ok (.aload_n 2, 1) := db5_101.2.2.2.2.2.2.2.2.1
theorem dL_law_789 : decode cL_law 789 = .ok (.aload_n 0, 1) := db5_101.2.2.2.2.2.2.2.2.2.1
theorem dL_law_790 : decode cL_law 790 = .ok (.iload 4, 2) := db5_101.2.2.2.2.2.2.2.2.2.2.1
theorem dL_law_792 : decode cL_law 792 = .ok (.iconst 1, 1) := db5_101.2.2.2.2.2.2.2.2.2.2.2.1
theorem dL_law_793 : decode cL_law 793 = .ok (.iadd, 1) := db5_101.2.2.2.2.2.2.2.2.2.2.2.2.1
theorem dL_law_794 : decode cL_law 794 = .ok (.iaload, 1) := db5_101.2.2.2.2.2.2.2.2.2.2.2.2.2.1
theorem dL_law_795 : decode cL_law 795 = .ok (.aload_n 0, 1) := db5_101.2.2.2.2.2.2.2.2.2.2.2.2.2.2.1
theorem dL_law_796 : decode cL_law 796 = .ok (.iload 4, 2) := db5_101.2.2.2.2.2.2.2.2.2.2.2.2.2.2.2
theorem db5_102 : (decode cL_law 798 = .ok (.iconst 2, 1)) ∧ (decode cL_law 799 = .ok (.iadd, 1)) ∧ (decode cL_law 800 = .ok (.iaload, 1)) ∧ (decode cL_law 801 = .ok (.aload_n 0, 1)) ∧ (decode cL_law 802 = .ok (.iload 4, 2)) ∧ (decode cL_law 804 = .ok (.iconst 3, 1)) ∧ (decode cL_law 805 = .ok (.iadd, 1)) ∧ (decode cL_law 806 = .ok (.iaload, 1)) ∧ (decode cL_law 807 = .ok (.ifCond .eq 7, 3)) ∧ (decode cL_law 810 = .ok (.iconst 1, 1)) ∧ (decode cL_law 811 = .ok (.goto 4, 3)) ∧ (decode cL_law 814 = .ok (.iconst 0, 1)) ∧ (decode cL_law 815 = .ok (.aload_n 0, 1)) ∧ (decode cL_law 816 = .ok (.iload 4, 2)) ∧ (decode cL_law 818 = .ok (.iconst 4, 1)) ∧ (decode cL_law 819 = .ok (.iadd, 1)) := by decide +kernel
theorem dL_law_798 : decode cL_law 798 = .ok (.iconst 2, 1) := db5_102.1
theorem dL_law_799 : decode cL_law 799 = .ok (.iadd, 1) := db5_102.2.1
theorem dL_law_800 : decode cL_law 800 = .ok (.iaload, 1) := db5_102.2.2.1
theorem dL_law_801 : decode cL_law 801 = .ok (.aload_n 0, 1) := db5_102.2.2.2.1
theorem dL_law_802 : decode cL_law 802 = .ok (.iload 4, 2) := db5_102.2.2.2.2.1
theorem dL_law_804 : decode cL_law 804 = .ok (.iconst 3, 1) := db5_102.2.2.2.2.2.1
theorem dL_law_805 : decode cL_law 805 = .ok (.iadd, 1) := db5_102.2.2.2.2.2.2.1
theorem dL_law_806 : decode cL_law 806 = .ok (.iaload, 1) := db5_102.2.2.2.2.2.2.2.1
theorem dL_law_807 : decode cL_law 807 = .ok (.ifCond .eq 7, 3) := db5_102.2.2.2.2.2.2.2.2.1
theorem dL_law_810 : decode cL_law 810 = .ok (.iconst 1, 1) := db5_102.2.2.2.2.2.2.2.2.2.1
theorem dL_law_811 : decode cL_law 811 = .ok (.goto 4, 3) := db5_102.2.2.2.2.2.2.2.2.2.2.1
theorem dL_law_814 : decode cL_law 814 = .ok (.iconst 0, 1) := db5_102.2.2.2.2.2.2.2.2.2.2.2.1
theorem dL_law_815 : decode cL_law 815 = .ok (.aload_n 0, 1) := db5_102.2.2.2.2.2.2.2.2.2.2.2.2.1
theorem dL_law_816 : decode cL_law 816 = .ok (.iload 4, 2) := db5_102.2.2.2.2.2.2.2.2.2.2.2.2.2.1
theorem dL_law_818 : decode cL_law 818 = .ok (.iconst 4, 1) := db5_102.2.2.2.2.2.2.2.2.2.2.2.2.2.2.1
theorem dL_law_819 : decode cL_law 819 = .ok (.iadd, 1) := db5_102.2.2.2.2.2.2.2.2.2.2.2.2.2.2.2
theorem db5_103 : (decode cL_law 820 = .ok (.iaload, 1)) ∧ (decode cL_law 821 = .ok (.ifCond .eq 7, 3)) ∧ (decode cL_law 824 = .ok (.iconst 1, 1)) ∧ (decode cL_law 825 = .ok (.goto 4, 3)) ∧ (decode cL_law 828 = .ok (.iconst 0, 1)) ∧ (decode cL_law 829 = .ok (.invokevirtual 230, 3)) ∧ (decode cL_law 832 = .ok (.istore 6, 2)) ∧ (decode cL_law 834 = .ok (.goto 1526, 3)) ∧ (decode cL_law 837 = .ok (.aload_n 1, 1)) ∧ (decode cL_law 838 = .ok (.aload_n 0, 1)) ∧ (decode cL_law 839 = .ok (.iload 4, 2)) ∧ (decode cL_law 841 = .ok (.iconst 1, 1)) ∧ (decode cL_law 842 = .ok (.iadd, 1)) ∧ (decode cL_law 843 = .ok (.iaload, 1)) ∧ (decode cL_law 844 = .ok (.aload_n 0, 1)) ∧ (decode cL_law 845 = .ok (.iload 4, 2)) := by decide +kernel
theorem dL_law_820 : decode cL_law 820 = .ok (.iaload, 1) := db5_103.1
theorem dL_law_821 : decode cL_law 821 = .ok (.ifCond .eq 7, 3) := db5_103.2.1
theorem dL_law_824 : decode cL_law 824 = .ok (.iconst 1, 1) := db5_103.2.2.1
theorem dL_law_825 : decode cL_law 825 = .ok (.goto 4, 3) := db5_103.2.2.2.1
theorem dL_law_828 : decode cL_law 828 = .ok (.iconst 0, 1) := db5_103.2.2.2.2.1
theorem dL_law_829 : decode cL_law 829 = .ok (.invokevirtual 230, 3) := db5_103.2.2.2.2.2.1
theorem dL_law_832 : decode cL_law 832 = .ok (.istore 6, 2) := db5_103.2.2.2.2.2.2.1
theorem dL_law_834 : decode cL_law 834 = .ok (.goto 1526, 3) := db5_103.2.2.2.2.2.2.2.1
theorem dL_law_837 : decode cL_law 837 = .ok (.aload_n 1, 1) := db5_103.2.2.2.2.2.2.2.2.1
theorem dL_law_838 : decode cL_law 838 = .ok (.aload_n 0, 1) := db5_103.2.2.2.2.2.2.2.2.2.1
theorem dL_law_839 : decode cL_law 839 = .ok (.iload 4, 2) := db5_103.2.2.2.2.2.2.2.2.2.2.1
theorem dL_law_841 : decode cL_law 841 = .ok (.iconst 1, 1) := db5_103.2.2.2.2.2.2.2.2.2.2.2.1
theorem dL_law_842 : decode cL_law 842 = .ok (.iadd, 1) := db5_103.2.2.2.2.2.2.2.2.2.2.2.2.1
theorem dL_law_843 : decode cL_law 843 = .ok (.iaload, 1) := db5_103.2.2.2.2.2.2.2.2.2.2.2.2.2.1
theorem dL_law_844 : decode cL_law 844 = .ok (.aload_n 0, 1) := db5_103.2.2.2.2.2.2.2.2.2.2.2.2.2.2.1
theorem dL_law_845 : decode cL_law 845 = .ok (.iload 4, 2) := db5_103.2.2.2.2.2.2.2.2.2.2.2.2.2.2.2
theorem db5_104 : (decode cL_law 847 = .ok (.iconst 2, 1)) ∧ (decode cL_law 848 = .ok (.iadd, 1)) ∧ (decode cL_law 849 = .ok (.iaload, 1)) ∧ (decode cL_law 850 = .ok (.aload_n 0, 1)) ∧ (decode cL_law 851 = .ok (.iload 4, 2)) ∧ (decode cL_law 853 = .ok (.iconst 3, 1)) ∧ (decode cL_law 854 = .ok (.iadd, 1)) ∧ (decode cL_law 855 = .ok (.iaload, 1)) ∧ (decode cL_law 856 = .ok (.aload_n 3, 1)) ∧ (decode cL_law 857 = .ok (.invokestatic 231, 3)) ∧ (decode cL_law 860 = .ok (.istore 5, 2)) ∧ (decode cL_law 862 = .ok (.aload_n 2, 1)) ∧ (decode cL_law 863 = .ok (.aload_n 0, 1)) ∧ (decode cL_law 864 = .ok (.iload 4, 2)) ∧ (decode cL_law 866 = .ok (.iconst 1, 1)) ∧ (decode cL_law 867 = .ok (.iadd, 1)) := by decide +kernel
theorem dL_law_847 : decode cL_law 847 = .ok (.iconst 2, 1) := db5_104.1
theorem dL_law_848 : decode cL_law 848 = .ok (.iadd, 1) := db5_104.2.1
theorem dL_law_849 : decode cL_law 849 = .ok (.iaload, 1) := db5_104.2.2.1
theorem dL_law_850 : decode cL_law 850 = .ok (.aload_n 0, 1) := db5_104.2.2.2.1
theorem dL_law_851 : decode cL_law 851 = .ok (.iload 4, 2) := db5_104.2.2.2.2.1
theorem dL_law_853 : decode cL_law 853 = .ok (.iconst 3, 1) := db5_104.2.2.2.2.2.1
theorem dL_law_854 : decode cL_law 854 = .ok (.iadd, 1) := db5_104.2.2.2.2.2.2.1
theorem dL_law_855 : decode cL_law 855 = .ok (.iaload, 1) := db5_104.2.2.2.2.2.2.2.1
theorem dL_law_856 : decode cL_law 856 = .ok (.aload_n 3, 1) := db5_104.2.2.2.2.2.2.2.2.1
theorem dL_law_857 : decode cL_law 857 = .ok (.invokestatic 231, 3) := db5_104.2.2.2.2.2.2.2.2.2.1
theorem dL_law_860 : decode cL_law 860 = .ok (.istore 5, 2) := db5_104.2.2.2.2.2.2.2.2.2.2.1
theorem dL_law_862 : decode cL_law 862 = .ok (.aload_n 2, 1) := db5_104.2.2.2.2.2.2.2.2.2.2.2.1
theorem dL_law_863 : decode cL_law 863 = .ok (.aload_n 0, 1) := db5_104.2.2.2.2.2.2.2.2.2.2.2.2.1
theorem dL_law_864 : decode cL_law 864 = .ok (.iload 4, 2) := db5_104.2.2.2.2.2.2.2.2.2.2.2.2.2.1
theorem dL_law_866 : decode cL_law 866 = .ok (.iconst 1, 1) := db5_104.2.2.2.2.2.2.2.2.2.2.2.2.2.2.1
theorem dL_law_867 : decode cL_law 867 = .ok (.iadd, 1) := db5_104.2.2.2.2.2.2.2.2.2.2.2.2.2.2.2
theorem db5_105 : (decode cL_law 868 = .ok (.iaload, 1)) ∧ (decode cL_law 869 = .ok (.aload_n 0, 1)) ∧ (decode cL_law 870 = .ok (.iload 4, 2)) ∧ (decode cL_law 872 = .ok (.iconst 2, 1)) ∧ (decode cL_law 873 = .ok (.iadd, 1)) ∧ (decode cL_law 874 = .ok (.iaload, 1)) ∧ (decode cL_law 875 = .ok (.aload_n 0, 1)) ∧ (decode cL_law 876 = .ok (.iload 4, 2)) ∧ (decode cL_law 878 = .ok (.iconst 3, 1)) ∧ (decode cL_law 879 = .ok (.iadd, 1)) ∧ (decode cL_law 880 = .ok (.iaload, 1)) ∧ (decode cL_law 881 = .ok (.invokevirtual 233, 3)) ∧ (decode cL_law 884 = .ok (.istore 6, 2)) ∧ (decode cL_law 886 = .ok (.goto 1474, 3)) ∧ (decode cL_law 889 = .ok (.aload_n 1, 1)) ∧ (decode cL_law 890 = .ok (.aload_n 0, 1)) := by decide +kernel
theorem dL_law_868 : decode cL_law 868 = .ok (.iaload, 1) := db5_105.1
theorem dL_law_869 : decode cL_law 869 = .ok (.aload_n 0, 1) := db5_105.2.1
theorem dL_law_870 : decode cL_law 870 = .ok (.iload 4, 2) := db5_105.2.2.1
theorem dL_law_872 : decode cL_law 872 = .ok (.iconst 2, 1) := db5_105.2.2.2.1
theorem dL_law_873 : decode cL_law 873 = .ok (.iadd, 1) := db5_105.2.2.2.2.1
theorem dL_law_874 : decode cL_law 874 = .ok (.iaload, 1) := db5_105.2.2.2.2.2.1
theorem dL_law_875 : decode cL_law 875 = .ok (.aload_n 0, 1) := db5_105.2.2.2.2.2.2.1
theorem dL_law_876 : decode cL_law 876 = .ok (.iload 4, 2) := db5_105.2.2.2.2.2.2.2.1
theorem dL_law_878 : decode cL_law 878 = .ok (.iconst 3, 1) := db5_105.2.2.2.2.2.2.2.2.1
theorem dL_law_879 : decode cL_law 879 = .ok (.iadd, 1) := db5_105.2.2.2.2.2.2.2.2.2.1
theorem dL_law_880 : decode cL_law 880 = .ok (.iaload, 1) := db5_105.2.2.2.2.2.2.2.2.2.2.1
theorem dL_law_881 : decode cL_law 881 = .ok (.invokevirtual 233, 3) := db5_105.2.2.2.2.2.2.2.2.2.2.2.1
theorem dL_law_884 : decode cL_law 884 = .ok (.istore 6, 2) := db5_105.2.2.2.2.2.2.2.2.2.2.2.2.1
theorem dL_law_886 : decode cL_law 886 = .ok (.goto 1474, 3) := db5_105.2.2.2.2.2.2.2.2.2.2.2.2.2.1
theorem dL_law_889 : decode cL_law 889 = .ok (.aload_n 1, 1) := db5_105.2.2.2.2.2.2.2.2.2.2.2.2.2.2.1
theorem dL_law_890 : decode cL_law 890 = .ok (.aload_n 0, 1) := db5_105.2.2.2.2.2.2.2.2.2.2.2.2.2.2.2
theorem db5_106 : (decode cL_law 891 = .ok (.iload 4, 2)) ∧ (decode cL_law 893 = .ok (.iconst 1, 1)) ∧ (decode cL_law 894 = .ok (.iadd, 1)) ∧ (decode cL_law 895 = .ok (.iaload, 1)) ∧ (decode cL_law 896 = .ok (.aload_n 0, 1)) ∧ (decode cL_law 897 = .ok (.iload 4, 2)) ∧ (decode cL_law 899 = .ok (.iconst 2, 1)) ∧ (decode cL_law 900 = .ok (.iadd, 1)) ∧ (decode cL_law 901 = .ok (.iaload, 1)) ∧ (decode cL_law 902 = .ok (.aload_n 0, 1)) ∧ (decode cL_law 903 = .ok (.iload 4, 2)) ∧ (decode cL_law 905 = .ok (.iconst 3, 1)) ∧ (decode cL_law 906 = .ok (.iadd, 1)) ∧ (decode cL_law 907 = .ok (.iaload, 1)) ∧ (decode cL_law 908 = .ok (.aload_n 0, 1)) ∧ (decode cL_law 909 = .ok (.iload 4, 2)) := by decide +kernel
theorem dL_law_891 : decode cL_law 891 = .ok (.iload 4, 2) := db5_106.1
theorem dL_law_893 : decode cL_law 893 = .ok (.iconst 1, 1) := db5_106.2.1
theorem dL_law_894 : decode cL_law 894 = .ok (.iadd, 1) := db5_106.2.2.1
theorem dL_law_895 : decode cL_law 895 = .ok (.iaload, 1) := db5_106.2.2.2.1
theorem dL_law_896 : decode cL_law 896 = .ok (.aload_n 0, 1) := db5_106.2.2.2.2.1
theorem dL_law_897 : decode cL_law 897 = .ok (.iload 4, 2) := db5_106.2.2.2.2.2.1
theorem dL_law_899 : decode cL_law 899 = .ok (.iconst 2, 1) := db5_106.2.2.2.2.2.2.1
theorem dL_law_900 : decode cL_law 900 = .ok (.iadd, 1) := db5_106.2.2.2.2.2.2.2.1
theorem dL_law_901 : decode cL_law 901 = .ok (.iaload, 1) := db5_106.2.2.2.2.2.2.2.2.1
theorem dL_law_902 : decode cL_law 902 = .ok (.aload_n 0, 1) := db5_106.2.2.2.2.2.2.2.2.2.1
theorem dL_law_903 : decode cL_law 903 = .ok (.iload 4, 2) := db5_106.2.2.2.2.2.2.2.2.2.2.1
theorem dL_law_905 : decode cL_law 905 = .ok (.iconst 3, 1) := db5_106.2.2.2.2.2.2.2.2.2.2.2.1
theorem dL_law_906 : decode cL_law 906 = .ok (.iadd, 1) := db5_106.2.2.2.2.2.2.2.2.2.2.2.2.1
theorem dL_law_907 : decode cL_law 907 = .ok (.iaload, 1) := db5_106.2.2.2.2.2.2.2.2.2.2.2.2.2.1
theorem dL_law_908 : decode cL_law 908 = .ok (.aload_n 0, 1) := db5_106.2.2.2.2.2.2.2.2.2.2.2.2.2.2.1
theorem dL_law_909 : decode cL_law 909 = .ok (.iload 4, 2) := db5_106.2.2.2.2.2.2.2.2.2.2.2.2.2.2.2
theorem db5_107 : (decode cL_law 911 = .ok (.iconst 4, 1)) ∧ (decode cL_law 912 = .ok (.iadd, 1)) ∧ (decode cL_law 913 = .ok (.iaload, 1)) ∧ (decode cL_law 914 = .ok (.aload_n 3, 1)) ∧ (decode cL_law 915 = .ok (.invokestatic 234, 3)) ∧ (decode cL_law 918 = .ok (.istore 5, 2)) ∧ (decode cL_law 920 = .ok (.aload_n 2, 1)) ∧ (decode cL_law 921 = .ok (.aload_n 0, 1)) ∧ (decode cL_law 922 = .ok (.iload 4, 2)) ∧ (decode cL_law 924 = .ok (.iconst 1, 1)) ∧ (decode cL_law 925 = .ok (.iadd, 1)) ∧ (decode cL_law 926 = .ok (.iaload, 1)) ∧ (decode cL_law 927 = .ok (.aload_n 0, 1)) ∧ (decode cL_law 928 = .ok (.iload 4, 2)) ∧ (decode cL_law 930 = .ok (.iconst 2, 1)) ∧ (decode cL_law 931 = .ok (.iadd, 1)) := by decide +kernel
theorem dL_law_911 : decode cL_law 911 = .ok (.iconst 4, 1) := db5_107.1
theorem dL_law_912 : decode cL_law 912 = .ok (.iadd, 1) := db5_107.2.1
theorem dL_law_913 : decode cL_law 913 = .ok (.iaload, 1) := db5_107.2.2.1
theorem dL_law_914 : decode cL_law 914 = .ok (.aload_n 3, 1) := db5_107.2.2.2.1
theorem dL_law_915 : decode cL_law 915 = .ok (.invokestatic 234, 3) := db5_107.2.2.2.2.1
theorem dL_law_918 : decode cL_law 918 = .ok (.istore 5, 2) := db5_107.2.2.2.2.2.1
theorem dL_law_920 : decode cL_law 920 = .ok (.aload_n 2, 1) := db5_107.2.2.2.2.2.2.1
theorem dL_law_921 : decode cL_law 921 = .ok (.aload_n 0, 1) := db5_107.2.2.2.2.2.2.2.1
theorem dL_law_922 : decode cL_law 922 = .ok (.iload 4, 2) := db5_107.2.2.2.2.2.2.2.2.1
theorem dL_law_924 : decode cL_law 924 = .ok (.iconst 1, 1) := db5_107.2.2.2.2.2.2.2.2.2.1
theorem dL_law_925 : decode cL_law 925 = .ok (.iadd, 1) := db5_107.2.2.2.2.2.2.2.2.2.2.1
theorem dL_law_926 : decode cL_law 926 = .ok (.iaload, 1) := db5_107.2.2.2.2.2.2.2.2.2.2.2.1
theorem dL_law_927 : decode cL_law 927 = .ok (.aload_n 0, 1) := db5_107.2.2.2.2.2.2.2.2.2.2.2.2.1
theorem dL_law_928 : decode cL_law 928 = .ok (.iload 4, 2) := db5_107.2.2.2.2.2.2.2.2.2.2.2.2.2.1
theorem dL_law_930 : decode cL_law 930 = .ok (.iconst 2, 1) := db5_107.2.2.2.2.2.2.2.2.2.2.2.2.2.2.1
theorem dL_law_931 : decode cL_law 931 = .ok (.iadd, 1) := db5_107.2.2.2.2.2.2.2.2.2.2.2.2.2.2.2
theorem db5_108 : (decode cL_law 932 = .ok (.iaload, 1)) ∧ (decode cL_law 933 = .ok (.aload_n 0, 1)) ∧ (decode cL_law 934 = .ok (.iload 4, 2)) ∧ (decode cL_law 936 = .ok (.iconst 3, 1)) ∧ (decode cL_law 937 = .ok (.iadd, 1)) ∧ (decode cL_law 938 = .ok (.iaload, 1)) ∧ (decode cL_law 939 = .ok (.aload_n 0, 1)) ∧ (decode cL_law 940 = .ok (.iload 4, 2)) ∧ (decode cL_law 942 = .ok (.iconst 4, 1)) ∧ (decode cL_law 943 = .ok (.iadd, 1)) ∧ (decode cL_law 944 = .ok (.iaload, 1)) ∧ (decode cL_law 945 = .ok (.invokevirtual 236, 3)) ∧ (decode cL_law 948 = .ok (.istore 6, 2)) ∧ (decode cL_law 950 = .ok (.goto 1410, 3)) ∧ (decode cL_law 953 = .ok (.aload_n 1, 1)) ∧ (decode cL_law 954 = .ok (.aload_n 0, 1)) := by decide +kernel
theorem dL_law_932 : decode cL_law 932 = .ok (.iaload, 1) := db5_108.1
theorem dL_law_933 : decode cL_law 933 = .ok (.aload_n 0, 1) := db5_108.2.1
theorem dL_law_934 : decode cL_law 934 = .ok (.iload 4, 2) := db5_108.2.2.1
theorem dL_law_936 : decode cL_law 936 = .ok (.iconst 3, 1) := db5_108.2.2.2.1
theorem dL_law_937 : decode cL_law 937 = .ok (.iadd, 1) := db5_108.2.2.2.2.1
theorem dL_law_938 : decode cL_law 938 = .ok (.iaload, 1) := db5_108.2.2.2.2.2.1
theorem dL_law_939 : decode cL_law 939 = .ok (.aload_n 0, 1) := db5_108.2.2.2.2.2.2.1
theorem dL_law_940 : decode cL_law 940 = .ok (.iload 4, 2) := db5_108.2.2.2.2.2.2.2.1
theorem dL_law_942 : decode cL_law 942 = .ok (.iconst 4, 1) := db5_108.2.2.2.2.2.2.2.2.1
theorem dL_law_943 : decode cL_law 943 = .ok (.iadd, 1) := db5_108.2.2.2.2.2.2.2.2.2.1
theorem dL_law_944 : decode cL_law 944 = .ok (.iaload, 1) := db5_108.2.2.2.2.2.2.2.2.2.2.1
theorem dL_law_945 : decode cL_law 945 = .ok (.invokevirtual 236, 3) := db5_108.2.2.2.2.2.2.2.2.2.2.2.1
theorem dL_law_948 : decode cL_law 948 = .ok (.istore 6, 2) := db5_108.2.2.2.2.2.2.2.2.2.2.2.2.1
theorem dL_law_950 : decode cL_law 950 = .ok (.goto 1410, 3) := db5_108.2.2.2.2.2.2.2.2.2.2.2.2.2.1
theorem dL_law_953 : decode cL_law 953 = .ok (.aload_n 1, 1) := db5_108.2.2.2.2.2.2.2.2.2.2.2.2.2.2.1
theorem dL_law_954 : decode cL_law 954 = .ok (.aload_n 0, 1) := db5_108.2.2.2.2.2.2.2.2.2.2.2.2.2.2.2
theorem db5_109 : (decode cL_law 955 = .ok (.iload 4, 2)) ∧ (decode cL_law 957 = .ok (.iconst 1, 1)) ∧ (decode cL_law 958 = .ok (.iadd, 1)) ∧ (decode cL_law 959 = .ok (.iaload, 1)) ∧ (decode cL_law 960 = .ok (.aload_n 0, 1)) ∧ (decode cL_law 961 = .ok (.iload 4, 2)) ∧ (decode cL_law 963 = .ok (.iconst 2, 1)) ∧ (decode cL_law 964 = .ok (.iadd, 1)) ∧ (decode cL_law 965 = .ok (.iaload, 1)) ∧ (decode cL_law 966 = .ok (.aload_n 0, 1)) ∧ (decode cL_law 967 = .ok (.iload 4, 2)) ∧ (decode cL_law 969 = .ok (.iconst 3, 1)) ∧ (decode cL_law 970 = .ok (.iadd, 1)) ∧ (decode cL_law 971 = .ok (.iaload, 1)) ∧ (decode cL_law 972 = .ok (.aload_n 3, 1)) ∧ (decode cL_law 973 = .ok (.invokestatic 237, 3)) := by decide +kernel
theorem dL_law_955 : decode cL_law 955 = .ok (.iload 4, 2) := db5_109.1
theorem dL_law_957 : decode cL_law 957 = .ok (.iconst 1, 1) := db5_109.2.1
theorem dL_law_958 : decode cL_law 958 = .ok (.iadd, 1) := db5_109.2.2.1
theorem dL_law_959 : decode cL_law 959 = .ok (.iaload, 1) := db5_109.2.2.2.1
theorem dL_law_960 : decode cL_law 960 = .ok (.aload_n 0, 1) := db5_109.2.2.2.2.1
theorem dL_law_961 : decode cL_law 961 = .ok (.iload 4, 2) := db5_109.2.2.2.2.2.1
theorem dL_law_963 : decode cL_law 963 = .ok (.iconst 2, 1) := db5_109.2.2.2.2.2.2.1
theorem dL_law_964 : decode cL_law 964 = .ok (.iadd, 1) := db5_109.2.2.2.2.2.2.2.1
theorem dL_law_965 : decode cL_law 965 = .ok (.iaload, 1) := db5_109.2.2.2.2.2.2.2.2.1
theorem dL_law_966 : decode cL_law 966 = .ok (.aload_n 0, 1) := db5_109.2.2.2.2.2.2.2.2.2.1
theorem dL_law_967 : decode cL_law 967 = .ok (.iload 4, 2) := db5_109.2.2.2.2.2.2.2.2.2.2.1
theorem dL_law_969 : decode cL_law 969 = .ok (.iconst 3, 1) := db5_109.2.2.2.2.2.2.2.2.2.2.2.1
theorem dL_law_970 : decode cL_law 970 = .ok (.iadd, 1) := db5_109.2.2.2.2.2.2.2.2.2.2.2.2.1
theorem dL_law_971 : decode cL_law 971 = .ok (.iaload, 1) := db5_109.2.2.2.2.2.2.2.2.2.2.2.2.2.1
theorem dL_law_972 : decode cL_law 972 = .ok (.aload_n 3, 1) := db5_109.2.2.2.2.2.2.2.2.2.2.2.2.2.2.1
theorem dL_law_973 : decode cL_law 973 = .ok (.invokestatic 237, 3) := db5_109.2.2.2.2.2.2.2.2.2.2.2.2.2.2.2
theorem db5_110 : (decode cL_law 976 = .ok (.istore 5, 2)) ∧ (decode cL_law 978 = .ok (.aload_n 2, 1)) ∧ (decode cL_law 979 = .ok (.aload_n 0, 1)) ∧ (decode cL_law 980 = .ok (.iload 4, 2)) ∧ (decode cL_law 982 = .ok (.iconst 1, 1)) ∧ (decode cL_law 983 = .ok (.iadd, 1)) ∧ (decode cL_law 984 = .ok (.iaload, 1)) ∧ (decode cL_law 985 = .ok (.aload_n 0, 1)) ∧ (decode cL_law 986 = .ok (.iload 4, 2)) ∧ (decode cL_law 988 = .ok (.iconst 2, 1)) ∧ (decode cL_law 989 = .ok (.iadd, 1)) ∧ (decode cL_law 990 = .ok (.iaload, 1)) ∧ (decode cL_law 991 = .ok (.aload_n 0, 1)) ∧ (decode cL_law 992 = .ok (.iload 4, 2)) ∧ (decode cL_law 994 = .ok (.iconst 3, 1)) ∧ (decode cL_law 995 = .ok (.iadd, 1)) := by decide +kernel
theorem dL_law_976 : decode cL_law 976 = .ok (.istore 5, 2) := db5_110.1
theorem dL_law_978 : decode cL_law 978 = .ok (.aload_n 2, 1) := db5_110.2.1
theorem dL_law_979 : decode cL_law 979 = .ok (.aload_n 0, 1) := db5_110.2.2.1
theorem dL_law_980 : decode cL_law 980 = .ok (.iload 4, 2) := db5_110.2.2.2.1
theorem dL_law_982 : decode cL_law 982 = .ok (.iconst 1, 1) := db5_110.2.2.2.2.1
theorem dL_law_983 : decode cL_law 983 = .ok (.iadd, 1) := db5_110.2.2.2.2.2.1
theorem dL_law_984 : decode cL_law 984 = .ok (.iaload, 1) := db5_110.2.2.2.2.2.2.1
theorem dL_law_985 : decode cL_law 985 = .ok (.aload_n 0, 1) := db5_110.2.2.2.2.2.2.2.1
theorem dL_law_986 : decode cL_law 986 = .ok (.iload 4, 2) := db5_110.2.2.2.2.2.2.2.2.1
theorem dL_law_988 : decode cL_law 988 = .ok (.iconst 2, 1) := db5_110.2.2.2.2.2.2.2.2.2.1
theorem dL_law_989 : decode cL_law 989 = .ok (.iadd, 1) := db5_110.2.2.2.2.2.2.2.2.2.2.1
theorem dL_law_990 : decode cL_law 990 = .ok (.iaload, 1) := db5_110.2.2.2.2.2.2.2.2.2.2.2.1
theorem dL_law_991 : decode cL_law 991 = .ok (.aload_n 0, 1) := db5_110.2.2.2.2.2.2.2.2.2.2.2.2.1
theorem dL_law_992 : decode cL_law 992 = .ok (.iload 4, 2) := db5_110.2.2.2.2.2.2.2.2.2.2.2.2.2.1
theorem dL_law_994 : decode cL_law 994 = .ok (.iconst 3, 1) := db5_110.2.2.2.2.2.2.2.2.2.2.2.2.2.2.1
theorem dL_law_995 : decode cL_law 995 = .ok (.iadd, 1) := db5_110.2.2.2.2.2.2.2.2.2.2.2.2.2.2.2
theorem db5_111 : (decode cL_law 996 = .ok (.iaload, 1)) ∧ (decode cL_law 997 = .ok (.invokevirtual 239, 3)) ∧ (decode cL_law 1000 = .ok (.istore 6, 2)) ∧ (decode cL_law 1002 = .ok (.goto 1358, 3)) ∧ (decode cL_law 1005 = .ok (.aload_n 1, 1)) ∧ (decode cL_law 1006 = .ok (.aload_n 0, 1)) ∧ (decode cL_law 1007 = .ok (.iload 4, 2)) ∧ (decode cL_law 1009 = .ok (.iconst 1, 1)) ∧ (decode cL_law 1010 = .ok (.iadd, 1)) ∧ (decode cL_law 1011 = .ok (.iaload, 1)) ∧ (decode cL_law 1012 = .ok (.aload_n 0, 1)) ∧ (decode cL_law 1013 = .ok (.iload 4, 2)) ∧ (decode cL_law 1015 = .ok (.iconst 2, 1)) ∧ (decode cL_law 1016 = .ok (.iadd, 1)) ∧ (decode cL_law 1017 = .ok (.iaload, 1)) ∧ (decode cL_law 1018 = .ok (.aload_n 3, 1)) := by decide +kernel
theorem dL_law_996 : decode cL_law 996 = .ok (.iaload, 1) := db5_111.1
theorem dL_law_997 : decode cL_law 997 = .ok (.invokevirtual 239, 3) := db5_111.2.1
theorem dL_law_1000 : decode cL_law 1000 = .ok (.istore 6, 2) := db5_111.2.2.1
theorem dL_law_1002 : decode cL_law 1002 = .ok (.goto 1358, 3) := db5_111.2.2.2.1
theorem dL_law_1005 : decode cL_law 1005 = .ok (.aload_n 1, 1) := db5_111.2.2.2.2.1
theorem dL_law_1006 : decode cL_law 1006 = .ok (.aload_n 0, 1) := db5_111.2.2.2.2.2.1
theorem dL_law_1007 : decode cL_law 1007 = .ok (.iload 4, 2) := db5_111.2.2.2.2.2.2.1
theorem dL_law_1009 : decode cL_law 1009 = .ok (.iconst 1, 1) := db5_111.2.2.2.2.2.2.2.1
theorem dL_law_1010 : decode cL_law 1010 = .ok (.iadd, 1) := db5_111.2.2.2.2.2.2.2.2.1
theorem dL_law_1011 : decode cL_law 1011 = .ok (.iaload, 1) := db5_111.2.2.2.2.2.2.2.2.2.1
theorem dL_law_1012 : decode cL_law 1012 = .ok (.aload_n 0, 1) := db5_111.2.2.2.2.2.2.2.2.2.2.1
theorem dL_law_1013 : decode cL_law 1013 = .ok (.iload 4, 2) := db5_111.2.2.2.2.2.2.2.2.2.2.2.1
theorem dL_law_1015 : decode cL_law 1015 = .ok (.iconst 2, 1) := db5_111.2.2.2.2.2.2.2.2.2.2.2.2.1
theorem dL_law_1016 : decode cL_law 1016 = .ok (.iadd, 1) := db5_111.2.2.2.2.2.2.2.2.2.2.2.2.2.1
theorem dL_law_1017 : decode cL_law 1017 = .ok (.iaload, 1) := db5_111.2.2.2.2.2.2.2.2.2.2.2.2.2.2.1
theorem dL_law_1018 : decode cL_law 1018 = .ok (.aload_n 3, 1) := db5_111.2.2.2.2.2.2.2.2.2.2.2.2.2.2.2
theorem db5_112 : (decode cL_law 1019 = .ok (.invokestatic 240, 3)) ∧ (decode cL_law 1022 = .ok (.istore 5, 2)) ∧ (decode cL_law 1024 = .ok (.aload_n 2, 1)) ∧ (decode cL_law 1025 = .ok (.aload_n 0, 1)) ∧ (decode cL_law 1026 = .ok (.iload 4, 2)) ∧ (decode cL_law 1028 = .ok (.iconst 1, 1)) ∧ (decode cL_law 1029 = .ok (.iadd, 1)) ∧ (decode cL_law 1030 = .ok (.iaload, 1)) ∧ (decode cL_law 1031 = .ok (.aload_n 0, 1)) ∧ (decode cL_law 1032 = .ok (.iload 4, 2)) ∧ (decode cL_law 1034 = .ok (.iconst 2, 1)) ∧ (decode cL_law 1035 = .ok (.iadd, 1)) ∧ (decode cL_law 1036 = .ok (.iaload, 1)) ∧ (decode cL_law 1037 = .ok (.invokevirtual 242, 3)) ∧ (decode cL_law 1040 = .ok (.istore 6, 2)) ∧ (decode cL_law 1042 = .ok (.goto 1318, 3)) := by decide +kernel
theorem dL_law_1019 : decode cL_law 1019 = .ok (.invokestatic 240, 3) := db5_112.1
theorem dL_law_1022 : decode cL_law 1022 = .ok (.istore 5, 2) := db5_112.2.1
theorem dL_law_1024 : decode cL_law 1024 = .ok (.aload_n 2, 1) := db5_112.2.2.1
theorem dL_law_1025 : decode cL_law 1025 = .ok (.aload_n 0, 1) := db5_112.2.2.2.1
theorem dL_law_1026 : decode cL_law 1026 = .ok (.iload 4, 2) := db5_112.2.2.2.2.1
theorem dL_law_1028 : decode cL_law 1028 = .ok (.iconst 1, 1) := db5_112.2.2.2.2.2.1
theorem dL_law_1029 : decode cL_law 1029 = .ok (.iadd, 1) := db5_112.2.2.2.2.2.2.1
theorem dL_law_1030 : decode cL_law 1030 = .ok (.iaload, 1) := db5_112.2.2.2.2.2.2.2.1
theorem dL_law_1031 : decode cL_law 1031 = .ok (.aload_n 0, 1) := db5_112.2.2.2.2.2.2.2.2.1
theorem dL_law_1032 : decode cL_law 1032 = .ok (.iload 4, 2) := db5_112.2.2.2.2.2.2.2.2.2.1
theorem dL_law_1034 : decode cL_law 1034 = .ok (.iconst 2, 1) := db5_112.2.2.2.2.2.2.2.2.2.2.1
theorem dL_law_1035 : decode cL_law 1035 = .ok (.iadd, 1) := db5_112.2.2.2.2.2.2.2.2.2.2.2.1
theorem dL_law_1036 : decode cL_law 1036 = .ok (.iaload, 1) := db5_112.2.2.2.2.2.2.2.2.2.2.2.2.1
theorem dL_law_1037 : decode cL_law 1037 = .ok (.invokevirtual 242, 3) := db5_112.2.2.2.2.2.2.2.2.2.2.2.2.2.1
theorem dL_law_1040 : decode cL_law 1040 = .ok (.istore 6, 2) := db5_112.2.2.2.2.2.2.2.2.2.2.2.2.2.2.1
theorem dL_law_1042 : decode cL_law 1042 = .ok (.goto 1318, 3) := db5_112.2.2.2.2.2.2.2.2.2.2.2.2.2.2.2
theorem db5_113 : (decode cL_law 1045 = .ok (.aload_n 1, 1)) ∧ (decode cL_law 1046 = .ok (.aload_n 0, 1)) ∧ (decode cL_law 1047 = .ok (.iload 4, 2)) ∧ (decode cL_law 1049 = .ok (.iconst 1, 1)) ∧ (decode cL_law 1050 = .ok (.iadd, 1)) ∧ (decode cL_law 1051 = .ok (.iaload, 1)) ∧ (decode cL_law 1052 = .ok (.aload_n 3, 1)) ∧ (decode cL_law 1053 = .ok (.invokestatic 243, 3)) ∧ (decode cL_law 1056 = .ok (.istore 5, 2)) ∧ (decode cL_law 1058 = .ok (.aload_n 2, 1)) ∧ (decode cL_law 1059 = .ok (.aload_n 0, 1)) ∧ (decode cL_law 1060 = .ok (.iload 4, 2)) ∧ (decode cL_law 1062 = .ok (.iconst 1, 1)) := by decide +kernel
theorem dL_law_1045 : decode cL_law 1045 = .ok (.aload_n 1, 1) := db5_113.1
theorem dL_law_1046 : decode cL_law 1046 = .ok (.aload_n 0, 1) := db5_113.2.1
theorem dL_law_1047 : decode cL_law 1047 = .ok (.iload 4, 2) := db5_113.2.2.1
theorem dL_law_1049 : decode cL_law 1049 = .ok (.iconst 1, 1) := db5_113.2.2.2.1
theorem dL_law_1050 : decode cL_law 1050 = .ok (.iadd, 1) := db5_113.2.2.2.2.1
theorem dL_law_1051 : decode cL_law 1051 = .ok (.iaload, 1) := db5_113.2.2.2.2.2.1
theorem dL_law_1052 : decode cL_law 1052 = .ok (.aload_n 3, 1) := db5_113.2.2.2.2.2.2.1
theorem dL_law_1053 : decode cL_law 1053 = .ok (.invokestatic 243, 3) := db5_113.2.2.2.2.2.2.2.1
theorem dL_law_1056 : decode cL_law 1056 = .ok (.istore 5, 2) := db5_113.2.2.2.2.2.2.2.2.1
theorem dL_law_1058 : decode cL_law 1058 = .ok (.aload_n 2, 1) := db5_113.2.2.2.2.2.2.2.2.2.1
theorem dL_law_1059 : decode cL_law 1059 = .ok (.aload_n 0, 1) := db5_113.2.2.2.2.2.2.2.2.2.2.1
theorem dL_law_1060 : decode cL_law 1060 = .ok (.iload 4, 2) := db5_113.2.2.2.2.2.2.2.2.2.2.2.1
theorem dL_law_1062 : decode cL_law 1062 = .ok (.iconst 1, 1) := db5_113.2.2.2.2.2.2.2.2.2.2.2.2
