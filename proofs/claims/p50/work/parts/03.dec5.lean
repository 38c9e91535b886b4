theorem dJ7_copyOf_6403c_39 : decode cJ7_copyOf_6403c 39 = .ok (.areturn, 1) := by decide +kernel
theorem dJ7_copyOf_9075b_0 : decode cJ7_copyOf_9075b 0 = .ok (.iload_n 1, 1) := by decide +kernel
theorem dJ7_copyOf_9075b_1 : decode cJ7_copyOf_9075b 1 = .ok (.aload_n 0, 1) := by decide +kernel
theorem dJ7_copyOf_9075b_2 : decode cJ7_copyOf_9075b 2 = .ok (.arraylength, 1) := by decide +kernel
theorem dJ7_copyOf_9075b_3 : decode cJ7_copyOf_9075b 3 = .ok (.if_icmp .ne 11, 3) := by decide +kernel
theorem dJ7_copyOf_9075b_6 : decode cJ7_copyOf_9075b 6 = .ok (.aload_n 0, 1) := by decide +kernel
theorem dJ7_copyOf_9075b_7 : decode cJ7_copyOf_9075b 7 = .ok (.invokevirtual 310, 3) := by decide +kernel
theorem dJ7_copyOf_9075b_10 : decode cJ7_copyOf_9075b 10 = .ok (.checkcast 311, 3) := by decide +kernel
theorem dJ7_copyOf_9075b_13 : decode cJ7_copyOf_9075b 13 = .ok (.areturn, 1) := by decide +kernel
theorem dJ7_copyOf_9075b_14 : decode cJ7_copyOf_9075b 14 = .ok (.iload_n 1, 1) := by decide +kernel
theorem dJ7_copyOf_9075b_15 : decode cJ7_copyOf_9075b 15 = .ok (.newarray .byte, 2) := by decide +kernel
theorem dJ7_copyOf_9075b_17 : decode cJ7_copyOf_9075b 17 = .ok (.astore_n 2, 1) := by decide +kernel
theorem dJ7_copyOf_9075b_18 : decode cJ7_copyOf_9075b 18 = .ok (.aload_n 0, 1) := by decide +kernel
theorem dJ7_copyOf_9075b_19 : decode cJ7_copyOf_9075b 19 = .ok (.iconst 0, 1) := by decide +kernel
theorem dJ7_copyOf_9075b_20 : decode cJ7_copyOf_9075b 20 = .ok (.aload_n 2, 1) := by decide +kernel
theorem dJ7_copyOf_9075b_21 : decode cJ7_copyOf_9075b 21 = .ok (.iconst 0, 1) := by decide +kernel
theorem dJ7_copyOf_9075b_22 : decode cJ7_copyOf_9075b 22 = .ok (.aload_n 0, 1) := by decide +kernel
theorem dJ7_copyOf_9075b_23 : decode cJ7_copyOf_9075b 23 = .ok (.arraylength, 1) := by decide +kernel
theorem dJ7_copyOf_9075b_24 : decode cJ7_copyOf_9075b 24 = .ok (.iload_n 1, 1) := by decide +kernel
theorem dJ7_copyOf_9075b_25 : decode cJ7_copyOf_9075b 25 = .ok (.invokestatic 304, 3) := by decide +kernel
theorem dJ7_copyOf_9075b_28 : decode cJ7_copyOf_9075b 28 = .ok (.invokestatic 150, 3) := by decide +kernel
theorem dJ7_copyOf_9075b_31 : decode cJ7_copyOf_9075b 31 = .ok (.aload_n 2, 1) := by decide +kernel
theorem dJ7_copyOf_9075b_32 : decode cJ7_copyOf_9075b 32 = .ok (.areturn, 1) := by decide +kernel
theorem dJ7_checkLength_df160_0 : decode cJ7_checkLength_df160 0 = .ok (.iload_n 1, 1) := by decide +kernel
theorem dJ7_checkLength_df160_1 : decode cJ7_checkLength_df160 1 = .ok (.iload_n 0, 1) := by decide +kernel
theorem dJ7_checkLength_df160_2 : decode cJ7_checkLength_df160 2 = .ok (.if_icmp .ge 35, 3) := by decide +kernel
theorem dJ7_checkLength_df160_5 : decode cJ7_checkLength_df160 5 = .ok (.new 43, 3) := by decide +kernel
theorem dJ7_checkLength_df160_8 : decode cJ7_checkLength_df160 8 = .ok (.dup, 1) := by decide +kernel
theorem dJ7_checkLength_df160_9 : decode cJ7_checkLength_df160 9 = .ok (.new 45, 3) := by decide +kernel
theorem dJ7_checkLength_df160_12 : decode cJ7_checkLength_df160 12 = .ok (.dup, 1) := by decide +kernel
theorem dJ7_checkLength_df160_13 : decode cJ7_checkLength_df160 13 = .ok (.invokespecial 47, 3) := by decide +kernel
theorem dJ7_checkLength_df160_16 : decode cJ7_checkLength_df160 16 = .ok (.iload_n 0, 1) := by decide +kernel
theorem dJ7_checkLength_df160_17 : decode cJ7_checkLength_df160 17 = .ok (.invokevirtual 54, 3) := by decide +kernel
theorem dJ7_checkLength_df160_20 : decode cJ7_checkLength_df160 20 = .ok (.ldc_w 337, 3) := by decide +kernel
theorem dJ7_checkLength_df160_23 : decode cJ7_checkLength_df160 23 = .ok (.invokevirtual 50, 3) := by decide +kernel
theorem dJ7_checkLength_df160_26 : decode cJ7_checkLength_df160 26 = .ok (.iload_n 1, 1) := by decide +kernel
theorem dJ7_checkLength_df160_27 : decode cJ7_checkLength_df160 27 = .ok (.invokevirtual 54, 3) := by decide +kernel
theorem dJ7_checkLength_df160_30 : decode cJ7_checkLength_df160 30 = .ok (.invokevirtual 61, 3) := by decide +kernel
theorem dJ7_checkLength_df160_33 : decode cJ7_checkLength_df160 33 = .ok (.invokespecial 65, 3) := by decide +kernel
theorem dJ7_checkLength_df160_36 : decode cJ7_checkLength_df160 36 = .ok (.athrow, 1) := by decide +kernel
theorem dJ7_checkLength_df160_37 : decode cJ7_checkLength_df160 37 = .ok (.return_, 1) := by decide +kernel
theorem dJ7_copyOfRange_39247_0 : decode cJ7_copyOfRange_39247 0 = .ok (.iload_n 1, 1) := by decide +kernel
theorem dJ7_copyOfRange_39247_1 : decode cJ7_copyOfRange_39247 1 = .ok (.ifCond .ne 9, 3) := by decide +kernel
theorem dJ7_copyOfRange_39247_4 : decode cJ7_copyOfRange_39247 4 = .ok (.iload_n 2, 1) := by decide +kernel
theorem dJ7_copyOfRange_39247_5 : decode cJ7_copyOfRange_39247 5 = .ok (.aload_n 0, 1) := by decide +kernel
theorem dJ7_copyOfRange_39247_6 : decode cJ7_copyOfRange_39247 6 = .ok (.arraylength, 1) := by decide +kernel
theorem dJ7_copyOfRange_39247_7 : decode cJ7_copyOfRange_39247 7 = .ok (.if_icmp .eq 10, 3) := by decide +kernel
theorem dJ7_copyOfRange_39247_10 : decode cJ7_copyOfRange_39247 10 = .ok (.aload_n 0, 1) := by decide +kernel
theorem dJ7_copyOfRange_39247_11 : decode cJ7_copyOfRange_39247 11 = .ok (.iload_n 1, 1) := by decide +kernel
theorem dJ7_copyOfRange_39247_12 : decode cJ7_copyOfRange_39247 12 = .ok (.iload_n 2, 1) := by decide +kernel
theorem dJ7_copyOfRange_39247_13 : decode cJ7_copyOfRange_39247 13 = .ok (.invokestatic 339, 3) := by decide +kernel
theorem dJ7_copyOfRange_39247_16 : decode cJ7_copyOfRange_39247 16 = .ok (.areturn, 1) := by decide +kernel
theorem dJ7_copyOfRange_39247_17 : decode cJ7_copyOfRange_39247 17 = .ok (.aload_n 0, 1) := by decide +kernel
theorem dJ7_copyOfRange_39247_18 : decode cJ7_copyOfRange_39247 18 = .ok (.invokevirtual 310, 3) := by decide +kernel
theorem dJ7_copyOfRange_39247_21 : decode cJ7_copyOfRange_39247 21 = .ok (.checkcast 311, 3) := by decide +kernel
theorem dJ7_copyOfRange_39247_24 : decode cJ7_copyOfRange_39247 24 = .ok (.areturn, 1) := by decide +kernel
theorem dJ7_copyOfRangeByte_39247_0 : decode cJ7_copyOfRangeByte_39247 0 = .ok (.iload_n 1, 1) := by decide +kernel
theorem dJ7_copyOfRangeByte_39247_1 : decode cJ7_copyOfRangeByte_39247 1 = .ok (.iload_n 2, 1) := by decide +kernel
theorem dJ7_copyOfRangeByte_39247_2 : decode cJ7_copyOfRangeByte_39247 2 = .ok (.invokestatic 343, 3) := by decide +kernel
theorem dJ7_copyOfRangeByte_39247_5 : decode cJ7_copyOfRangeByte_39247 5 = .ok (.iload_n 2, 1) := by decide +kernel
theorem dJ7_copyOfRangeByte_39247_6 : decode cJ7_copyOfRangeByte_39247 6 = .ok (.iload_n 1, 1) := by decide +kernel
theorem dJ7_copyOfRangeByte_39247_7 : decode cJ7_copyOfRangeByte_39247 7 = .ok (.isub, 1) := by decide +kernel
theorem dJ7_copyOfRangeByte_39247_8 : decode cJ7_copyOfRangeByte_39247 8 = .ok (.istore_n 3, 1) := by decide +kernel
theorem dJ7_copyOfRangeByte_39247_9 : decode cJ7_copyOfRangeByte_39247 9 = .ok (.iload_n 3, 1) := by decide +kernel
theorem dJ7_copyOfRangeByte_39247_10 : decode cJ7_copyOfRangeByte_39247 10 = .ok (.newarray .byte, 2) := by decide +kernel
theorem dJ7_copyOfRangeByte_39247_12 : decode cJ7_copyOfRangeByte_39247 12 = .ok (.astore 4, 2) := by decide +kernel
theorem dJ7_copyOfRangeByte_39247_14 : decode cJ7_copyOfRangeByte_39247 14 = .ok (.aload_n 0, 1) := by decide +kernel
theorem dJ7_copyOfRangeByte_39247_15 : decode cJ7_copyOfRangeByte_39247 15 = .ok (.iload_n 1, 1) := by decide +kernel
theorem dJ7_copyOfRangeByte_39247_16 : decode cJ7_copyOfRangeByte_39247 16 = .ok (.aload 4, 2) := by decide +kernel
theorem dJ7_copyOfRangeByte_39247_18 : decode cJ7_copyOfRangeByte_39247 18 = .ok (.iconst 0, 1) := by decide +kernel
theorem dJ7_copyOfRangeByte_39247_19 : decode cJ7_copyOfRangeByte_39247 19 = .ok (.aload_n 0, 1) := by decide +kernel
theorem dJ7_copyOfRangeByte_39247_20 : decode cJ7_copyOfRangeByte_39247 20 = .ok (.arraylength, 1) := by decide +kernel
theorem dJ7_copyOfRangeByte_39247_21 : decode cJ7_copyOfRangeByte_39247 21 = .ok (.iload_n 1, 1) := by decide +kernel
theorem dJ7_copyOfRangeByte_39247_22 : decode cJ7_copyOfRangeByte_39247 22 = .ok (.isub, 1) := by decide +kernel
theorem dJ7_copyOfRangeByte_39247_23 : decode cJ7_copyOfRangeByte_39247 23 = .ok (.iload_n 3, 1) := by decide +kernel
theorem dJ7_copyOfRangeByte_39247_24 : decode cJ7_copyOfRangeByte_39247 24 = .ok (.invokestatic 304, 3) := by decide +kernel
theorem dJ7_copyOfRangeByte_39247_27 : decode cJ7_copyOfRangeByte_39247 27 = .ok (.invokestatic 150, 3) := by decide +kernel
theorem dJ7_copyOfRangeByte_39247_30 : decode cJ7_copyOfRangeByte_39247 30 = .ok (.aload 4, 2) := by decide +kernel
theorem dJ7_copyOfRangeByte_39247_32 : decode cJ7_copyOfRangeByte_39247 32 = .ok (.areturn, 1) := by decide +kernel
theorem dJ15_checkIndex_7cf53_0 : decode cJ15_checkIndex_7cf53 0 = .ok (.iload_n 0, 1) := by decide +kernel
theorem dJ15_checkIndex_7cf53_1 : decode cJ15_checkIndex_7cf53 1 = .ok (.iload_n 1, 1) := by decide +kernel
theorem dJ15_checkIndex_7cf53_2 : decode cJ15_checkIndex_7cf53 2 = .ok (.aconst_null, 1) := by decide +kernel
theorem dJ15_checkIndex_7cf53_3 : decode cJ15_checkIndex_7cf53 3 = .ok (.invokestatic 105, 3) := by decide +kernel
theorem dJ15_checkIndex_7cf53_6 : decode cJ15_checkIndex_7cf53 6 = .ok (.ireturn, 1) := by decide +kernel
theorem dJ8_newLength_cabcc_0 : decode cJ8_newLength_cabcc 0 = .ok (.iload_n 0, 1) := by decide +kernel
theorem dJ8_newLength_cabcc_1 : decode cJ8_newLength_cabcc 1 = .ok (.iload_n 1, 1) := by decide +kernel
theorem dJ8_newLength_cabcc_2 : decode cJ8_newLength_cabcc 2 = .ok (.iload_n 2, 1) := by decide +kernel
theorem dJ8_newLength_cabcc_3 : decode cJ8_newLength_cabcc 3 = .ok (.invokestatic 194, 3) := by decide +kernel
theorem dJ8_newLength_cabcc_6 : decode cJ8_newLength_cabcc 6 = .ok (.iadd, 1) := by decide +kernel
theorem dJ8_newLength_cabcc_7 : decode cJ8_newLength_cabcc 7 = .ok (.istore_n 3, 1) := by decide +kernel
theorem dJ8_newLength_cabcc_8 : decode cJ8_newLength_cabcc 8 = .ok (.iconst 0, 1) := by decide +kernel
theorem dJ8_newLength_cabcc_9 : decode cJ8_newLength_cabcc 9 = .ok (.iload_n 3, 1) := by decide +kernel
theorem dJ8_newLength_cabcc_10 : decode cJ8_newLength_cabcc 10 = .ok (.if_icmp .ge 11, 3) := by decide +kernel
theorem dJ8_newLength_cabcc_13 : decode cJ8_newLength_cabcc 13 = .ok (.iload_n 3, 1) := by decide +kernel
theorem dJ8_newLength_cabcc_14 : decode cJ8_newLength_cabcc 14 = .ok (.ldc 200, 2) := by decide +kernel
theorem dJ8_newLength_cabcc_16 : decode cJ8_newLength_cabcc 16 = .ok (.if_icmp .gt 5, 3) := by decide +kernel
theorem dJ8_newLength_cabcc_19 : decode cJ8_newLength_cabcc 19 = .ok (.iload_n 3, 1) := by decide +kernel
theorem dJ8_newLength_cabcc_20 : decode cJ8_newLength_cabcc 20 = .ok (.ireturn, 1) := by decide +kernel
theorem dJ8_newLength_cabcc_21 : decode cJ8_newLength_cabcc 21 = .ok (.iload_n 0, 1) := by decide +kernel
theorem dJ8_newLength_cabcc_22 : decode cJ8_newLength_cabcc 22 = .ok (.iload_n 1, 1) := by decide +kernel
theorem dJ8_newLength_cabcc_23 : decode cJ8_newLength_cabcc 23 = .ok (.invokestatic 201, 3) := by decide +kernel
theorem dJ8_newLength_cabcc_26 : decode cJ8_newLength_cabcc 26 = .ok (.ireturn, 1) := by decide +kernel
theorem dJ8_hugeLength_7cf53_0 : decode cJ8_hugeLength_7cf53 0 = .ok (.iload_n 0, 1) := by decide +kernel
theorem dJ8_hugeLength_7cf53_1 : decode cJ8_hugeLength_7cf53 1 = .ok (.iload_n 1, 1) := by decide +kernel
theorem dJ8_hugeLength_7cf53_2 : decode cJ8_hugeLength_7cf53 2 = .ok (.iadd, 1) := by decide +kernel
theorem dJ8_hugeLength_7cf53_3 : decode cJ8_hugeLength_7cf53 3 = .ok (.istore_n 2, 1) := by decide +kernel
theorem dJ8_hugeLength_7cf53_4 : decode cJ8_hugeLength_7cf53 4 = .ok (.iload_n 2, 1) := by decide +kernel
theorem dJ8_hugeLength_7cf53_5 : decode cJ8_hugeLength_7cf53 5 = .ok (.ifCond .ge 44, 3) := by decide +kernel
theorem dJ8_hugeLength_7cf53_8 : decode cJ8_hugeLength_7cf53 8 = .ok (.new 204, 3) := by decide +kernel
theorem dJ8_hugeLength_7cf53_11 : decode cJ8_hugeLength_7cf53 11 = .ok (.dup, 1) := by decide +kernel
theorem dJ8_hugeLength_7cf53_12 : decode cJ8_hugeLength_7cf53 12 = .ok (.new 89, 3) := by decide +kernel
theorem dJ8_hugeLength_7cf53_15 : decode cJ8_hugeLength_7cf53 15 = .ok (.dup, 1) := by decide +kernel
theorem dJ8_hugeLength_7cf53_16 : decode cJ8_hugeLength_7cf53 16 = .ok (.invokespecial 91, 3) := by decide +kernel
theorem dJ8_hugeLength_7cf53_19 : decode cJ8_hugeLength_7cf53 19 = .ok (.ldc 206, 2) := by decide +kernel
theorem dJ8_hugeLength_7cf53_21 : decode cJ8_hugeLength_7cf53 21 = .ok (.invokevirtual 94, 3) := by decide +kernel
theorem dJ8_hugeLength_7cf53_24 : decode cJ8_hugeLength_7cf53 24 = .ok (.iload_n 0, 1) := by decide +kernel
theorem dJ8_hugeLength_7cf53_25 : decode cJ8_hugeLength_7cf53 25 = .ok (.invokevirtual 98, 3) := by decide +kernel
theorem dJ8_hugeLength_7cf53_28 : decode cJ8_hugeLength_7cf53 28 = .ok (.ldc 208, 2) := by decide +kernel
theorem dJ8_hugeLength_7cf53_30 : decode cJ8_hugeLength_7cf53 30 = .ok (.invokevirtual 94, 3) := by decide +kernel
theorem dJ8_hugeLength_7cf53_33 : decode cJ8_hugeLength_7cf53 33 = .ok (.iload_n 1, 1) := by decide +kernel
theorem dJ8_hugeLength_7cf53_34 : decode cJ8_hugeLength_7cf53 34 = .ok (.invokevirtual 98, 3) := by decide +kernel
theorem dJ8_hugeLength_7cf53_37 : decode cJ8_hugeLength_7cf53 37 = .ok (.ldc 210, 2) := by decide +kernel
theorem dJ8_hugeLength_7cf53_39 : decode cJ8_hugeLength_7cf53 39 = .ok (.invokevirtual 94, 3) := by decide +kernel
theorem dJ8_hugeLength_7cf53_42 : decode cJ8_hugeLength_7cf53 42 = .ok (.invokevirtual 101, 3) := by decide +kernel
theorem dJ8_hugeLength_7cf53_45 : decode cJ8_hugeLength_7cf53 45 = .ok (.invokespecial 212, 3) := by decide +kernel
theorem dJ8_hugeLength_7cf53_48 : decode cJ8_hugeLength_7cf53 48 = .ok (.athrow, 1) := by decide +kernel
theorem dJ8_hugeLength_7cf53_49 : decode cJ8_hugeLength_7cf53 49 = .ok (.iload_n 2, 1) := by decide +kernel
theorem dJ8_hugeLength_7cf53_50 : decode cJ8_hugeLength_7cf53 50 = .ok (.ldc 200, 2) := by decide +kernel
theorem dJ8_hugeLength_7cf53_52 : decode cJ8_hugeLength_7cf53 52 = .ok (.if_icmp .gt 6, 3) := by decide +kernel
theorem dJ8_hugeLength_7cf53_55 : decode cJ8_hugeLength_7cf53 55 = .ok (.ldc 200, 2) := by decide +kernel
theorem dJ8_hugeLength_7cf53_57 : decode cJ8_hugeLength_7cf53 57 = .ok (.ireturn, 1) := by decide +kernel
theorem dJ8_hugeLength_7cf53_58 : decode cJ8_hugeLength_7cf53 58 = .ok (.iload_n 2, 1) := by decide +kernel
theorem dJ8_hugeLength_7cf53_59 : decode cJ8_hugeLength_7cf53 59 = .ok (.ireturn, 1) := by decide +kernel
theorem dJ3_checkIndex_8e157_0 : decode cJ3_checkIndex_8e157 0 = .ok (.iload_n 0, 1) := by decide +kernel
theorem dJ3_checkIndex_8e157_1 : decode cJ3_checkIndex_8e157 1 = .ok (.ifCond .lt 8, 3) := by decide +kernel
theorem dJ3_checkIndex_8e157_4 : decode cJ3_checkIndex_8e157 4 = .ok (.iload_n 0, 1) := by decide +kernel
theorem dJ3_checkIndex_8e157_5 : decode cJ3_checkIndex_8e157 5 = .ok (.iload_n 1, 1) := by decide +kernel
theorem dJ3_checkIndex_8e157_6 : decode cJ3_checkIndex_8e157 6 = .ok (.if_icmp .lt 10, 3) := by decide +kernel
theorem dJ3_checkIndex_8e157_9 : decode cJ3_checkIndex_8e157 9 = .ok (.aload_n 2, 1) := by decide +kernel
theorem dJ3_checkIndex_8e157_10 : decode cJ3_checkIndex_8e157 10 = .ok (.iload_n 0, 1) := by decide +kernel
theorem dJ3_checkIndex_8e157_11 : decode cJ3_checkIndex_8e157 11 = .ok (.iload_n 1, 1) := by decide +kernel
theorem dJ3_checkIndex_8e157_12 : decode cJ3_checkIndex_8e157 12 = .ok (.invokestatic 95, 3) := by decide +kernel
theorem dJ3_checkIndex_8e157_15 : decode cJ3_checkIndex_8e157 15 = .ok (.athrow, 1) := by decide +kernel
theorem dJ3_checkIndex_8e157_16 : decode cJ3_checkIndex_8e157 16 = .ok (.iload_n 0, 1) := by decide +kernel
theorem dJ3_checkIndex_8e157_17 : decode cJ3_checkIndex_8e157 17 = .ok (.ireturn, 1) := by decide +kernel
theorem dJ3_checkFromToIndex_8c36e_0 : decode cJ3_checkFromToIndex_8c36e 0 = .ok (.iload_n 0, 1) := by decide +kernel
theorem dJ3_checkFromToIndex_8c36e_1 : decode cJ3_checkFromToIndex_8c36e 1 = .ok (.ifCond .lt 13, 3) := by decide +kernel
theorem dJ3_checkFromToIndex_8c36e_4 : decode cJ3_checkFromToIndex_8c36e 4 = .ok (.iload_n 0, 1) := by decide +kernel
theorem dJ3_checkFromToIndex_8c36e_5 : decode cJ3_checkFromToIndex_8c36e 5 = .ok (.iload_n 1, 1) := by decide +kernel
theorem dJ3_checkFromToIndex_8c36e_6 : decode cJ3_checkFromToIndex_8c36e 6 = .ok (.if_icmp .gt 8, 3) := by decide +kernel
theorem dJ3_checkFromToIndex_8c36e_9 : decode cJ3_checkFromToIndex_8c36e 9 = .ok (.iload_n 1, 1) := by decide +kernel
theorem dJ3_checkFromToIndex_8c36e_10 : decode cJ3_checkFromToIndex_8c36e 10 = .ok (.iload_n 2, 1) := by decide +kernel
theorem dJ3_checkFromToIndex_8c36e_11 : decode cJ3_checkFromToIndex_8c36e 11 = .ok (.if_icmp .le 11, 3) := by decide +kernel
theorem dJ3_checkFromToIndex_8c36e_14 : decode cJ3_checkFromToIndex_8c36e 14 = .ok (.aload_n 3, 1) := by decide +kernel
theorem dJ3_checkFromToIndex_8c36e_15 : decode cJ3_checkFromToIndex_8c36e 15 = .ok (.iload_n 0, 1) := by decide +kernel
theorem dJ3_checkFromToIndex_8c36e_16 : decode cJ3_checkFromToIndex_8c36e 16 = .ok (.iload_n 1, 1) := by decide +kernel
theorem dJ3_checkFromToIndex_8c36e_17 : decode cJ3_checkFromToIndex_8c36e 17 = .ok (.iload_n 2, 1) := by decide +kernel
theorem dJ3_checkFromToIndex_8c36e_18 : decode cJ3_checkFromToIndex_8c36e 18 = .ok (.invokestatic 99, 3) := by decide +kernel
theorem dJ3_checkFromToIndex_8c36e_21 : decode cJ3_checkFromToIndex_8c36e 21 = .ok (.athrow, 1) := by decide +kernel
theorem dJ3_checkFromToIndex_8c36e_22 : decode cJ3_checkFromToIndex_8c36e 22 = .ok (.iload_n 0, 1) := by decide +kernel
theorem dJ3_checkFromToIndex_8c36e_23 : decode cJ3_checkFromToIndex_8c36e 23 = .ok (.ireturn, 1) := by decide +kernel
theorem dJ3_checkFromIndexSize_8c36e_0 : decode cJ3_checkFromIndexSize_8c36e 0 = .ok (.iload_n 2, 1) := by decide +kernel
theorem dJ3_checkFromIndexSize_8c36e_1 : decode cJ3_checkFromIndexSize_8c36e 1 = .ok (.iload_n 0, 1) := by decide +kernel
theorem dJ3_checkFromIndexSize_8c36e_2 : decode cJ3_checkFromIndexSize_8c36e 2 = .ok (.ior, 1) := by decide +kernel
theorem dJ3_checkFromIndexSize_8c36e_3 : decode cJ3_checkFromIndexSize_8c36e 3 = .ok (.iload_n 1, 1) := by decide +kernel
theorem dJ3_checkFromIndexSize_8c36e_4 : decode cJ3_checkFromIndexSize_8c36e 4 = .ok (.ior, 1) := by decide +kernel
theorem dJ3_checkFromIndexSize_8c36e_5 : decode cJ3_checkFromIndexSize_8c36e 5 = .ok (.ifCond .lt 10, 3) := by decide +kernel
theorem dJ3_checkFromIndexSize_8c36e_8 : decode cJ3_checkFromIndexSize_8c36e 8 = .ok (.iload_n 1, 1) := by decide +kernel
theorem dJ3_checkFromIndexSize_8c36e_9 : decode cJ3_checkFromIndexSize_8c36e 9 = .ok (.iload_n 2, 1) := by decide +kernel
theorem dJ3_checkFromIndexSize_8c36e_10 : decode cJ3_checkFromIndexSize_8c36e 10 = .ok (.iload_n 0, 1) := by decide +kernel
theorem dJ3_checkFromIndexSize_8c36e_11 : decode cJ3_checkFromIndexSize_8c36e 11 = .ok (.isub, 1) := by decide +kernel
theorem dJ3_checkFromIndexSize_8c36e_12 : decode cJ3_checkFromIndexSize_8c36e 12 = .ok (.if_icmp .le 11, 3) := by decide +kernel
theorem dJ3_checkFromIndexSize_8c36e_15 : decode cJ3_checkFromIndexSize_8c36e 15 = .ok (.aload_n 3, 1) := by decide +kernel
theorem dJ3_checkFromIndexSize_8c36e_16 : decode cJ3_checkFromIndexSize_8c36e 16 = .ok (.iload_n 0, 1) := by decide +kernel
theorem dJ3_checkFromIndexSize_8c36e_17 : decode cJ3_checkFromIndexSize_8c36e 17 = .ok (.iload_n 1, 1) := by decide +kernel
theorem dJ3_checkFromIndexSize_8c36e_18 : decode cJ3_checkFromIndexSize_8c36e 18 = .ok (.iload_n 2, 1) := by decide +kernel
theorem dJ3_checkFromIndexSize_8c36e_19 : decode cJ3_checkFromIndexSize_8c36e 19 = .ok (.invokestatic 103, 3) := by decide +kernel
theorem dJ3_checkFromIndexSize_8c36e_22 : decode cJ3_checkFromIndexSize_8c36e 22 = .ok (.athrow, 1) := by decide +kernel
theorem dJ3_checkFromIndexSize_8c36e_23 : decode cJ3_checkFromIndexSize_8c36e 23 = .ok (.iload_n 0, 1) := by decide +kernel
theorem dJ3_checkFromIndexSize_8c36e_24 : decode cJ3_checkFromIndexSize_8c36e 24 = .ok (.ireturn, 1) := by decide +kernel
theorem dL_of_0 : decode cL_of 0 = .ok (.aload 5, 2) := by decide +kernel
theorem dL_of_2 : decode cL_of 2 = .ok (.aload_n 0, 1) := by decide +kernel
theorem dL_of_3 : decode cL_of 3 = .ok (.iload_n 1, 1) := by decide +kernel
theorem dL_of_4 : decode cL_of 4 = .ok (.iload_n 2, 1) := by decide +kernel
theorem dL_of_5 : decode cL_of 5 = .ok (.iload_n 3, 1) := by decide +kernel
theorem dL_of_6 : decode cL_of 6 = .ok (.iload 4, 2) := by decide +kernel
theorem dL_of_8 : decode cL_of 8 = .ok (.invokevirtual 7, 3) := by decide +kernel
theorem dL_of_11 : decode cL_of 11 = .ok (.i2l, 1) := by decide +kernel
theorem dL_of_12 : decode cL_of 12 = .ok (.putfield 13, 3) := by decide +kernel
theorem dL_of_15 : decode cL_of 15 = .ok (.goto 15, 3) := by decide +kernel
theorem dL_of_18 : decode cL_of 18 = .ok (.astore 6, 2) := by decide +kernel
theorem dL_of_20 : decode cL_of 20 = .ok (.iconst 1, 1) := by decide +kernel
theorem dL_of_21 : decode cL_of 21 = .ok (.ireturn, 1) := by decide +kernel
theorem dL_of_22 : decode cL_of 22 = .ok (.astore 6, 2) := by decide +kernel
theorem dL_of_24 : decode cL_of 24 = .ok (.iconst 2, 1) := by decide +kernel
theorem dL_of_25 : decode cL_of 25 = .ok (.ireturn, 1) := by decide +kernel
theorem dL_of_26 : decode cL_of 26 = .ok (.astore 6, 2) := by decide +kernel
theorem dL_of_28 : decode cL_of 28 = .ok (.iconst 3, 1) := by decide +kernel
theorem dL_of_29 : decode cL_of 29 = .ok (.ireturn, 1) := by decide +kernel
theorem dL_of_30 : decode cL_of 30 = .ok (.iconst 0, 1) := by decide +kernel
theorem dL_of_31 : decode cL_of 31 = .ok (.ireturn, 1) := by decide +kernel
theorem dL_ofDay_0 : decode cL_ofDay 0 = .ok (.aload_n 3, 1) := by decide +kernel
theorem dL_ofDay_1 : decode cL_ofDay 1 = .ok (.aload_n 0, 1) := by decide +kernel
theorem dL_ofDay_2 : decode cL_ofDay 2 = .ok (.iload_n 1, 1) := by decide +kernel
theorem dL_ofDay_3 : decode cL_ofDay 3 = .ok (.iload_n 2, 1) := by decide +kernel
theorem dL_ofDay_4 : decode cL_ofDay 4 = .ok (.invokevirtual 25, 3) := by decide +kernel
theorem dL_ofDay_7 : decode cL_ofDay 7 = .ok (.i2l, 1) := by decide +kernel
theorem dL_ofDay_8 : decode cL_ofDay 8 = .ok (.putfield 13, 3) := by decide +kernel
theorem dL_ofDay_11 : decode cL_ofDay 11 = .ok (.goto 11, 3) := by decide +kernel
theorem dL_ofDay_14 : decode cL_ofDay 14 = .ok (.astore 4, 2) := by decide +kernel
theorem dL_ofDay_16 : decode cL_ofDay 16 = .ok (.iconst 1, 1) := by decide +kernel
theorem dL_ofDay_17 : decode cL_ofDay 17 = .ok (.ireturn, 1) := by decide +kernel
theorem dL_ofDay_18 : decode cL_ofDay 18 = .ok (.astore 4, 2) := by decide +kernel
theorem dL_ofDay_20 : decode cL_ofDay 20 = .ok (.iconst 2, 1) := by decide +kernel
theorem dL_ofDay_21 : decode cL_ofDay 21 = .ok (.ireturn, 1) := by decide +kernel
theorem dL_ofDay_22 : decode cL_ofDay 22 = .ok (.iconst 0, 1) := by decide +kernel
theorem dL_ofDay_23 : decode cL_ofDay 23 = .ok (.ireturn, 1) := by decide +kernel
theorem dL_ofMonth_0 : decode cL_ofMonth 0 = .ok (.aload 4, 2) := by decide +kernel
theorem dL_ofMonth_2 : decode cL_ofMonth 2 = .ok (.aload_n 0, 1) := by decide +kernel
theorem dL_ofMonth_3 : decode cL_ofMonth 3 = .ok (.iload_n 1, 1) := by decide +kernel
theorem dL_ofMonth_4 : decode cL_ofMonth 4 = .ok (.iload_n 2, 1) := by decide +kernel
theorem dL_ofMonth_5 : decode cL_ofMonth 5 = .ok (.iload_n 3, 1) := by decide +kernel
theorem dL_ofMonth_6 : decode cL_ofMonth 6 = .ok (.invokevirtual 29, 3) := by decide +kernel
theorem dL_ofMonth_9 : decode cL_ofMonth 9 = .ok (.i2l, 1) := by decide +kernel
theorem dL_ofMonth_10 : decode cL_ofMonth 10 = .ok (.putfield 13, 3) := by decide +kernel
theorem dL_ofMonth_13 : decode cL_ofMonth 13 = .ok (.goto 11, 3) := by decide +kernel
theorem dL_ofMonth_16 : decode cL_ofMonth 16 = .ok (.astore 5, 2) := by decide +kernel
theorem dL_ofMonth_18 : decode cL_ofMonth 18 = .ok (.iconst 1, 1) := by decide +kernel
theorem dL_ofMonth_19 : decode cL_ofMonth 19 = .ok (.ireturn, 1) := by decide +kernel
theorem dL_ofMonth_20 : decode cL_ofMonth 20 = .ok (.astore 5, 2) := by decide +kernel
theorem dL_ofMonth_22 : decode cL_ofMonth 22 = .ok (.iconst 2, 1) := by decide +kernel
theorem dL_ofMonth_23 : decode cL_ofMonth 23 = .ok (.ireturn, 1) := by decide +kernel
theorem dL_ofMonth_24 : decode cL_ofMonth 24 = .ok (.iconst 0, 1) := by decide +kernel
theorem dL_ofMonth_25 : decode cL_ofMonth 25 = .ok (.ireturn, 1) := by decide +kernel
theorem dL_copy_0 : decode cL_copy 0 = .ok (.aload_n 3, 1) := by decide +kernel
theorem dL_copy_1 : decode cL_copy 1 = .ok (.aload_n 0, 1) := by decide +kernel
theorem dL_copy_2 : decode cL_copy 2 = .ok (.iload_n 1, 1) := by decide +kernel
theorem dL_copy_3 : decode cL_copy 3 = .ok (.iload_n 2, 1) := by decide +kernel
theorem dL_copy_4 : decode cL_copy 4 = .ok (.invokevirtual 33, 3) := by decide +kernel
theorem dL_copy_7 : decode cL_copy 7 = .ok (.i2l, 1) := by decide +kernel
theorem dL_copy_8 : decode cL_copy 8 = .ok (.putfield 13, 3) := by decide +kernel
theorem dL_copy_11 : decode cL_copy 11 = .ok (.goto 7, 3) := by decide +kernel
theorem dL_copy_14 : decode cL_copy 14 = .ok (.astore 4, 2) := by decide +kernel
theorem dL_copy_16 : decode cL_copy 16 = .ok (.iconst 1, 1) := by decide +kernel
theorem dL_copy_17 : decode cL_copy 17 = .ok (.ireturn, 1) := by decide +kernel
theorem dL_copy_18 : decode cL_copy 18 = .ok (.iconst 0, 1) := by decide +kernel
theorem dL_copy_19 : decode cL_copy 19 = .ok (.ireturn, 1) := by decide +kernel
theorem dL_first_0 : decode cL_first 0 = .ok (.aload_n 2, 1) := by decide +kernel
theorem dL_first_1 : decode cL_first 1 = .ok (.aload_n 0, 1) := by decide +kernel
theorem dL_first_2 : decode cL_first 2 = .ok (.iload_n 1, 1) := by decide +kernel
theorem dL_first_3 : decode cL_first 3 = .ok (.invokevirtual 36, 3) := by decide +kernel
theorem dL_first_6 : decode cL_first 6 = .ok (.i2l, 1) := by decide +kernel
theorem dL_first_7 : decode cL_first 7 = .ok (.putfield 13, 3) := by decide +kernel
theorem dL_first_10 : decode cL_first 10 = .ok (.goto 6, 3) := by decide +kernel
theorem dL_first_13 : decode cL_first 13 = .ok (.astore_n 3, 1) := by decide +kernel
theorem dL_first_14 : decode cL_first 14 = .ok (.iconst 1, 1) := by decide +kernel
theorem dL_first_15 : decode cL_first 15 = .ok (.ireturn, 1) := by decide +kernel
theorem dL_first_16 : decode cL_first 16 = .ok (.iconst 0, 1) := by decide +kernel
theorem dL_first_17 : decode cL_first 17 = .ok (.ireturn, 1) := by decide +kernel
theorem dL_last_0 : decode cL_last 0 = .ok (.aload_n 2, 1) := by decide +kernel
theorem dL_last_1 : decode cL_last 1 = .ok (.aload_n 0, 1) := by decide +kernel
theorem dL_last_2 : decode cL_last 2 = .ok (.iload_n 1, 1) := by decide +kernel
theorem dL_last_3 : decode cL_last 3 = .ok (.invokevirtual 40, 3) := by decide +kernel
theorem dL_last_6 : decode cL_last 6 = .ok (.i2l, 1) := by decide +kernel
theorem dL_last_7 : decode cL_last 7 = .ok (.putfield 13, 3) := by decide +kernel
theorem dL_last_10 : decode cL_last 10 = .ok (.goto 6, 3) := by decide +kernel
theorem dL_last_13 : decode cL_last 13 = .ok (.astore_n 3, 1) := by decide +kernel
theorem dL_last_14 : decode cL_last 14 = .ok (.iconst 1, 1) := by decide +kernel
theorem dL_last_15 : decode cL_last 15 = .ok (.ireturn, 1) := by decide +kernel
theorem dL_last_16 : decode cL_last 16 = .ok (.iconst 0, 1) := by decide +kernel
theorem dL_last_17 : decode cL_last 17 = .ok (.ireturn, 1) := by decide +kernel
theorem dL_withDay_0 : decode cL_withDay 0 = .ok (.aload_n 3, 1) := by decide +kernel
theorem dL_withDay_1 : decode cL_withDay 1 = .ok (.aload_n 0, 1) := by decide +kernel
theorem dL_withDay_2 : decode cL_withDay 2 = .ok (.iload_n 1, 1) := by decide +kernel
theorem dL_withDay_3 : decode cL_withDay 3 = .ok (.iload_n 2, 1) := by decide +kernel
theorem dL_withDay_4 : decode cL_withDay 4 = .ok (.invokevirtual 43, 3) := by decide +kernel
theorem dL_withDay_7 : decode cL_withDay 7 = .ok (.i2l, 1) := by decide +kernel
theorem dL_withDay_8 : decode cL_withDay 8 = .ok (.putfield 13, 3) := by decide +kernel
theorem dL_withDay_11 : decode cL_withDay 11 = .ok (.goto 15, 3) := by decide +kernel
theorem dL_withDay_14 : decode cL_withDay 14 = .ok (.astore 4, 2) := by decide +kernel
theorem dL_withDay_16 : decode cL_withDay 16 = .ok (.iconst 1, 1) := by decide +kernel
theorem dL_withDay_17 : decode cL_withDay 17 = .ok (.ireturn, 1) := by decide +kernel
theorem dL_withDay_18 : decode cL_withDay 18 = .ok (.astore 4, 2) := by decide +kernel
theorem dL_withDay_20 : decode cL_withDay 20 = .ok (.iconst 2, 1) := by decide +kernel
theorem dL_withDay_21 : decode cL_withDay 21 = .ok (.ireturn, 1) := by decide +kernel
theorem dL_withDay_22 : decode cL_withDay 22 = .ok (.astore 4, 2) := by decide +kernel
theorem dL_withDay_24 : decode cL_withDay 24 = .ok (.iconst 3, 1) := by decide +kernel
theorem dL_withDay_25 : decode cL_withDay 25 = .ok (.ireturn, 1) := by decide +kernel
theorem dL_withDay_26 : decode cL_withDay 26 = .ok (.iconst 0, 1) := by decide +kernel
theorem dL_withDay_27 : decode cL_withDay 27 = .ok (.ireturn, 1) := by decide +kernel
theorem dL_shift_0 : decode cL_shift 0 = .ok (.aload_n 3, 1) := by decide +kernel
theorem dL_shift_1 : decode cL_shift 1 = .ok (.aload_n 0, 1) := by decide +kernel
theorem dL_shift_2 : decode cL_shift 2 = .ok (.iload_n 1, 1) := by decide +kernel
theorem dL_shift_3 : decode cL_shift 3 = .ok (.iload_n 2, 1) := by decide +kernel
theorem dL_shift_4 : decode cL_shift 4 = .ok (.invokevirtual 46, 3) := by decide +kernel
theorem dL_shift_7 : decode cL_shift 7 = .ok (.i2l, 1) := by decide +kernel
theorem dL_shift_8 : decode cL_shift 8 = .ok (.putfield 13, 3) := by decide +kernel
theorem dL_shift_11 : decode cL_shift 11 = .ok (.goto 15, 3) := by decide +kernel
theorem dL_shift_14 : decode cL_shift 14 = .ok (.astore 4, 2) := by decide +kernel
theorem dL_shift_16 : decode cL_shift 16 = .ok (.iconst 1, 1) := by decide +kernel
theorem dL_shift_17 : decode cL_shift 17 = .ok (.ireturn, 1) := by decide +kernel
theorem dL_shift_18 : decode cL_shift 18 = .ok (.astore 4, 2) := by decide +kernel
theorem dL_shift_20 : decode cL_shift 20 = .ok (.iconst 2, 1) := by decide +kernel
theorem dL_shift_21 : decode cL_shift 21 = .ok (.ireturn, 1) := by decide +kernel
theorem dL_shift_22 : decode cL_shift 22 = .ok (.astore 4, 2) := by decide +kernel
theorem dL_shift_24 : decode cL_shift 24 = .ok (.iconst 3, 1) := by decide +kernel
theorem dL_shift_25 : decode cL_shift 25 = .ok (.ireturn, 1) := by decide +kernel
theorem dL_shift_26 : decode cL_shift 26 = .ok (.iconst 0, 1) := by decide +kernel
theorem dL_shift_27 : decode cL_shift 27 = .ok (.ireturn, 1) := by decide +kernel
theorem dL_shiftYears_0 : decode cL_shiftYears 0 = .ok (.aload_n 3, 1) := by decide +kernel
theorem dL_shiftYears_1 : decode cL_shiftYears 1 = .ok (.aload_n 0, 1) := by decide +kernel
theorem dL_shiftYears_2 : decode cL_shiftYears 2 = .ok (.iload_n 1, 1) := by decide +kernel
theorem dL_shiftYears_3 : decode cL_shiftYears 3 = .ok (.iload_n 2, 1) := by decide +kernel
theorem dL_shiftYears_4 : decode cL_shiftYears 4 = .ok (.invokevirtual 49, 3) := by decide +kernel
theorem dL_shiftYears_7 : decode cL_shiftYears 7 = .ok (.i2l, 1) := by decide +kernel
theorem dL_shiftYears_8 : decode cL_shiftYears 8 = .ok (.putfield 13, 3) := by decide +kernel
theorem dL_shiftYears_11 : decode cL_shiftYears 11 = .ok (.goto 15, 3) := by decide +kernel
theorem dL_shiftYears_14 : decode cL_shiftYears 14 = .ok (.astore 4, 2) := by decide +kernel
theorem dL_shiftYears_16 : decode cL_shiftYears 16 = .ok (.iconst 1, 1) := by decide +kernel
theorem dL_shiftYears_17 : decode cL_shiftYears 17 = .ok (.ireturn, 1) := by decide +kernel
theorem dL_shiftYears_18 : decode cL_shiftYears 18 = .ok (.astore 4, 2) := by decide +kernel
theorem dL_shiftYears_20 : decode cL_shiftYears 20 = .ok (.iconst 2, 1) := by decide +kernel
theorem dL_shiftYears_21 : decode cL_shiftYears 21 = .ok (.ireturn, 1) := by decide +kernel
theorem dL_shiftYears_22 : decode cL_shiftYears 22 = .ok (.astore 4, 2) := by decide +kernel
theorem dL_shiftYears_24 : decode cL_shiftYears 24 = .ok (.iconst 3, 1) := by decide +kernel
theorem dL_shiftYears_25 : decode cL_shiftYears 25 = .ok (.ireturn, 1) := by decide +kernel
theorem dL_shiftYears_26 : decode cL_shiftYears 26 = .ok (.iconst 0, 1) := by decide +kernel
theorem dL_shiftYears_27 : decode cL_shiftYears 27 = .ok (.ireturn, 1) := by decide +kernel
theorem dL_days_0 : decode cL_days 0 = .ok (.aload_n 3, 1) := by decide +kernel
theorem dL_days_1 : decode cL_days 1 = .ok (.aload_n 0, 1) := by decide +kernel
theorem dL_days_2 : decode cL_days 2 = .ok (.iload_n 1, 1) := by decide +kernel
theorem dL_days_3 : decode cL_days 3 = .ok (.iload_n 2, 1) := by decide +kernel
theorem dL_days_4 : decode cL_days 4 = .ok (.invokevirtual 52, 3) := by decide +kernel
theorem dL_days_7 : decode cL_days 7 = .ok (.i2l, 1) := by decide +kernel
theorem dL_days_8 : decode cL_days 8 = .ok (.putfield 13, 3) := by decide +kernel
theorem dL_days_11 : decode cL_days 11 = .ok (.goto 15, 3) := by decide +kernel
theorem dL_days_14 : decode cL_days 14 = .ok (.astore 4, 2) := by decide +kernel
theorem dL_days_16 : decode cL_days 16 = .ok (.iconst 1, 1) := by decide +kernel
theorem dL_days_17 : decode cL_days 17 = .ok (.ireturn, 1) := by decide +kernel
theorem dL_days_18 : decode cL_days 18 = .ok (.astore 4, 2) := by decide +kernel
theorem dL_days_20 : decode cL_days 20 = .ok (.iconst 2, 1) := by decide +kernel
theorem dL_days_21 : decode cL_days 21 = .ok (.ireturn, 1) := by decide +kernel
theorem dL_days_22 : decode cL_days 22 = .ok (.astore 4, 2) := by decide +kernel
theorem dL_days_24 : decode cL_days 24 = .ok (.iconst 3, 1) := by decide +kernel
theorem dL_days_25 : decode cL_days 25 = .ok (.ireturn, 1) := by decide +kernel
theorem dL_days_26 : decode cL_days 26 = .ok (.iconst 0, 1) := by decide +kernel
theorem dL_days_27 : decode cL_days 27 = .ok (.ireturn, 1) := by decide +kernel
theorem dL_cycles_0 : decode cL_cycles 0 = .ok (.aload_n 3, 1) := by decide +kernel
theorem dL_cycles_1 : decode cL_cycles 1 = .ok (.aload_n 0, 1) := by decide +kernel
theorem dL_cycles_2 : decode cL_cycles 2 = .ok (.iload_n 1, 1) := by decide +kernel
theorem dL_cycles_3 : decode cL_cycles 3 = .ok (.iload_n 2, 1) := by decide +kernel
theorem dL_cycles_4 : decode cL_cycles 4 = .ok (.invokevirtual 55, 3) := by decide +kernel
theorem dL_cycles_7 : decode cL_cycles 7 = .ok (.i2l, 1) := by decide +kernel
theorem dL_cycles_8 : decode cL_cycles 8 = .ok (.putfield 13, 3) := by decide +kernel
theorem dL_cycles_11 : decode cL_cycles 11 = .ok (.goto 15, 3) := by decide +kernel
theorem dL_cycles_14 : decode cL_cycles 14 = .ok (.astore 4, 2) := by decide +kernel
theorem dL_cycles_16 : decode cL_cycles 16 = .ok (.iconst 1, 1) := by decide +kernel
theorem dL_cycles_17 : decode cL_cycles 17 = .ok (.ireturn, 1) := by decide +kernel
theorem dL_cycles_18 : decode cL_cycles 18 = .ok (.astore 4, 2) := by decide +kernel
theorem dL_cycles_20 : decode cL_cycles 20 = .ok (.iconst 2, 1) := by decide +kernel
theorem dL_cycles_21 : decode cL_cycles 21 = .ok (.ireturn, 1) := by decide +kernel
theorem dL_cycles_22 : decode cL_cycles 22 = .ok (.astore 4, 2) := by decide +kernel
theorem dL_cycles_24 : decode cL_cycles 24 = .ok (.iconst 3, 1) := by decide +kernel
theorem dL_cycles_25 : decode cL_cycles 25 = .ok (.ireturn, 1) := by decide +kernel
theorem dL_cycles_26 : decode cL_cycles 26 = .ok (.iconst 0, 1) := by decide +kernel
theorem dL_cycles_27 : decode cL_cycles 27 = .ok (.ireturn, 1) := by decide +kernel
theorem dL_act_0 : decode cL_act 0 = .ok (.aload 5, 2) := by decide +kernel
theorem dL_act_2 : decode cL_act 2 = .ok (.aload_n 0, 1) := by decide +kernel
theorem dL_act_3 : decode cL_act 3 = .ok (.iload_n 1, 1) := by decide +kernel
theorem dL_act_4 : decode cL_act 4 = .ok (.iload_n 2, 1) := by decide +kernel
theorem dL_act_5 : decode cL_act 5 = .ok (.iload_n 3, 1) := by decide +kernel
theorem dL_act_6 : decode cL_act 6 = .ok (.iload 4, 2) := by decide +kernel
theorem dL_act_8 : decode cL_act 8 = .ok (.invokevirtual 58, 3) := by decide +kernel
theorem dL_act_11 : decode cL_act 11 = .ok (.i2l, 1) := by decide +kernel
theorem dL_act_12 : decode cL_act 12 = .ok (.putfield 13, 3) := by decide +kernel
theorem dL_act_15 : decode cL_act 15 = .ok (.goto 11, 3) := by decide +kernel
theorem dL_act_18 : decode cL_act 18 = .ok (.astore 6, 2) := by decide +kernel
theorem dL_act_20 : decode cL_act 20 = .ok (.iconst 1, 1) := by decide +kernel
theorem dL_act_21 : decode cL_act 21 = .ok (.ireturn, 1) := by decide +kernel
theorem dL_act_22 : decode cL_act 22 = .ok (.astore 6, 2) := by decide +kernel
theorem dL_act_24 : decode cL_act 24 = .ok (.iconst 2, 1) := by decide +kernel
theorem dL_act_25 : decode cL_act 25 = .ok (.ireturn, 1) := by decide +kernel
theorem dL_act_26 : decode cL_act 26 = .ok (.iconst 0, 1) := by decide +kernel
theorem dL_act_27 : decode cL_act 27 = .ok (.ireturn, 1) := by decide +kernel
theorem dL_actOften_0 : decode cL_actOften 0 = .ok (.aload 4, 2) := by decide +kernel
theorem dL_actOften_2 : decode cL_actOften 2 = .ok (.aload_n 0, 1) := by decide +kernel
theorem dL_actOften_3 : decode cL_actOften 3 = .ok (.iload_n 1, 1) := by decide +kernel
theorem dL_actOften_4 : decode cL_actOften 4 = .ok (.iload_n 2, 1) := by decide +kernel
theorem dL_actOften_5 : decode cL_actOften 5 = .ok (.iload_n 3, 1) := by decide +kernel
theorem dL_actOften_6 : decode cL_actOften 6 = .ok (.invokevirtual 62, 3) := by decide +kernel
theorem dL_actOften_9 : decode cL_actOften 9 = .ok (.i2l, 1) := by decide +kernel
theorem dL_actOften_10 : decode cL_actOften 10 = .ok (.putfield 13, 3) := by decide +kernel
theorem dL_actOften_13 : decode cL_actOften 13 = .ok (.goto 15, 3) := by decide +kernel
theorem dL_actOften_16 : decode cL_actOften 16 = .ok (.astore 5, 2) := by decide +kernel
theorem dL_actOften_18 : decode cL_actOften 18 = .ok (.iconst 1, 1) := by decide +kernel
theorem dL_actOften_19 : decode cL_actOften 19 = .ok (.ireturn, 1) := by decide +kernel
theorem dL_actOften_20 : decode cL_actOften 20 = .ok (.astore 5, 2) := by decide +kernel
theorem dL_actOften_22 : decode cL_actOften 22 = .ok (.iconst 2, 1) := by decide +kernel
theorem dL_actOften_23 : decode cL_actOften 23 = .ok (.ireturn, 1) := by decide +kernel
theorem dL_actOften_24 : decode cL_actOften 24 = .ok (.astore 5, 2) := by decide +kernel
theorem dL_actOften_26 : decode cL_actOften 26 = .ok (.iconst 3, 1) := by decide +kernel
theorem dL_actOften_27 : decode cL_actOften 27 = .ok (.ireturn, 1) := by decide +kernel
theorem dL_actOften_28 : decode cL_actOften 28 = .ok (.iconst 0, 1) := by decide +kernel
theorem dL_actOften_29 : decode cL_actOften 29 = .ok (.ireturn, 1) := by decide +kernel
theorem dL_span_0 : decode cL_span 0 = .ok (.aload 5, 2) := by decide +kernel
theorem dL_span_2 : decode cL_span 2 = .ok (.aload_n 0, 1) := by decide +kernel
theorem dL_span_3 : decode cL_span 3 = .ok (.iload_n 1, 1) := by decide +kernel
theorem dL_span_4 : decode cL_span 4 = .ok (.iload_n 2, 1) := by decide +kernel
theorem dL_span_5 : decode cL_span 5 = .ok (.iload_n 3, 1) := by decide +kernel
theorem dL_span_6 : decode cL_span 6 = .ok (.iload 4, 2) := by decide +kernel
theorem dL_span_8 : decode cL_span 8 = .ok (.invokevirtual 65, 3) := by decide +kernel
theorem dL_span_11 : decode cL_span 11 = .ok (.i2l, 1) := by decide +kernel
theorem dL_span_12 : decode cL_span 12 = .ok (.putfield 13, 3) := by decide +kernel
theorem dL_span_15 : decode cL_span 15 = .ok (.goto 11, 3) := by decide +kernel
theorem dL_span_18 : decode cL_span 18 = .ok (.astore 6, 2) := by decide +kernel
theorem dL_span_20 : decode cL_span 20 = .ok (.iconst 1, 1) := by decide +kernel
theorem dL_span_21 : decode cL_span 21 = .ok (.ireturn, 1) := by decide +kernel
theorem dL_span_22 : decode cL_span 22 = .ok (.astore 6, 2) := by decide +kernel
theorem dL_span_24 : decode cL_span 24 = .ok (.iconst 2, 1) := by decide +kernel
theorem dL_span_25 : decode cL_span 25 = .ok (.ireturn, 1) := by decide +kernel
theorem dL_span_26 : decode cL_span 26 = .ok (.iconst 0, 1) := by decide +kernel
theorem dL_span_27 : decode cL_span 27 = .ok (.ireturn, 1) := by decide +kernel
theorem dL_until_0 : decode cL_until 0 = .ok (.aload 4, 2) := by decide +kernel
theorem dL_until_2 : decode cL_until 2 = .ok (.aload_n 0, 1) := by decide +kernel
theorem dL_until_3 : decode cL_until 3 = .ok (.iload_n 1, 1) := by decide +kernel
theorem dL_until_4 : decode cL_until 4 = .ok (.iload_n 2, 1) := by decide +kernel
theorem dL_until_5 : decode cL_until 5 = .ok (.iload_n 3, 1) := by decide +kernel
theorem dL_until_6 : decode cL_until 6 = .ok (.invokevirtual 68, 3) := by decide +kernel
theorem dL_until_9 : decode cL_until 9 = .ok (.i2l, 1) := by decide +kernel
theorem dL_until_10 : decode cL_until 10 = .ok (.putfield 13, 3) := by decide +kernel
theorem dL_until_13 : decode cL_until 13 = .ok (.goto 11, 3) := by decide +kernel
theorem dL_until_16 : decode cL_until 16 = .ok (.astore 5, 2) := by decide +kernel
theorem dL_until_18 : decode cL_until 18 = .ok (.iconst 1, 1) := by decide +kernel
theorem dL_until_19 : decode cL_until 19 = .ok (.ireturn, 1) := by decide +kernel
theorem dL_until_20 : decode cL_until 20 = .ok (.astore 5, 2) := by decide +kernel
theorem dL_until_22 : decode cL_until 22 = .ok (.iconst 2, 1) := by decide +kernel
theorem dL_until_23 : decode cL_until 23 = .ok (.ireturn, 1) := by decide +kernel
theorem dL_until_24 : decode cL_until 24 = .ok (.iconst 0, 1) := by decide +kernel
theorem dL_until_25 : decode cL_until 25 = .ok (.ireturn, 1) := by decide +kernel
theorem dL_addSpan_0 : decode cL_addSpan 0 = .ok (.aload_n 3, 1) := by decide +kernel
theorem dL_addSpan_1 : decode cL_addSpan 1 = .ok (.aload_n 0, 1) := by decide +kernel
theorem dL_addSpan_2 : decode cL_addSpan 2 = .ok (.iload_n 1, 1) := by decide +kernel
theorem dL_addSpan_3 : decode cL_addSpan 3 = .ok (.iload_n 2, 1) := by decide +kernel
theorem dL_addSpan_4 : decode cL_addSpan 4 = .ok (.invokevirtual 71, 3) := by decide +kernel
theorem dL_addSpan_7 : decode cL_addSpan 7 = .ok (.i2l, 1) := by decide +kernel
theorem dL_addSpan_8 : decode cL_addSpan 8 = .ok (.putfield 13, 3) := by decide +kernel
theorem dL_addSpan_11 : decode cL_addSpan 11 = .ok (.goto 11, 3) := by decide +kernel
theorem dL_addSpan_14 : decode cL_addSpan 14 = .ok (.astore 4, 2) := by decide +kernel
theorem dL_addSpan_16 : decode cL_addSpan 16 = .ok (.iconst 1, 1) := by decide +kernel
theorem dL_addSpan_17 : decode cL_addSpan 17 = .ok (.ireturn, 1) := by decide +kernel
theorem dL_addSpan_18 : decode cL_addSpan 18 = .ok (.astore 4, 2) := by decide +kernel
theorem dL_addSpan_20 : decode cL_addSpan 20 = .ok (.iconst 2, 1) := by decide +kernel
theorem dL_addSpan_21 : decode cL_addSpan 21 = .ok (.ireturn, 1) := by decide +kernel
theorem dL_addSpan_22 : decode cL_addSpan 22 = .ok (.iconst 0, 1) := by decide +kernel
theorem dL_addSpan_23 : decode cL_addSpan 23 = .ok (.ireturn, 1) := by decide +kernel
theorem dL_turnSpan_0 : decode cL_turnSpan 0 = .ok (.aload_n 2, 1) := by decide +kernel
theorem dL_turnSpan_1 : decode cL_turnSpan 1 = .ok (.aload_n 0, 1) := by decide +kernel
theorem dL_turnSpan_2 : decode cL_turnSpan 2 = .ok (.iload_n 1, 1) := by decide +kernel
theorem dL_turnSpan_3 : decode cL_turnSpan 3 = .ok (.invokevirtual 74, 3) := by decide +kernel
theorem dL_turnSpan_6 : decode cL_turnSpan 6 = .ok (.i2l, 1) := by decide +kernel
theorem dL_turnSpan_7 : decode cL_turnSpan 7 = .ok (.putfield 13, 3) := by decide +kernel
theorem dL_turnSpan_10 : decode cL_turnSpan 10 = .ok (.goto 6, 3) := by decide +kernel
theorem dL_turnSpan_13 : decode cL_turnSpan 13 = .ok (.astore_n 3, 1) := by decide +kernel
theorem dL_turnSpan_14 : decode cL_turnSpan 14 = .ok (.iconst 1, 1) := by decide +kernel
theorem dL_turnSpan_15 : decode cL_turnSpan 15 = .ok (.ireturn, 1) := by decide +kernel
theorem dL_turnSpan_16 : decode cL_turnSpan 16 = .ok (.iconst 0, 1) := by decide +kernel
theorem dL_turnSpan_17 : decode cL_turnSpan 17 = .ok (.ireturn, 1) := by decide +kernel
theorem dL_ofSpan_0 : decode cL_ofSpan 0 = .ok (.aload_n 3, 1) := by decide +kernel
theorem dL_ofSpan_1 : decode cL_ofSpan 1 = .ok (.aload_n 0, 1) := by decide +kernel
theorem dL_ofSpan_2 : decode cL_ofSpan 2 = .ok (.iload_n 1, 1) := by decide +kernel
theorem dL_ofSpan_3 : decode cL_ofSpan 3 = .ok (.iload_n 2, 1) := by decide +kernel
theorem dL_ofSpan_4 : decode cL_ofSpan 4 = .ok (.invokevirtual 77, 3) := by decide +kernel
theorem dL_ofSpan_7 : decode cL_ofSpan 7 = .ok (.i2l, 1) := by decide +kernel
theorem dL_ofSpan_8 : decode cL_ofSpan 8 = .ok (.putfield 13, 3) := by decide +kernel
theorem dL_ofSpan_11 : decode cL_ofSpan 11 = .ok (.goto 11, 3) := by decide +kernel
theorem dL_ofSpan_14 : decode cL_ofSpan 14 = .ok (.astore 4, 2) := by decide +kernel
theorem dL_ofSpan_16 : decode cL_ofSpan 16 = .ok (.iconst 1, 1) := by decide +kernel
theorem dL_ofSpan_17 : decode cL_ofSpan 17 = .ok (.ireturn, 1) := by decide +kernel
theorem dL_ofSpan_18 : decode cL_ofSpan 18 = .ok (.astore 4, 2) := by decide +kernel
theorem dL_ofSpan_20 : decode cL_ofSpan 20 = .ok (.iconst 2, 1) := by decide +kernel
theorem dL_ofSpan_21 : decode cL_ofSpan 21 = .ok (.ireturn, 1) := by decide +kernel
theorem dL_ofSpan_22 : decode cL_ofSpan 22 = .ok (.iconst 0, 1) := by decide +kernel
theorem dL_ofSpan_23 : decode cL_ofSpan 23 = .ok (.ireturn, 1) := by decide +kernel
theorem dL_isKept_0 : decode cL_isKept 0 = .ok (.aload_n 3, 1) := by decide +kernel
theorem dL_isKept_1 : decode cL_isKept 1 = .ok (.aload_n 0, 1) := by decide +kernel
theorem dL_isKept_2 : decode cL_isKept 2 = .ok (.iload_n 1, 1) := by decide +kernel
theorem dL_isKept_3 : decode cL_isKept 3 = .ok (.iload_n 2, 1) := by decide +kernel
theorem dL_isKept_4 : decode cL_isKept 4 = .ok (.invokevirtual 80, 3) := by decide +kernel
theorem dL_isKept_7 : decode cL_isKept 7 = .ok (.ifCond .eq 7, 3) := by decide +kernel
theorem dL_isKept_10 : decode cL_isKept 10 = .ok (.lconst 1, 1) := by decide +kernel
theorem dL_isKept_11 : decode cL_isKept 11 = .ok (.goto 4, 3) := by decide +kernel
theorem dL_isKept_14 : decode cL_isKept 14 = .ok (.lconst 0, 1) := by decide +kernel
theorem dL_isKept_15 : decode cL_isKept 15 = .ok (.putfield 13, 3) := by decide +kernel
theorem dL_isKept_18 : decode cL_isKept 18 = .ok (.goto 11, 3) := by decide +kernel
theorem dL_isKept_21 : decode cL_isKept 21 = .ok (.astore 4, 2) := by decide +kernel
theorem dL_isKept_23 : decode cL_isKept 23 = .ok (.iconst 1, 1) := by decide +kernel
theorem dL_isKept_24 : decode cL_isKept 24 = .ok (.ireturn, 1) := by decide +kernel
theorem dL_isKept_25 : decode cL_isKept 25 = .ok (.astore 4, 2) := by decide +kernel
theorem dL_isKept_27 : decode cL_isKept 27 = .ok (.iconst 2, 1) := by decide +kernel
theorem dL_isKept_28 : decode cL_isKept 28 = .ok (.ireturn, 1) := by decide +kernel
theorem dL_isKept_29 : decode cL_isKept 29 = .ok (.iconst 0, 1) := by decide +kernel
theorem dL_isKept_30 : decode cL_isKept 30 = .ok (.ireturn, 1) := by decide +kernel
theorem dL_loss_0 : decode cL_loss 0 = .ok (.aload_n 3, 1) := by decide +kernel
theorem dL_loss_1 : decode cL_loss 1 = .ok (.aload_n 0, 1) := by decide +kernel
theorem dL_loss_2 : decode cL_loss 2 = .ok (.iload_n 1, 1) := by decide +kernel
theorem dL_loss_3 : decode cL_loss 3 = .ok (.iload_n 2, 1) := by decide +kernel
theorem dL_loss_4 : decode cL_loss 4 = .ok (.invokevirtual 84, 3) := by decide +kernel
theorem dL_loss_7 : decode cL_loss 7 = .ok (.i2l, 1) := by decide +kernel
theorem dL_loss_8 : decode cL_loss 8 = .ok (.putfield 13, 3) := by decide +kernel
theorem dL_loss_11 : decode cL_loss 11 = .ok (.goto 11, 3) := by decide +kernel
theorem dL_loss_14 : decode cL_loss 14 = .ok (.astore 4, 2) := by decide +kernel
theorem dL_loss_16 : decode cL_loss 16 = .ok (.iconst 1, 1) := by decide +kernel
theorem dL_loss_17 : decode cL_loss 17 = .ok (.ireturn, 1) := by decide +kernel
theorem dL_loss_18 : decode cL_loss 18 = .ok (.astore 4, 2) := by decide +kernel
theorem dL_loss_20 : decode cL_loss 20 = .ok (.iconst 2, 1) := by decide +kernel
theorem dL_loss_21 : decode cL_loss 21 = .ok (.ireturn, 1) := by decide +kernel
theorem dL_loss_22 : decode cL_loss 22 = .ok (.iconst 0, 1) := by decide +kernel
theorem dL_loss_23 : decode cL_loss 23 = .ok (.ireturn, 1) := by decide +kernel
theorem dL_leadsBack_0 : decode cL_leadsBack 0 = .ok (.aload_n 3, 1) := by decide +kernel
theorem dL_leadsBack_1 : decode cL_leadsBack 1 = .ok (.aload_n 0, 1) := by decide +kernel
theorem dL_leadsBack_2 : decode cL_leadsBack 2 = .ok (.iload_n 1, 1) := by decide +kernel
theorem dL_leadsBack_3 : decode cL_leadsBack 3 = .ok (.iload_n 2, 1) := by decide +kernel
theorem dL_leadsBack_4 : decode cL_leadsBack 4 = .ok (.invokevirtual 87, 3) := by decide +kernel
theorem dL_leadsBack_7 : decode cL_leadsBack 7 = .ok (.ifCond .eq 7, 3) := by decide +kernel
theorem dL_leadsBack_10 : decode cL_leadsBack 10 = .ok (.lconst 1, 1) := by decide +kernel
theorem dL_leadsBack_11 : decode cL_leadsBack 11 = .ok (.goto 4, 3) := by decide +kernel
theorem dL_leadsBack_14 : decode cL_leadsBack 14 = .ok (.lconst 0, 1) := by decide +kernel
theorem dL_leadsBack_15 : decode cL_leadsBack 15 = .ok (.putfield 13, 3) := by decide +kernel
theorem dL_leadsBack_18 : decode cL_leadsBack 18 = .ok (.goto 11, 3) := by decide +kernel
theorem dL_leadsBack_21 : decode cL_leadsBack 21 = .ok (.astore 4, 2) := by decide +kernel
theorem dL_leadsBack_23 : decode cL_leadsBack 23 = .ok (.iconst 1, 1) := by decide +kernel
theorem dL_leadsBack_24 : decode cL_leadsBack 24 = .ok (.ireturn, 1) := by decide +kernel
theorem dL_leadsBack_25 : decode cL_leadsBack 25 = .ok (.astore 4, 2) := by decide +kernel
theorem dL_leadsBack_27 : decode cL_leadsBack 27 = .ok (.iconst 2, 1) := by decide +kernel
theorem dL_leadsBack_28 : decode cL_leadsBack 28 = .ok (.ireturn, 1) := by decide +kernel
theorem dL_leadsBack_29 : decode cL_leadsBack 29 = .ok (.iconst 0, 1) := by decide +kernel
theorem dL_leadsBack_30 : decode cL_leadsBack 30 = .ok (.ireturn, 1) := by decide +kernel
theorem dL_twice_0 : decode cL_twice 0 = .ok (.aload 4, 2) := by decide +kernel
theorem dL_twice_2 : decode cL_twice 2 = .ok (.aload_n 0, 1) := by decide +kernel
theorem dL_twice_3 : decode cL_twice 3 = .ok (.iload_n 1, 1) := by decide +kernel
theorem dL_twice_4 : decode cL_twice 4 = .ok (.iload_n 2, 1) := by decide +kernel
theorem dL_twice_5 : decode cL_twice 5 = .ok (.iload_n 3, 1) := by decide +kernel
theorem dL_twice_6 : decode cL_twice 6 = .ok (.invokevirtual 90, 3) := by decide +kernel
theorem dL_twice_9 : decode cL_twice 9 = .ok (.i2l, 1) := by decide +kernel
theorem dL_twice_10 : decode cL_twice 10 = .ok (.putfield 13, 3) := by decide +kernel
theorem dL_twice_13 : decode cL_twice 13 = .ok (.goto 11, 3) := by decide +kernel
theorem dL_twice_16 : decode cL_twice 16 = .ok (.astore 5, 2) := by decide +kernel
theorem dL_twice_18 : decode cL_twice 18 = .ok (.iconst 1, 1) := by decide +kernel
theorem dL_twice_19 : decode cL_twice 19 = .ok (.ireturn, 1) := by decide +kernel
theorem dL_twice_20 : decode cL_twice 20 = .ok (.astore 5, 2) := by decide +kernel
theorem dL_twice_22 : decode cL_twice 22 = .ok (.iconst 2, 1) := by decide +kernel
theorem dL_twice_23 : decode cL_twice 23 = .ok (.ireturn, 1) := by decide +kernel
theorem dL_twice_24 : decode cL_twice 24 = .ok (.iconst 0, 1) := by decide +kernel
theorem dL_twice_25 : decode cL_twice 25 = .ok (.ireturn, 1) := by decide +kernel
theorem dL_gap_0 : decode cL_gap 0 = .ok (.aload 4, 2) := by decide +kernel
theorem dL_gap_2 : decode cL_gap 2 = .ok (.aload_n 0, 1) := by decide +kernel
theorem dL_gap_3 : decode cL_gap 3 = .ok (.iload_n 1, 1) := by decide +kernel
theorem dL_gap_4 : decode cL_gap 4 = .ok (.iload_n 2, 1) := by decide +kernel
theorem dL_gap_5 : decode cL_gap 5 = .ok (.iload_n 3, 1) := by decide +kernel
theorem dL_gap_6 : decode cL_gap 6 = .ok (.invokevirtual 93, 3) := by decide +kernel
theorem dL_gap_9 : decode cL_gap 9 = .ok (.i2l, 1) := by decide +kernel
theorem dL_gap_10 : decode cL_gap 10 = .ok (.putfield 13, 3) := by decide +kernel
theorem dL_gap_13 : decode cL_gap 13 = .ok (.goto 11, 3) := by decide +kernel
theorem dL_gap_16 : decode cL_gap 16 = .ok (.astore 5, 2) := by decide +kernel
theorem dL_gap_18 : decode cL_gap 18 = .ok (.iconst 1, 1) := by decide +kernel
theorem dL_gap_19 : decode cL_gap 19 = .ok (.ireturn, 1) := by decide +kernel
theorem dL_gap_20 : decode cL_gap 20 = .ok (.astore 5, 2) := by decide +kernel
theorem dL_gap_22 : decode cL_gap 22 = .ok (.iconst 2, 1) := by decide +kernel
theorem dL_gap_23 : decode cL_gap 23 = .ok (.ireturn, 1) := by decide +kernel
theorem dL_gap_24 : decode cL_gap 24 = .ok (.iconst 0, 1) := by decide +kernel
theorem dL_gap_25 : decode cL_gap 25 = .ok (.ireturn, 1) := by decide +kernel
theorem dL_lowest_0 : decode cL_lowest 0 = .ok (.aload 4, 2) := by decide +kernel
theorem dL_lowest_2 : decode cL_lowest 2 = .ok (.aload_n 0, 1) := by decide +kernel
theorem dL_lowest_3 : decode cL_lowest 3 = .ok (.iload_n 1, 1) := by decide +kernel
theorem dL_lowest_4 : decode cL_lowest 4 = .ok (.iload_n 2, 1) := by decide +kernel
theorem dL_lowest_5 : decode cL_lowest 5 = .ok (.iload_n 3, 1) := by decide +kernel
theorem dL_lowest_6 : decode cL_lowest 6 = .ok (.invokevirtual 96, 3) := by decide +kernel
theorem dL_lowest_9 : decode cL_lowest 9 = .ok (.i2l, 1) := by decide +kernel
theorem dL_lowest_10 : decode cL_lowest 10 = .ok (.putfield 13, 3) := by decide +kernel
theorem dL_lowest_13 : decode cL_lowest 13 = .ok (.goto 11, 3) := by decide +kernel
theorem dL_lowest_16 : decode cL_lowest 16 = .ok (.astore 5, 2) := by decide +kernel
theorem dL_lowest_18 : decode cL_lowest 18 = .ok (.iconst 1, 1) := by decide +kernel
theorem dL_lowest_19 : decode cL_lowest 19 = .ok (.ireturn, 1) := by decide +kernel
theorem dL_lowest_20 : decode cL_lowest 20 = .ok (.astore 5, 2) := by decide +kernel
theorem dL_lowest_22 : decode cL_lowest 22 = .ok (.iconst 2, 1) := by decide +kernel
theorem dL_lowest_23 : decode cL_lowest 23 = .ok (.ireturn, 1) := by decide +kernel
theorem dL_lowest_24 : decode cL_lowest 24 = .ok (.iconst 0, 1) := by decide +kernel
theorem dL_lowest_25 : decode cL_lowest 25 = .ok (.ireturn, 1) := by decide +kernel
theorem dL_met_0 : decode cL_met 0 = .ok (.aload 4, 2) := by decide +kernel
theorem dL_met_2 : decode cL_met 2 = .ok (.aload_n 0, 1) := by decide +kernel
theorem dL_met_3 : decode cL_met 3 = .ok (.iload_n 1, 1) := by decide +kernel
theorem dL_met_4 : decode cL_met 4 = .ok (.iload_n 2, 1) := by decide +kernel
theorem dL_met_5 : decode cL_met 5 = .ok (.iload_n 3, 1) := by decide +kernel
theorem dL_met_6 : decode cL_met 6 = .ok (.invokevirtual 99, 3) := by decide +kernel
theorem dL_met_9 : decode cL_met 9 = .ok (.putfield 103, 3) := by decide +kernel
theorem dL_met_12 : decode cL_met 12 = .ok (.goto 11, 3) := by decide +kernel
theorem dL_met_15 : decode cL_met 15 = .ok (.astore 5, 2) := by decide +kernel
theorem dL_met_17 : decode cL_met 17 = .ok (.iconst 1, 1) := by decide +kernel
theorem dL_met_18 : decode cL_met 18 = .ok (.ireturn, 1) := by decide +kernel
theorem dL_met_19 : decode cL_met 19 = .ok (.astore 5, 2) := by decide +kernel
theorem dL_met_21 : decode cL_met 21 = .ok (.iconst 2, 1) := by decide +kernel
theorem dL_met_22 : decode cL_met 22 = .ok (.ireturn, 1) := by decide +kernel
theorem dL_met_23 : decode cL_met 23 = .ok (.iconst 0, 1) := by decide +kernel
theorem dL_met_24 : decode cL_met 24 = .ok (.ireturn, 1) := by decide +kernel
theorem dL_keeps_0 : decode cL_keeps 0 = .ok (.aload_n 3, 1) := by decide +kernel
theorem dL_keeps_1 : decode cL_keeps 1 = .ok (.aload_n 0, 1) := by decide +kernel
theorem dL_keeps_2 : decode cL_keeps 2 = .ok (.iload_n 1, 1) := by decide +kernel
theorem dL_keeps_3 : decode cL_keeps 3 = .ok (.iload_n 2, 1) := by decide +kernel
theorem dL_keeps_4 : decode cL_keeps 4 = .ok (.invokevirtual 107, 3) := by decide +kernel
theorem dL_keeps_7 : decode cL_keeps 7 = .ok (.i2l, 1) := by decide +kernel
theorem dL_keeps_8 : decode cL_keeps 8 = .ok (.putfield 13, 3) := by decide +kernel
theorem dL_keeps_11 : decode cL_keeps 11 = .ok (.goto 11, 3) := by decide +kernel
theorem dL_keeps_14 : decode cL_keeps 14 = .ok (.astore 4, 2) := by decide +kernel
theorem dL_keeps_16 : decode cL_keeps 16 = .ok (.iconst 1, 1) := by decide +kernel
theorem dL_keeps_17 : decode cL_keeps 17 = .ok (.ireturn, 1) := by decide +kernel
theorem dL_keeps_18 : decode cL_keeps 18 = .ok (.astore 4, 2) := by decide +kernel
theorem dL_keeps_20 : decode cL_keeps 20 = .ok (.iconst 2, 1) := by decide +kernel
theorem dL_keeps_21 : decode cL_keeps 21 = .ok (.ireturn, 1) := by decide +kernel
theorem dL_keeps_22 : decode cL_keeps 22 = .ok (.iconst 0, 1) := by decide +kernel
theorem dL_keeps_23 : decode cL_keeps 23 = .ok (.ireturn, 1) := by decide +kernel
theorem dL_month_0 : decode cL_month 0 = .ok (.aload_n 2, 1) := by decide +kernel
theorem dL_month_1 : decode cL_month 1 = .ok (.aload_n 0, 1) := by decide +kernel
theorem dL_month_2 : decode cL_month 2 = .ok (.iload_n 1, 1) := by decide +kernel
theorem dL_month_3 : decode cL_month 3 = .ok (.invokevirtual 110, 3) := by decide +kernel
theorem dL_month_6 : decode cL_month 6 = .ok (.i2l, 1) := by decide +kernel
theorem dL_month_7 : decode cL_month 7 = .ok (.putfield 13, 3) := by decide +kernel
theorem dL_month_10 : decode cL_month 10 = .ok (.goto 6, 3) := by decide +kernel
theorem dL_month_13 : decode cL_month 13 = .ok (.astore_n 3, 1) := by decide +kernel
theorem dL_month_14 : decode cL_month 14 = .ok (.iconst 1, 1) := by decide +kernel
theorem dL_month_15 : decode cL_month 15 = .ok (.ireturn, 1) := by decide +kernel
theorem dL_month_16 : decode cL_month 16 = .ok (.iconst 0, 1) := by decide +kernel
theorem dL_month_17 : decode cL_month 17 = .ok (.ireturn, 1) := by decide +kernel
theorem dL_ofMonthNumber_0 : decode cL_ofMonthNumber 0 = .ok (.aload_n 3, 1) := by decide +kernel
theorem dL_ofMonthNumber_1 : decode cL_ofMonthNumber 1 = .ok (.aload_n 0, 1) := by decide +kernel
theorem dL_ofMonthNumber_2 : decode cL_ofMonthNumber 2 = .ok (.iload_n 1, 1) := by decide +kernel
theorem dL_ofMonthNumber_3 : decode cL_ofMonthNumber 3 = .ok (.iload_n 2, 1) := by decide +kernel
theorem dL_ofMonthNumber_4 : decode cL_ofMonthNumber 4 = .ok (.invokevirtual 113, 3) := by decide +kernel
theorem dL_ofMonthNumber_7 : decode cL_ofMonthNumber 7 = .ok (.i2l, 1) := by decide +kernel
theorem dL_ofMonthNumber_8 : decode cL_ofMonthNumber 8 = .ok (.putfield 13, 3) := by decide +kernel
theorem dL_ofMonthNumber_11 : decode cL_ofMonthNumber 11 = .ok (.goto 7, 3) := by decide +kernel
theorem dL_ofMonthNumber_14 : decode cL_ofMonthNumber 14 = .ok (.astore 4, 2) := by decide +kernel
theorem dL_ofMonthNumber_16 : decode cL_ofMonthNumber 16 = .ok (.iconst 1, 1) := by decide +kernel
theorem dL_ofMonthNumber_17 : decode cL_ofMonthNumber 17 = .ok (.ireturn, 1) := by decide +kernel
theorem dL_ofMonthNumber_18 : decode cL_ofMonthNumber 18 = .ok (.iconst 0, 1) := by decide +kernel
theorem dL_ofMonthNumber_19 : decode cL_ofMonthNumber 19 = .ok (.ireturn, 1) := by decide +kernel
theorem dL_lengths_0 : decode cL_lengths 0 = .ok (.aload_n 3, 1) := by decide +kernel
theorem dL_lengths_1 : decode cL_lengths 1 = .ok (.aload_n 0, 1) := by decide +kernel
theorem dL_lengths_2 : decode cL_lengths 2 = .ok (.iload_n 1, 1) := by decide +kernel
theorem dL_lengths_3 : decode cL_lengths 3 = .ok (.iload_n 2, 1) := by decide +kernel
theorem dL_lengths_4 : decode cL_lengths 4 = .ok (.invokevirtual 116, 3) := by decide +kernel
theorem dL_lengths_7 : decode cL_lengths 7 = .ok (.i2l, 1) := by decide +kernel
theorem dL_lengths_8 : decode cL_lengths 8 = .ok (.putfield 13, 3) := by decide +kernel
theorem dL_lengths_11 : decode cL_lengths 11 = .ok (.goto 7, 3) := by decide +kernel
theorem dL_lengths_14 : decode cL_lengths 14 = .ok (.astore 4, 2) := by decide +kernel
theorem dL_lengths_16 : decode cL_lengths 16 = .ok (.iconst 1, 1) := by decide +kernel
theorem dL_lengths_17 : decode cL_lengths 17 = .ok (.ireturn, 1) := by decide +kernel
theorem dL_lengths_18 : decode cL_lengths 18 = .ok (.iconst 0, 1) := by decide +kernel
theorem dL_lengths_19 : decode cL_lengths 19 = .ok (.ireturn, 1) := by decide +kernel
theorem dL_weekday_0 : decode cL_weekday 0 = .ok (.aload_n 2, 1) := by decide +kernel
theorem dL_weekday_1 : decode cL_weekday 1 = .ok (.aload_n 0, 1) := by decide +kernel
theorem dL_weekday_2 : decode cL_weekday 2 = .ok (.iload_n 1, 1) := by decide +kernel
theorem dL_weekday_3 : decode cL_weekday 3 = .ok (.invokevirtual 119, 3) := by decide +kernel
theorem dL_weekday_6 : decode cL_weekday 6 = .ok (.i2l, 1) := by decide +kernel
theorem dL_weekday_7 : decode cL_weekday 7 = .ok (.putfield 13, 3) := by decide +kernel
theorem dL_weekday_10 : decode cL_weekday 10 = .ok (.goto 6, 3) := by decide +kernel
theorem dL_weekday_13 : decode cL_weekday 13 = .ok (.astore_n 3, 1) := by decide +kernel
theorem dL_weekday_14 : decode cL_weekday 14 = .ok (.iconst 1, 1) := by decide +kernel
theorem dL_weekday_15 : decode cL_weekday 15 = .ok (.ireturn, 1) := by decide +kernel
theorem dL_weekday_16 : decode cL_weekday 16 = .ok (.iconst 0, 1) := by decide +kernel
theorem dL_weekday_17 : decode cL_weekday 17 = .ok (.ireturn, 1) := by decide +kernel
theorem dL_nth_0 : decode cL_nth 0 = .ok (.aload 4, 2) := by decide +kernel
theorem dL_nth_2 : decode cL_nth 2 = .ok (.aload_n 0, 1) := by decide +kernel
theorem dL_nth_3 : decode cL_nth 3 = .ok (.iload_n 1, 1) := by decide +kernel
theorem dL_nth_4 : decode cL_nth 4 = .ok (.iload_n 2, 1) := by decide +kernel
theorem dL_nth_5 : decode cL_nth 5 = .ok (.iload_n 3, 1) := by decide +kernel
theorem dL_nth_6 : decode cL_nth 6 = .ok (.invokevirtual 122, 3) := by decide +kernel
theorem dL_nth_9 : decode cL_nth 9 = .ok (.i2l, 1) := by decide +kernel
theorem dL_nth_10 : decode cL_nth 10 = .ok (.putfield 13, 3) := by decide +kernel
theorem dL_nth_13 : decode cL_nth 13 = .ok (.goto 7, 3) := by decide +kernel
theorem dL_nth_16 : decode cL_nth 16 = .ok (.astore 5, 2) := by decide +kernel
theorem dL_nth_18 : decode cL_nth 18 = .ok (.iconst 1, 1) := by decide +kernel
theorem dL_nth_19 : decode cL_nth 19 = .ok (.ireturn, 1) := by decide +kernel
theorem dL_nth_20 : decode cL_nth 20 = .ok (.iconst 0, 1) := by decide +kernel
theorem dL_nth_21 : decode cL_nth 21 = .ok (.ireturn, 1) := by decide +kernel
theorem dL_inYear_0 : decode cL_inYear 0 = .ok (.aload 4, 2) := by decide +kernel
theorem dL_inYear_2 : decode cL_inYear 2 = .ok (.aload_n 0, 1) := by decide +kernel
theorem dL_inYear_3 : decode cL_inYear 3 = .ok (.iload_n 1, 1) := by decide +kernel
theorem dL_inYear_4 : decode cL_inYear 4 = .ok (.iload_n 2, 1) := by decide +kernel
theorem dL_inYear_5 : decode cL_inYear 5 = .ok (.iload_n 3, 1) := by decide +kernel
theorem dL_inYear_6 : decode cL_inYear 6 = .ok (.invokevirtual 125, 3) := by decide +kernel
theorem dL_inYear_9 : decode cL_inYear 9 = .ok (.i2l, 1) := by decide +kernel
theorem dL_inYear_10 : decode cL_inYear 10 = .ok (.putfield 13, 3) := by decide +kernel
theorem dL_inYear_13 : decode cL_inYear 13 = .ok (.goto 7, 3) := by decide +kernel
theorem dL_inYear_16 : decode cL_inYear 16 = .ok (.astore 5, 2) := by decide +kernel
theorem dL_inYear_18 : decode cL_inYear 18 = .ok (.iconst 1, 1) := by decide +kernel
theorem dL_inYear_19 : decode cL_inYear 19 = .ok (.ireturn, 1) := by decide +kernel
theorem dL_inYear_20 : decode cL_inYear 20 = .ok (.iconst 0, 1) := by decide +kernel
theorem dL_inYear_21 : decode cL_inYear 21 = .ok (.ireturn, 1) := by decide +kernel
theorem dL_recurs_0 : decode cL_recurs 0 = .ok (.aload 4, 2) := by decide +kernel
theorem dL_recurs_2 : decode cL_recurs 2 = .ok (.aload_n 0, 1) := by decide +kernel
theorem dL_recurs_3 : decode cL_recurs 3 = .ok (.iload_n 1, 1) := by decide +kernel
theorem dL_recurs_4 : decode cL_recurs 4 = .ok (.iload_n 2, 1) := by decide +kernel
theorem dL_recurs_5 : decode cL_recurs 5 = .ok (.iload_n 3, 1) := by decide +kernel
theorem dL_recurs_6 : decode cL_recurs 6 = .ok (.invokevirtual 128, 3) := by decide +kernel
theorem dL_recurs_9 : decode cL_recurs 9 = .ok (.i2l, 1) := by decide +kernel
theorem dL_recurs_10 : decode cL_recurs 10 = .ok (.putfield 13, 3) := by decide +kernel
theorem dL_recurs_13 : decode cL_recurs 13 = .ok (.goto 11, 3) := by decide +kernel
theorem dL_recurs_16 : decode cL_recurs 16 = .ok (.astore 5, 2) := by decide +kernel
theorem dL_recurs_18 : decode cL_recurs 18 = .ok (.iconst 1, 1) := by decide +kernel
theorem dL_recurs_19 : decode cL_recurs 19 = .ok (.ireturn, 1) := by decide +kernel
theorem dL_recurs_20 : decode cL_recurs 20 = .ok (.astore 5, 2) := by decide +kernel
theorem dL_recurs_22 : decode cL_recurs 22 = .ok (.iconst 2, 1) := by decide +kernel
theorem dL_recurs_23 : decode cL_recurs 23 = .ok (.ireturn, 1) := by decide +kernel
theorem dL_recurs_24 : decode cL_recurs 24 = .ok (.iconst 0, 1) := by decide +kernel
theorem dL_recurs_25 : decode cL_recurs 25 = .ok (.ireturn, 1) := by decide +kernel
theorem dL_age_0 : decode cL_age 0 = .ok (.aload_n 3, 1) := by decide +kernel
theorem dL_age_1 : decode cL_age 1 = .ok (.aload_n 0, 1) := by decide +kernel
theorem dL_age_2 : decode cL_age 2 = .ok (.iload_n 1, 1) := by decide +kernel
theorem dL_age_3 : decode cL_age 3 = .ok (.iload_n 2, 1) := by decide +kernel
theorem dL_age_4 : decode cL_age 4 = .ok (.invokevirtual 131, 3) := by decide +kernel
theorem dL_age_7 : decode cL_age 7 = .ok (.i2l, 1) := by decide +kernel
theorem dL_age_8 : decode cL_age 8 = .ok (.putfield 13, 3) := by decide +kernel
theorem dL_age_11 : decode cL_age 11 = .ok (.goto 11, 3) := by decide +kernel
theorem dL_age_14 : decode cL_age 14 = .ok (.astore 4, 2) := by decide +kernel
theorem dL_age_16 : decode cL_age 16 = .ok (.iconst 1, 1) := by decide +kernel
theorem dL_age_17 : decode cL_age 17 = .ok (.ireturn, 1) := by decide +kernel
theorem dL_age_18 : decode cL_age 18 = .ok (.astore 4, 2) := by decide +kernel
theorem dL_age_20 : decode cL_age 20 = .ok (.iconst 2, 1) := by decide +kernel
theorem dL_age_21 : decode cL_age 21 = .ok (.ireturn, 1) := by decide +kernel
theorem dL_age_22 : decode cL_age 22 = .ok (.iconst 0, 1) := by decide +kernel
theorem dL_age_23 : decode cL_age 23 = .ok (.ireturn, 1) := by decide +kernel
theorem dL_anniversaries_0 : decode cL_anniversaries 0 = .ok (.aload 4, 2) := by decide +kernel
theorem dL_anniversaries_2 : decode cL_anniversaries 2 = .ok (.aload_n 0, 1) := by decide +kernel
theorem dL_anniversaries_3 : decode cL_anniversaries 3 = .ok (.iload_n 1, 1) := by decide +kernel
theorem dL_anniversaries_4 : decode cL_anniversaries 4 = .ok (.iload_n 2, 1) := by decide +kernel
theorem dL_anniversaries_5 : decode cL_anniversaries 5 = .ok (.iload_n 3, 1) := by decide +kernel
theorem dL_anniversaries_6 : decode cL_anniversaries 6 = .ok (.invokevirtual 134, 3) := by decide +kernel
theorem dL_anniversaries_9 : decode cL_anniversaries 9 = .ok (.i2l, 1) := by decide +kernel
theorem dL_anniversaries_10 : decode cL_anniversaries 10 = .ok (.putfield 13, 3) := by decide +kernel
theorem dL_anniversaries_13 : decode cL_anniversaries 13 = .ok (.goto 7, 3) := by decide +kernel
theorem dL_anniversaries_16 : decode cL_anniversaries 16 = .ok (.astore 5, 2) := by decide +kernel
theorem dL_anniversaries_18 : decode cL_anniversaries 18 = .ok (.iconst 1, 1) := by decide +kernel
theorem dL_anniversaries_19 : decode cL_anniversaries 19 = .ok (.ireturn, 1) := by decide +kernel
theorem dL_anniversaries_20 : decode cL_anniversaries 20 = .ok (.iconst 0, 1) := by decide +kernel
theorem dL_anniversaries_21 : decode cL_anniversaries 21 = .ok (.ireturn, 1) := by decide +kernel
theorem dL_toNext_0 : decode cL_toNext 0 = .ok (.aload 4, 2) := by decide +kernel
theorem dL_toNext_2 : decode cL_toNext 2 = .ok (.aload_n 0, 1) := by decide +kernel
theorem dL_toNext_3 : decode cL_toNext 3 = .ok (.iload_n 1, 1) := by decide +kernel
theorem dL_toNext_4 : decode cL_toNext 4 = .ok (.iload_n 2, 1) := by decide +kernel
theorem dL_toNext_5 : decode cL_toNext 5 = .ok (.iload_n 3, 1) := by decide +kernel
theorem dL_toNext_6 : decode cL_toNext 6 = .ok (.invokevirtual 138, 3) := by decide +kernel
theorem dL_toNext_9 : decode cL_toNext 9 = .ok (.i2l, 1) := by decide +kernel
theorem dL_toNext_10 : decode cL_toNext 10 = .ok (.putfield 13, 3) := by decide +kernel
theorem dL_toNext_13 : decode cL_toNext 13 = .ok (.goto 7, 3) := by decide +kernel
theorem dL_toNext_16 : decode cL_toNext 16 = .ok (.astore 5, 2) := by decide +kernel
theorem dL_toNext_18 : decode cL_toNext 18 = .ok (.iconst 1, 1) := by decide +kernel
theorem dL_toNext_19 : decode cL_toNext 19 = .ok (.ireturn, 1) := by decide +kernel
theorem dL_toNext_20 : decode cL_toNext 20 = .ok (.iconst 0, 1) := by decide +kernel
theorem dL_toNext_21 : decode cL_toNext 21 = .ok (.ireturn, 1) := by decide +kernel
theorem dL_wholeMonths_0 : decode cL_wholeMonths 0 = .ok (.aload_n 3, 1) := by decide +kernel
theorem dL_wholeMonths_1 : decode cL_wholeMonths 1 = .ok (.aload_n 0, 1) := by decide +kernel
theorem dL_wholeMonths_2 : decode cL_wholeMonths 2 = .ok (.iload_n 1, 1) := by decide +kernel
theorem dL_wholeMonths_3 : decode cL_wholeMonths 3 = .ok (.iload_n 2, 1) := by decide +kernel
theorem dL_wholeMonths_4 : decode cL_wholeMonths 4 = .ok (.invokevirtual 141, 3) := by decide +kernel
theorem dL_wholeMonths_7 : decode cL_wholeMonths 7 = .ok (.i2l, 1) := by decide +kernel
theorem dL_wholeMonths_8 : decode cL_wholeMonths 8 = .ok (.putfield 13, 3) := by decide +kernel
theorem dL_wholeMonths_11 : decode cL_wholeMonths 11 = .ok (.goto 7, 3) := by decide +kernel
theorem dL_wholeMonths_14 : decode cL_wholeMonths 14 = .ok (.astore 4, 2) := by decide +kernel
theorem dL_wholeMonths_16 : decode cL_wholeMonths 16 = .ok (.iconst 1, 1) := by decide +kernel
theorem dL_wholeMonths_17 : decode cL_wholeMonths 17 = .ok (.ireturn, 1) := by decide +kernel
theorem dL_wholeMonths_18 : decode cL_wholeMonths 18 = .ok (.iconst 0, 1) := by decide +kernel
theorem dL_wholeMonths_19 : decode cL_wholeMonths 19 = .ok (.ireturn, 1) := by decide +kernel
theorem dL_year_0 : decode cL_year 0 = .ok (.aload_n 2, 1) := by decide +kernel
theorem dL_year_1 : decode cL_year 1 = .ok (.aload_n 0, 1) := by decide +kernel
theorem dL_year_2 : decode cL_year 2 = .ok (.iload_n 1, 1) := by decide +kernel
theorem dL_year_3 : decode cL_year 3 = .ok (.invokevirtual 144, 3) := by decide +kernel
theorem dL_year_6 : decode cL_year 6 = .ok (.i2l, 1) := by decide +kernel
theorem dL_year_7 : decode cL_year 7 = .ok (.putfield 13, 3) := by decide +kernel
theorem dL_year_10 : decode cL_year 10 = .ok (.goto 6, 3) := by decide +kernel
theorem dL_year_13 : decode cL_year 13 = .ok (.astore_n 3, 1) := by decide +kernel
theorem dL_year_14 : decode cL_year 14 = .ok (.iconst 1, 1) := by decide +kernel
theorem dL_year_15 : decode cL_year 15 = .ok (.ireturn, 1) := by decide +kernel
theorem dL_year_16 : decode cL_year 16 = .ok (.iconst 0, 1) := by decide +kernel
theorem dL_year_17 : decode cL_year 17 = .ok (.ireturn, 1) := by decide +kernel
theorem dL_monthOfYear_0 : decode cL_monthOfYear 0 = .ok (.aload_n 2, 1) := by decide +kernel
theorem dL_monthOfYear_1 : decode cL_monthOfYear 1 = .ok (.aload_n 0, 1) := by decide +kernel
theorem dL_monthOfYear_2 : decode cL_monthOfYear 2 = .ok (.iload_n 1, 1) := by decide +kernel
theorem dL_monthOfYear_3 : decode cL_monthOfYear 3 = .ok (.invokevirtual 147, 3) := by decide +kernel
theorem dL_monthOfYear_6 : decode cL_monthOfYear 6 = .ok (.i2l, 1) := by decide +kernel
theorem dL_monthOfYear_7 : decode cL_monthOfYear 7 = .ok (.putfield 13, 3) := by decide +kernel
theorem dL_monthOfYear_10 : decode cL_monthOfYear 10 = .ok (.goto 6, 3) := by decide +kernel
theorem dL_monthOfYear_13 : decode cL_monthOfYear 13 = .ok (.astore_n 3, 1) := by decide +kernel
theorem dL_monthOfYear_14 : decode cL_monthOfYear 14 = .ok (.iconst 1, 1) := by decide +kernel
theorem dL_monthOfYear_15 : decode cL_monthOfYear 15 = .ok (.ireturn, 1) := by decide +kernel
theorem dL_monthOfYear_16 : decode cL_monthOfYear 16 = .ok (.iconst 0, 1) := by decide +kernel
theorem dL_monthOfYear_17 : decode cL_monthOfYear 17 = .ok (.ireturn, 1) := by decide +kernel
theorem dL_day_0 : decode cL_day 0 = .ok (.aload_n 2, 1) := by decide +kernel
theorem dL_day_1 : decode cL_day 1 = .ok (.aload_n 0, 1) := by decide +kernel
theorem dL_day_2 : decode cL_day 2 = .ok (.iload_n 1, 1) := by decide +kernel
theorem dL_day_3 : decode cL_day 3 = .ok (.invokevirtual 150, 3) := by decide +kernel
theorem dL_day_6 : decode cL_day 6 = .ok (.i2l, 1) := by decide +kernel
theorem dL_day_7 : decode cL_day 7 = .ok (.putfield 13, 3) := by decide +kernel
theorem dL_day_10 : decode cL_day 10 = .ok (.goto 6, 3) := by decide +kernel
theorem dL_day_13 : decode cL_day 13 = .ok (.astore_n 3, 1) := by decide +kernel
theorem dL_day_14 : decode cL_day 14 = .ok (.iconst 1, 1) := by decide +kernel
theorem dL_day_15 : decode cL_day 15 = .ok (.ireturn, 1) := by decide +kernel
theorem dL_day_16 : decode cL_day 16 = .ok (.iconst 0, 1) := by decide +kernel
theorem dL_day_17 : decode cL_day 17 = .ok (.ireturn, 1) := by decide +kernel
theorem dL_dayOfYear_0 : decode cL_dayOfYear 0 = .ok (.aload_n 2, 1) := by decide +kernel
theorem dL_dayOfYear_1 : decode cL_dayOfYear 1 = .ok (.aload_n 0, 1) := by decide +kernel
theorem dL_dayOfYear_2 : decode cL_dayOfYear 2 = .ok (.iload_n 1, 1) := by decide +kernel
theorem dL_dayOfYear_3 : decode cL_dayOfYear 3 = .ok (.invokevirtual 153, 3) := by decide +kernel
theorem dL_dayOfYear_6 : decode cL_dayOfYear 6 = .ok (.i2l, 1) := by decide +kernel
theorem dL_dayOfYear_7 : decode cL_dayOfYear 7 = .ok (.putfield 13, 3) := by decide +kernel
theorem dL_dayOfYear_10 : decode cL_dayOfYear 10 = .ok (.goto 6, 3) := by decide +kernel
theorem dL_dayOfYear_13 : decode cL_dayOfYear 13 = .ok (.astore_n 3, 1) := by decide +kernel
theorem dL_dayOfYear_14 : decode cL_dayOfYear 14 = .ok (.iconst 1, 1) := by decide +kernel
theorem dL_dayOfYear_15 : decode cL_dayOfYear 15 = .ok (.ireturn, 1) := by decide +kernel
theorem dL_dayOfYear_16 : decode cL_dayOfYear 16 = .ok (.iconst 0, 1) := by decide +kernel
theorem dL_dayOfYear_17 : decode cL_dayOfYear 17 = .ok (.ireturn, 1) := by decide +kernel
theorem dL_number_0 : decode cL_number 0 = .ok (.aload_n 2, 1) := by decide +kernel
theorem dL_number_1 : decode cL_number 1 = .ok (.aload_n 0, 1) := by decide +kernel
theorem dL_number_2 : decode cL_number 2 = .ok (.iload_n 1, 1) := by decide +kernel
theorem dL_number_3 : decode cL_number 3 = .ok (.invokevirtual 156, 3) := by decide +kernel
theorem dL_number_6 : decode cL_number 6 = .ok (.i2l, 1) := by decide +kernel
theorem dL_number_7 : decode cL_number 7 = .ok (.putfield 13, 3) := by decide +kernel
theorem dL_number_10 : decode cL_number 10 = .ok (.goto 6, 3) := by decide +kernel
theorem dL_number_13 : decode cL_number 13 = .ok (.astore_n 3, 1) := by decide +kernel
theorem dL_number_14 : decode cL_number 14 = .ok (.iconst 1, 1) := by decide +kernel
theorem dL_number_15 : decode cL_number 15 = .ok (.ireturn, 1) := by decide +kernel
theorem dL_number_16 : decode cL_number 16 = .ok (.iconst 0, 1) := by decide +kernel
theorem dL_number_17 : decode cL_number 17 = .ok (.ireturn, 1) := by decide +kernel
theorem dL_lengthOfMonth_0 : decode cL_lengthOfMonth 0 = .ok (.aload_n 2, 1) := by decide +kernel
theorem dL_lengthOfMonth_1 : decode cL_lengthOfMonth 1 = .ok (.aload_n 0, 1) := by decide +kernel
theorem dL_lengthOfMonth_2 : decode cL_lengthOfMonth 2 = .ok (.iload_n 1, 1) := by decide +kernel
theorem dL_lengthOfMonth_3 : decode cL_lengthOfMonth 3 = .ok (.invokevirtual 159, 3) := by decide +kernel
theorem dL_lengthOfMonth_6 : decode cL_lengthOfMonth 6 = .ok (.i2l, 1) := by decide +kernel
theorem dL_lengthOfMonth_7 : decode cL_lengthOfMonth 7 = .ok (.putfield 13, 3) := by decide +kernel
theorem dL_lengthOfMonth_10 : decode cL_lengthOfMonth 10 = .ok (.goto 6, 3) := by decide +kernel
theorem dL_lengthOfMonth_13 : decode cL_lengthOfMonth 13 = .ok (.astore_n 3, 1) := by decide +kernel
theorem dL_lengthOfMonth_14 : decode cL_lengthOfMonth 14 = .ok (.iconst 1, 1) := by decide +kernel
theorem dL_lengthOfMonth_15 : decode cL_lengthOfMonth 15 = .ok (.ireturn, 1) := by decide +kernel
theorem dL_lengthOfMonth_16 : decode cL_lengthOfMonth 16 = .ok (.iconst 0, 1) := by decide +kernel
theorem dL_lengthOfMonth_17 : decode cL_lengthOfMonth 17 = .ok (.ireturn, 1) := by decide +kernel
theorem dL_isLeapYear_0 : decode cL_isLeapYear 0 = .ok (.aload_n 2, 1) := by decide +kernel
theorem dL_isLeapYear_1 : decode cL_isLeapYear 1 = .ok (.aload_n 0, 1) := by decide +kernel
theorem dL_isLeapYear_2 : decode cL_isLeapYear 2 = .ok (.iload_n 1, 1) := by decide +kernel
theorem dL_isLeapYear_3 : decode cL_isLeapYear 3 = .ok (.invokevirtual 162, 3) := by decide +kernel
theorem dL_isLeapYear_6 : decode cL_isLeapYear 6 = .ok (.ifCond .eq 7, 3) := by decide +kernel
theorem dL_isLeapYear_9 : decode cL_isLeapYear 9 = .ok (.lconst 1, 1) := by decide +kernel
theorem dL_isLeapYear_10 : decode cL_isLeapYear 10 = .ok (.goto 4, 3) := by decide +kernel
theorem dL_isLeapYear_13 : decode cL_isLeapYear 13 = .ok (.lconst 0, 1) := by decide +kernel
theorem dL_isLeapYear_14 : decode cL_isLeapYear 14 = .ok (.putfield 13, 3) := by decide +kernel
theorem dL_isLeapYear_17 : decode cL_isLeapYear 17 = .ok (.goto 6, 3) := by decide +kernel
theorem dL_isLeapYear_20 : decode cL_isLeapYear 20 = .ok (.astore_n 3, 1) := by decide +kernel
theorem dL_isLeapYear_21 : decode cL_isLeapYear 21 = .ok (.iconst 1, 1) := by decide +kernel
theorem dL_isLeapYear_22 : decode cL_isLeapYear 22 = .ok (.ireturn, 1) := by decide +kernel
theorem dL_isLeapYear_23 : decode cL_isLeapYear 23 = .ok (.iconst 0, 1) := by decide +kernel
theorem dL_isLeapYear_24 : decode cL_isLeapYear 24 = .ok (.ireturn, 1) := by decide +kernel
theorem dL_text_0 : decode cL_text 0 = .ok (.aload_n 2, 1) := by decide +kernel
theorem dL_text_1 : decode cL_text 1 = .ok (.aload_n 0, 1) := by decide +kernel
theorem dL_text_2 : decode cL_text 2 = .ok (.iload_n 1, 1) := by decide +kernel
theorem dL_text_3 : decode cL_text 3 = .ok (.invokevirtual 166, 3) := by decide +kernel
theorem dL_text_6 : decode cL_text 6 = .ok (.putfield 103, 3) := by decide +kernel
theorem dL_text_9 : decode cL_text 9 = .ok (.goto 6, 3) := by decide +kernel
theorem dL_text_12 : decode cL_text 12 = .ok (.astore_n 3, 1) := by decide +kernel
theorem dL_text_13 : decode cL_text 13 = .ok (.iconst 1, 1) := by decide +kernel
theorem dL_text_14 : decode cL_text 14 = .ok (.ireturn, 1) := by decide +kernel
theorem dL_text_15 : decode cL_text 15 = .ok (.iconst 0, 1) := by decide +kernel
theorem dL_text_16 : decode cL_text 16 = .ok (.ireturn, 1) := by decide +kernel
theorem dL_compare_0 : decode cL_compare 0 = .ok (.aload_n 3, 1) := by decide +kernel
theorem dL_compare_1 : decode cL_compare 1 = .ok (.aload_n 0, 1) := by decide +kernel
theorem dL_compare_2 : decode cL_compare 2 = .ok (.iload_n 1, 1) := by decide +kernel
theorem dL_compare_3 : decode cL_compare 3 = .ok (.iload_n 2, 1) := by decide +kernel
theorem dL_compare_4 : decode cL_compare 4 = .ok (.invokevirtual 170, 3) := by decide +kernel
theorem dL_compare_7 : decode cL_compare 7 = .ok (.i2l, 1) := by decide +kernel
theorem dL_compare_8 : decode cL_compare 8 = .ok (.putfield 13, 3) := by decide +kernel
theorem dL_compare_11 : decode cL_compare 11 = .ok (.goto 7, 3) := by decide +kernel
theorem dL_compare_14 : decode cL_compare 14 = .ok (.astore 4, 2) := by decide +kernel
theorem dL_compare_16 : decode cL_compare 16 = .ok (.iconst 1, 1) := by decide +kernel
theorem dL_compare_17 : decode cL_compare 17 = .ok (.ireturn, 1) := by decide +kernel
theorem dL_compare_18 : decode cL_compare 18 = .ok (.iconst 0, 1) := by decide +kernel
theorem dL_compare_19 : decode cL_compare 19 = .ok (.ireturn, 1) := by decide +kernel
theorem dL_between_0 : decode cL_between 0 = .ok (.aload_n 3, 1) := by decide +kernel
theorem dL_between_1 : decode cL_between 1 = .ok (.aload_n 0, 1) := by decide +kernel
theorem dL_between_2 : decode cL_between 2 = .ok (.iload_n 1, 1) := by decide +kernel
theorem dL_between_3 : decode cL_between 3 = .ok (.iload_n 2, 1) := by decide +kernel
theorem dL_between_4 : decode cL_between 4 = .ok (.invokevirtual 173, 3) := by decide +kernel
theorem dL_between_7 : decode cL_between 7 = .ok (.i2l, 1) := by decide +kernel
theorem dL_between_8 : decode cL_between 8 = .ok (.putfield 13, 3) := by decide +kernel
theorem dL_between_11 : decode cL_between 11 = .ok (.goto 7, 3) := by decide +kernel
theorem dL_between_14 : decode cL_between 14 = .ok (.astore 4, 2) := by decide +kernel
theorem dL_between_16 : decode cL_between 16 = .ok (.iconst 1, 1) := by decide +kernel
theorem dL_between_17 : decode cL_between 17 = .ok (.ireturn, 1) := by decide +kernel
theorem dL_between_18 : decode cL_between 18 = .ok (.iconst 0, 1) := by decide +kernel
theorem dL_between_19 : decode cL_between 19 = .ok (.ireturn, 1) := by decide +kernel
theorem dL_house_0 : decode cL_house 0 = .ok (.aload_n 2, 1) := by decide +kernel
theorem dL_house_1 : decode cL_house 1 = .ok (.aload_n 0, 1) := by decide +kernel
theorem dL_house_2 : decode cL_house 2 = .ok (.iload_n 1, 1) := by decide +kernel
theorem dL_house_3 : decode cL_house 3 = .ok (.invokevirtual 176, 3) := by decide +kernel
theorem dL_house_6 : decode cL_house 6 = .ok (.i2l, 1) := by decide +kernel
theorem dL_house_7 : decode cL_house 7 = .ok (.putfield 13, 3) := by decide +kernel
theorem dL_house_10 : decode cL_house 10 = .ok (.goto 6, 3) := by decide +kernel
theorem dL_house_13 : decode cL_house 13 = .ok (.astore_n 3, 1) := by decide +kernel
theorem dL_house_14 : decode cL_house 14 = .ok (.iconst 1, 1) := by decide +kernel
theorem dL_house_15 : decode cL_house 15 = .ok (.ireturn, 1) := by decide +kernel
theorem dL_house_16 : decode cL_house 16 = .ok (.iconst 0, 1) := by decide +kernel
theorem dL_house_17 : decode cL_house 17 = .ok (.ireturn, 1) := by decide +kernel
theorem dL_law_0 : decode cL_law 0 = .ok (.new 8, 3) := by decide +kernel
theorem dL_law_3 : decode cL_law 3 = .ok (.dup, 1) := by decide +kernel
theorem dL_law_4 : decode cL_law 4 = .ok (.invokespecial 179, 3) := by decide +kernel
theorem dL_law_7 : decode cL_law 7 = .ok (.astore_n 1, 1) := by decide +kernel
theorem dL_law_8 : decode cL_law 8 = .ok (.new 180, 3) := by decide +kernel
theorem dL_law_11 : decode cL_law 11 = .ok (.dup, 1) := by decide +kernel
theorem dL_law_12 : decode cL_law 12 = .ok (.invokespecial 182, 3) := by decide +kernel
theorem dL_law_15 : decode cL_law 15 = .ok (.astore_n 2, 1) := by decide +kernel
theorem dL_law_16 : decode cL_law 16 = .ok (.new 14, 3) := by decide +kernel
theorem dL_law_19 : decode cL_law 19 = .ok (.dup, 1) := by decide +kernel
theorem dL_law_20 : decode cL_law 20 = .ok (.invokespecial 183, 3) := by decide +kernel
theorem dL_law_23 : decode cL_law 23 = .ok (.astore_n 3, 1) := by decide +kernel
theorem dL_law_24 : decode cL_law 24 = .ok (.iconst 0, 1) := by decide +kernel
theorem dL_law_25 : decode cL_law 25 = .ok (.istore 4, 2) := by decide +kernel
theorem dL_law_27 : decode cL_law 27 = .ok (.iload 4, 2) := by decide +kernel
theorem dL_law_29 : decode cL_law 29 = .ok (.aload_n 0, 1) := by decide +kernel
theorem dL_law_30 : decode cL_law 30 = .ok (.arraylength, 1) := by decide +kernel
theorem dL_law_31 : decode cL_law 31 = .ok (.iconst 5, 1) := by decide +kernel
theorem dL_law_32 : decode cL_law 32 = .ok (.isub, 1) := by decide +kernel
theorem dL_law_33 : decode cL_law 33 = .ok (.if_icmp .gt 2304, 3) := by decide +kernel
theorem dL_law_36 : decode cL_law 36 = .ok (.aload_n 0, 1) := by decide +kernel
theorem dL_law_37 : decode cL_law 37 = .ok (.iload 4, 2) := by decide +kernel
theorem dL_law_39 : decode cL_law 39 = .ok (.iaload, 1) := by decide +kernel
theorem dL_law_40 : decode cL_law 40 = .ok (.bipush 63, 2) := by decide +kernel
theorem dL_law_42 : decode cL_law 42 = .ok (.iand, 1) := by decide +kernel
theorem dL_law_43 : decode cL_law 43 = .ok (.tableswitch 2288 0 50 #[217, 281, 321, 373, 413, 441, 469, 509, 549, 589, 629, 669, 765, 817, 881, 933, 973, 1001, 1041, 1081, 1121, 1161, 1213, 1265, 1317, 1369, 1409, 1437, 1477, 1517, 1545, 1597, 1649, 1701, 1741, 1809, 1877, 1917, 1945, 1973, 2001, 2029, 2057, 2085, 2113, 2141, 2181, 2221, 2249, 2262, 2275], 217) := by decide +kernel
theorem dL_law_260 : decode cL_law 260 = .ok (.aload_n 1, 1) := by decide +kernel
theorem dL_law_261 : decode cL_law 261 = .ok (.aload_n 0, 1) := by decide +kernel
theorem dL_law_262 : decode cL_law 262 = .ok (.iload 4, 2) := by decide +kernel
theorem dL_law_264 : decode cL_law 264 = .ok (.iconst 1, 1) := by decide +kernel
theorem dL_law_265 : decode cL_law 265 = .ok (.iadd, 1) := by decide +kernel
theorem dL_law_266 : decode cL_law 266 = .ok (.iaload, 1) := by decide +kernel
theorem dL_law_267 : decode cL_law 267 = .ok (.aload_n 0, 1) := by decide +kernel
theorem dL_law_268 : decode cL_law 268 = .ok (.iload 4, 2) := by decide +kernel
theorem dL_law_270 : decode cL_law 270 = .ok (.iconst 2, 1) := by decide +kernel
theorem dL_law_271 : decode cL_law 271 = .ok (.iadd, 1) := by decide +kernel
theorem dL_law_272 : decode cL_law 272 = .ok (.iaload, 1) := by decide +kernel
theorem dL_law_273 : decode cL_law 273 = .ok (.aload_n 0, 1) := by decide +kernel
theorem dL_law_274 : decode cL_law 274 = .ok (.iload 4, 2) := by decide +kernel
theorem dL_law_276 : decode cL_law 276 = .ok (.iconst 3, 1) := by decide +kernel
theorem dL_law_277 : decode cL_law 277 = .ok (.iadd, 1) := by decide +kernel
theorem dL_law_278 : decode cL_law 278 = .ok (.iaload, 1) := by decide +kernel
theorem dL_law_279 : decode cL_law 279 = .ok (.aload_n 0, 1) := by decide +kernel
theorem dL_law_280 : decode cL_law 280 = .ok (.iload 4, 2) := by decide +kernel
theorem dL_law_282 : decode cL_law 282 = .ok (.iconst 4, 1) := by decide +kernel
theorem dL_law_283 : decode cL_law 283 = .ok (.iadd, 1) := by decide +kernel
theorem dL_law_284 : decode cL_law 284 = .ok (.iaload, 1) := by decide +kernel
theorem dL_law_285 : decode cL_law 285 = .ok (.aload_n 3, 1) := by decide +kernel
theorem dL_law_286 : decode cL_law 286 = .ok (.invokestatic 184, 3) := by decide +kernel
theorem dL_law_289 : decode cL_law 289 = .ok (.istore 5, 2) := by decide +kernel
theorem dL_law_291 : decode cL_law 291 = .ok (.aload_n 2, 1) := by decide +kernel
theorem dL_law_292 : decode cL_law 292 = .ok (.aload_n 0, 1) := by decide +kernel
theorem dL_law_293 : decode cL_law 293 = .ok (.iload 4, 2) := by decide +kernel
theorem dL_law_295 : decode cL_law 295 = .ok (.iconst 1, 1) := by decide +kernel
theorem dL_law_296 : decode cL_law 296 = .ok (.iadd, 1) := by decide +kernel
theorem dL_law_297 : decode cL_law 297 = .ok (.iaload, 1) := by decide +kernel
theorem dL_law_298 : decode cL_law 298 = .ok (.aload_n 0, 1) := by decide +kernel
theorem dL_law_299 : decode cL_law 299 = .ok (.iload 4, 2) := by decide +kernel
theorem dL_law_301 : decode cL_law 301 = .ok (.iconst 2, 1) := by decide +kernel
theorem dL_law_302 : decode cL_law 302 = .ok (.iadd, 1) := by decide +kernel
theorem dL_law_303 : decode cL_law 303 = .ok (.iaload, 1) := by decide +kernel
theorem dL_law_304 : decode cL_law 304 = .ok (.aload_n 0, 1) := by decide +kernel
theorem dL_law_305 : decode cL_law 305 = .ok (.iload 4, 2) := by decide +kernel
theorem dL_law_307 : decode cL_law 307 = .ok (.iconst 3, 1) := by decide +kernel
theorem dL_law_308 : decode cL_law 308 = .ok (.iadd, 1) := by decide +kernel
theorem dL_law_309 : decode cL_law 309 = .ok (.iaload, 1) := by decide +kernel
theorem dL_law_310 : decode cL_law 310 = .ok (.aload_n 0, 1) := by decide +kernel
theorem dL_law_311 : decode cL_law 311 = .ok (.iload 4, 2) := by decide +kernel
theorem dL_law_313 : decode cL_law 313 = .ok (.iconst 4, 1) := by decide +kernel
theorem dL_law_314 : decode cL_law 314 = .ok (.iadd, 1) := by decide +kernel
theorem dL_law_315 : decode cL_law 315 = .ok (.iaload, 1) := by decide +kernel
theorem dL_law_316 : decode cL_law 316 = .ok (.invokevirtual 189, 3) := by decide +kernel
theorem dL_law_319 : decode cL_law 319 = .ok (.istore 6, 2) := by decide +kernel
theorem dL_law_321 : decode cL_law 321 = .ok (.goto 2010, 3) := by decide +kernel
theorem dL_law_324 : decode cL_law 324 = .ok (.aload_n 1, 1) := by decide +kernel
theorem dL_law_325 : decode cL_law 325 = .ok (.aload_n 0, 1) := by decide +kernel
theorem dL_law_326 : decode cL_law 326 = .ok (.iload 4, 2) := by decide +kernel
theorem dL_law_328 : decode cL_law 328 = .ok (.iconst 1, 1) := by decide +kernel
theorem dL_law_329 : decode cL_law 329 = .ok (.iadd, 1) := by decide +kernel
theorem dL_law_330 : decode cL_law 330 = .ok (.iaload, 1) := by decide +kernel
theorem dL_law_331 : decode cL_law 331 = .ok (.aload_n 0, 1) := by decide +kernel
theorem dL_law_332 : decode cL_law 332 = .ok (.iload 4, 2) := by decide +kernel
theorem dL_law_334 : decode cL_law 334 = .ok (.iconst 2, 1) := by decide +kernel
theorem dL_law_335 : decode cL_law 335 = .ok (.iadd, 1) := by decide +kernel
theorem dL_law_336 : decode cL_law 336 = .ok (.iaload, 1) := by decide +kernel
theorem dL_law_337 : decode cL_law 337 = .ok (.aload_n 3, 1) := by decide +kernel
theorem dL_law_338 : decode cL_law 338 = .ok (.invokestatic 190, 3) := by decide +kernel
theorem dL_law_341 : decode cL_law 341 = .ok (.istore 5, 2) := by decide +kernel
theorem dL_law_343 : decode cL_law 343 = .ok (.aload_n 2, 1) := by decide +kernel
theorem dL_law_344 : decode cL_law 344 = .ok (.aload_n 0, 1) := by decide +kernel
theorem dL_law_345 : decode cL_law 345 = .ok (.iload 4, 2) := by decide +kernel
theorem dL_law_347 : decode cL_law 347 = .ok (.iconst 1, 1) := by decide +kernel
theorem dL_law_348 : decode cL_law 348 = .ok (.iadd, 1) := by decide +kernel
theorem dL_law_349 : decode cL_law 349 = .ok (.iaload, 1) := by decide +kernel
theorem dL_law_350 : decode cL_law 350 = .ok (.aload_n 0, 1) := by decide +kernel
theorem dL_law_351 : decode cL_law 351 = .ok (.iload 4, 2) := by decide +kernel
theorem dL_law_353 : decode cL_law 353 = .ok (.iconst 2, 1) := by decide +kernel
theorem dL_law_354 : decode cL_law 354 = .ok (.iadd, 1) := by decide +kernel
theorem dL_law_355 : decode cL_law 355 = .ok (.iaload, 1) := by decide +kernel
theorem dL_law_356 : decode cL_law 356 = .ok (.invokevirtual 193, 3) := by decide +kernel
theorem dL_law_359 : decode cL_law 359 = .ok (.istore 6, 2) := by decide +kernel
theorem dL_law_361 : decode cL_law 361 = .ok (.goto 1970, 3) := by decide +kernel
theorem dL_law_364 : decode cL_law 364 = .ok (.aload_n 1, 1) := by decide +kernel
theorem dL_law_365 : decode cL_law 365 = .ok (.aload_n 0, 1) := by decide +kernel
theorem dL_law_366 : decode cL_law 366 = .ok (.iload 4, 2) := by decide +kernel
theorem dL_law_368 : decode cL_law 368 = .ok (.iconst 1, 1) := by decide +kernel
theorem dL_law_369 : decode cL_law 369 = .ok (.iadd, 1) := by decide +kernel
theorem dL_law_370 : decode cL_law 370 = .ok (.iaload, 1) := by decide +kernel
theorem dL_law_371 : decode cL_law 371 = .ok (.aload_n 0, 1) := by decide +kernel
theorem dL_law_372 : decode cL_law 372 = .ok (.iload 4, 2) := by decide +kernel
theorem dL_law_374 : decode cL_law 374 = .ok (.iconst 2, 1) := by decide +kernel
theorem dL_law_375 : decode cL_law 375 = .ok (.iadd, 1) := by decide +kernel
theorem dL_law_376 : decode cL_law 376 = .ok (.iaload, 1) := by decide +kernel
theorem dL_law_377 : decode cL_law 377 = .ok (.aload_n 0, 1) := by decide +kernel
theorem dL_law_378 : decode cL_law 378 = .ok (.iload 4, 2) := by decide +kernel
theorem dL_law_380 : decode cL_law 380 = .ok (.iconst 3, 1) := by decide +kernel
theorem dL_law_381 : decode cL_law 381 = .ok (.iadd, 1) := by decide +kernel
theorem dL_law_382 : decode cL_law 382 = .ok (.iaload, 1) := by decide +kernel
theorem dL_law_383 : decode cL_law 383 = .ok (.aload_n 3, 1) := by decide +kernel
theorem dL_law_384 : decode cL_law 384 = .ok (.invokestatic 194, 3) := by decide +kernel
theorem dL_law_387 : decode cL_law 387 = .ok (.istore 5, 2) := by decide +kernel
theorem dL_law_389 : decode cL_law 389 = .ok (.aload_n 2, 1) := by decide +kernel
theorem dL_law_390 : decode cL_law 390 = .ok (.aload_n 0, 1) := by decide +kernel
theorem dL_law_391 : decode cL_law 391 = .ok (.iload 4, 2) := by decide +kernel
theorem dL_law_393 : decode cL_law 393 = .ok (.iconst 1, 1) := by decide +kernel
theorem dL_law_394 : decode cL_law 394 = .ok (.iadd, 1) := by decide +kernel
theorem dL_law_395 : decode cL_law 395 = .ok (.iaload, 1) := by decide +kernel
theorem dL_law_396 : decode cL_law 396 = .ok (.aload_n 0, 1) := by decide +kernel
theorem dL_law_397 : decode cL_law 397 = .ok (.iload 4, 2) := by decide +kernel
theorem dL_law_399 : decode cL_law 399 = .ok (.iconst 2, 1) := by decide +kernel
theorem dL_law_400 : decode cL_law 400 = .ok (.iadd, 1) := by decide +kernel
theorem dL_law_401 : decode cL_law 401 = .ok (.iaload, 1) := by decide +kernel
theorem dL_law_402 : decode cL_law 402 = .ok (.aload_n 0, 1) := by decide +kernel
theorem dL_law_403 : decode cL_law 403 = .ok (.iload 4, 2) := by decide +kernel
theorem dL_law_405 : decode cL_law 405 = .ok (.iconst 3, 1) := by decide +kernel
theorem dL_law_406 : decode cL_law 406 = .ok (.iadd, 1) := by decide +kernel
theorem dL_law_407 : decode cL_law 407 = .ok (.iaload, 1) := by decide +kernel
theorem dL_law_408 : decode cL_law 408 = .ok (.invokevirtual 197, 3) := by decide +kernel
theorem dL_law_411 : decode cL_law 411 = .ok (.istore 6, 2) := by decide +kernel
theorem dL_law_413 : decode cL_law 413 = .ok (.goto 1918, 3) := by decide +kernel
theorem dL_law_416 : decode cL_law 416 = .ok (.aload_n 1, 1) := by decide +kernel
theorem dL_law_417 : decode cL_law 417 = .ok (.aload_n 0, 1) := by decide +kernel
theorem dL_law_418 : decode cL_law 418 = .ok (.iload 4, 2) := by decide +kernel
theorem dL_law_420 : decode cL_law 420 = .ok (.iconst 1, 1) := by decide +kernel
theorem dL_law_421 : decode cL_law 421 = .ok (.iadd, 1) := by decide +kernel
theorem dL_law_422 : decode cL_law 422 = .ok (.iaload, 1) := by decide +kernel
theorem dL_law_423 : decode cL_law 423 = .ok (.aload_n 0, 1) := by decide +kernel
theorem dL_law_424 : decode cL_law 424 = .ok (.iload 4, 2) := by decide +kernel
theorem dL_law_426 : decode cL_law 426 = .ok (.iconst 2, 1) := by decide +kernel
theorem dL_law_427 : decode cL_law 427 = .ok (.iadd, 1) := by decide +kernel
theorem dL_law_428 : decode cL_law 428 = .ok (.iaload, 1) := by decide +kernel
theorem dL_law_429 : decode cL_law 429 = .ok (.aload_n 3, 1) := by decide +kernel
theorem dL_law_430 : decode cL_law 430 = .ok (.invokestatic 198, 3) := by decide +kernel
theorem dL_law_433 : decode cL_law 433 = .ok (.istore 5, 2) := by decide +kernel
theorem dL_law_435 : decode cL_law 435 = .ok (.aload_n 2, 1) := by decide +kernel
theorem dL_law_436 : decode cL_law 436 = .ok (.aload_n 0, 1) := by decide +kernel
theorem dL_law_437 : decode cL_law 437 = .ok (.iload 4, 2) := by decide +kernel
theorem dL_law_439 : decode cL_law 439 = .ok (.iconst 1, 1) := by decide +kernel
theorem dL_law_440 : decode cL_law 440 = .ok (.iadd, 1) := by decide +kernel
theorem dL_law_441 : decode cL_law 441 = .ok (.iaload, 1) := by decide +kernel
theorem dL_law_442 : decode cL_law 442 = .ok (.aload_n 0, 1) := by decide +kernel
theorem dL_law_443 : decode cL_law 443 = .ok (.iload 4, 2) := by decide +kernel
theorem dL_law_445 : decode cL_law 445 = .ok (.iconst 2, 1) := by decide +kernel
theorem dL_law_446 : decode cL_law 446 = .ok (.iadd, 1) := by decide +kernel
theorem dL_law_447 : decode cL_law 447 = .ok (.iaload, 1) := by decide +kernel
theorem dL_law_448 : decode cL_law 448 = .ok (.invokevirtual 200, 3) := by decide +kernel
theorem dL_law_451 : decode cL_law 451 = .ok (.istore 6, 2) := by decide +kernel
theorem dL_law_453 : decode cL_law 453 = .ok (.goto 1878, 3) := by decide +kernel
theorem dL_law_456 : decode cL_law 456 = .ok (.aload_n 1, 1) := by decide +kernel
theorem dL_law_457 : decode cL_law 457 = .ok (.aload_n 0, 1) := by decide +kernel
theorem dL_law_458 : decode cL_law 458 = .ok (.iload 4, 2) := by decide +kernel
theorem dL_law_460 : decode cL_law 460 = .ok (.iconst 1, 1) := by decide +kernel
theorem dL_law_461 : decode cL_law 461 = .ok (.iadd, 1) := by decide +kernel
theorem dL_law_462 : decode cL_law 462 = .ok (.iaload, 1) := by decide +kernel
theorem dL_law_463 : decode cL_law 463 = .ok (.aload_n 3, 1) := by decide +kernel
theorem dL_law_464 : decode cL_law 464 = .ok (.invokestatic 201, 3) := by decide +kernel
theorem dL_law_467 : decode cL_law 467 = .ok (.istore 5, 2) := by decide +kernel
theorem dL_law_469 : decode cL_law 469 = .ok (.aload_n 2, 1) := by decide +kernel
theorem dL_law_470 : decode cL_law 470 = .ok (.aload_n 0, 1) := by decide +kernel
theorem dL_law_471 : decode cL_law 471 = .ok (.iload 4, 2) := by decide +kernel
theorem dL_law_473 : decode cL_law 473 = .ok (.iconst 1, 1) := by decide +kernel
theorem dL_law_474 : decode cL_law 474 = .ok (.iadd, 1) := by decide +kernel
theorem dL_law_475 : decode cL_law 475 = .ok (.iaload, 1) := by decide +kernel
theorem dL_law_476 : decode cL_law 476 = .ok (.invokevirtual 204, 3) := by decide +kernel
theorem dL_law_479 : decode cL_law 479 = .ok (.istore 6, 2) := by decide +kernel
theorem dL_law_481 : decode cL_law 481 = .ok (.goto 1850, 3) := by decide +kernel
theorem dL_law_484 : decode cL_law 484 = .ok (.aload_n 1, 1) := by decide +kernel
theorem dL_law_485 : decode cL_law 485 = .ok (.aload_n 0, 1) := by decide +kernel
theorem dL_law_486 : decode cL_law 486 = .ok (.iload 4, 2) := by decide +kernel
theorem dL_law_488 : decode cL_law 488 = .ok (.iconst 1, 1) := by decide +kernel
theorem dL_law_489 : decode cL_law 489 = .ok (.iadd, 1) := by decide +kernel
theorem dL_law_490 : decode cL_law 490 = .ok (.iaload, 1) := by decide +kernel
theorem dL_law_491 : decode cL_law 491 = .ok (.aload_n 3, 1) := by decide +kernel
theorem dL_law_492 : decode cL_law 492 = .ok (.invokestatic 205, 3) := by decide +kernel
theorem dL_law_495 : decode cL_law 495 = .ok (.istore 5, 2) := by decide +kernel
theorem dL_law_497 : decode cL_law 497 = .ok (.aload_n 2, 1) := by decide +kernel
theorem dL_law_498 : decode cL_law 498 = .ok (.aload_n 0, 1) := by decide +kernel
theorem dL_law_499 : decode cL_law 499 = .ok (.iload 4, 2) := by decide +kernel
theorem dL_law_501 : decode cL_law 501 = .ok (.iconst 1, 1) := by decide +kernel
theorem dL_law_502 : decode cL_law 502 = .ok (.iadd, 1) := by decide +kernel
theorem dL_law_503 : decode cL_law 503 = .ok (.iaload, 1) := by decide +kernel
theorem dL_law_504 : decode cL_law 504 = .ok (.invokevirtual 207, 3) := by decide +kernel
theorem dL_law_507 : decode cL_law 507 = .ok (.istore 6, 2) := by decide +kernel
theorem dL_law_509 : decode cL_law 509 = .ok (.goto 1822, 3) := by decide +kernel
theorem dL_law_512 : decode cL_law 512 = .ok (.aload_n 1, 1) := by decide +kernel
theorem dL_law_513 : decode cL_law 513 = .ok (.aload_n 0, 1) := by decide +kernel
theorem dL_law_514 : decode cL_law 514 = .ok (.iload 4, 2) := by decide +kernel
theorem dL_law_516 : decode cL_law 516 = .ok (.iconst 1, 1) := by decide +kernel
theorem dL_law_517 : decode cL_law 517 = .ok (.iadd, 1) := by decide +kernel
theorem dL_law_518 : decode cL_law 518 = .ok (.iaload, 1) := by decide +kernel
theorem dL_law_519 : decode cL_law 519 = .ok (.aload_n 0, 1) := by decide +kernel
theorem dL_law_520 : decode cL_law 520 = .ok (.iload 4, 2) := by decide +kernel
theorem dL_law_522 : decode cL_law 522 = .ok (.iconst 2, 1) := by decide +kernel
theorem dL_law_523 : decode cL_law 523 = .ok (.iadd, 1) := by decide +kernel
theorem dL_law_524 : decode cL_law 524 = .ok (.iaload, 1) := by decide +kernel
theorem dL_law_525 : decode cL_law 525 = .ok (.aload_n 3, 1) := by decide +kernel
theorem dL_law_526 : decode cL_law 526 = .ok (.invokestatic 208, 3) := by decide +kernel
theorem dL_law_529 : decode cL_law 529 = .ok (.istore 5, 2) := by decide +kernel
theorem dL_law_531 : decode cL_law 531 = .ok (.aload_n 2, 1) := by decide +kernel
theorem dL_law_532 : decode cL_law 532 = .ok (.aload_n 0, 1) := by decide +kernel
theorem dL_law_533 : decode cL_law 533 = .ok (.iload 4, 2) := by decide +kernel
theorem dL_law_535 : decode cL_law 535 = .ok (.iconst 1, 1) := by decide +kernel
theorem dL_law_536 : decode cL_law 536 = .ok (.iadd, 1) := by decide +kernel
theorem dL_law_537 : decode cL_law 537 = .ok (.iaload, 1) := by decide +kernel
theorem dL_law_538 : decode cL_law 538 = .ok (.aload_n 0, 1) := by decide +kernel
theorem dL_law_539 : decode cL_law 539 = .ok (.iload 4, 2) := by decide +kernel
theorem dL_law_541 : decode cL_law 541 = .ok (.iconst 2, 1) := by decide +kernel
theorem dL_law_542 : decode cL_law 542 = .ok (.iadd, 1) := by decide +kernel
theorem dL_law_543 : decode cL_law 543 = .ok (.iaload, 1) := by decide +kernel
theorem dL_law_544 : decode cL_law 544 = .ok (.invokevirtual 210, 3) := by decide +kernel
theorem dL_law_547 : decode cL_law 547 = .ok (.istore 6, 2) := by decide +kernel
theorem dL_law_549 : decode cL_law 549 = .ok (.goto 1782, 3) := by decide +kernel
theorem dL_law_552 : decode cL_law 552 = .ok (.aload_n 1, 1) := by decide +kernel
theorem dL_law_553 : decode cL_law 553 = .ok (.aload_n 0, 1) := by decide +kernel
theorem dL_law_554 : decode cL_law 554 = .ok (.iload 4, 2) := by decide +kernel
theorem dL_law_556 : decode cL_law 556 = .ok (.iconst 1, 1) := by decide +kernel
theorem dL_law_557 : decode cL_law 557 = .ok (.iadd, 1) := by decide +kernel
theorem dL_law_558 : decode cL_law 558 = .ok (.iaload, 1) := by decide +kernel
theorem dL_law_559 : decode cL_law 559 = .ok (.aload_n 0, 1) := by decide +kernel
theorem dL_law_560 : decode cL_law 560 = .ok (.iload 4, 2) := by decide +kernel
theorem dL_law_562 : decode cL_law 562 = .ok (.iconst 2, 1) := by decide +kernel
theorem dL_law_563 : decode cL_law 563 = .ok (.iadd, 1) := by decide +kernel
theorem dL_law_564 : decode cL_law 564 = .ok (.iaload, 1) := by decide +kernel
theorem dL_law_565 : decode cL_law 565 = .ok (.aload_n 3, 1) := by decide +kernel
theorem dL_law_566 : decode cL_law 566 = .ok (.invokestatic 211, 3) := by decide +kernel
theorem dL_law_569 : decode cL_law 569 = .ok (.istore 5, 2) := by decide +kernel
theorem dL_law_571 : decode cL_law 571 = .ok (.aload_n 2, 1) := by decide +kernel
theorem dL_law_572 : decode cL_law 572 = .ok (.aload_n 0, 1) := by decide +kernel
theorem dL_law_573 : decode cL_law 573 = .ok (.iload 4, 2) := by decide +kernel
theorem dL_law_575 : decode cL_law 575 = .ok (.iconst 1, 1) := by decide +kernel
theorem dL_law_576 : decode cL_law 576 = .ok (.iadd, 1) := by decide +kernel
theorem dL_law_577 : decode cL_law 577 = .ok (.iaload, 1) := by decide +kernel
theorem dL_law_578 : decode cL_law 578 = .ok (.aload_n 0, 1) := by decide +kernel
theorem dL_law_579 : decode cL_law 579 = .ok (.iload 4, 2) := by decide +kernel
theorem dL_law_581 : decode cL_law 581 = .ok (.iconst 2, 1) := by decide +kernel
theorem dL_law_582 : decode cL_law 582 = .ok (.iadd, 1) := by decide +kernel
theorem dL_law_583 : decode cL_law 583 = .ok (.iaload, 1) := by decide +kernel
theorem dL_law_584 : decode cL_law 584 = .ok (.invokevirtual 213, 3) := by decide +kernel
theorem dL_law_587 : decode cL_law 587 = .ok (.istore 6, 2) := by decide +kernel
theorem dL_law_589 : decode cL_law 589 = .ok (.goto 1742, 3) := by decide +kernel
theorem dL_law_592 : decode cL_law 592 = .ok (.aload_n 1, 1) := by decide +kernel
theorem dL_law_593 : decode cL_law 593 = .ok (.aload_n 0, 1) := by decide +kernel
theorem dL_law_594 : decode cL_law 594 = .ok (.iload 4, 2) := by decide +kernel
theorem dL_law_596 : decode cL_law 596 = .ok (.iconst 1, 1) := by decide +kernel
theorem dL_law_597 : decode cL_law 597 = .ok (.iadd, 1) := by decide +kernel
theorem dL_law_598 : decode cL_law 598 = .ok (.iaload, 1) := by decide +kernel
theorem dL_law_599 : decode cL_law 599 = .ok (.aload_n 0, 1) := by decide +kernel
theorem dL_law_600 : decode cL_law 600 = .ok (.iload 4, 2) := by decide +kernel
theorem dL_law_602 : decode cL_law 602 = .ok (.iconst 2, 1) := by decide +kernel
theorem dL_law_603 : decode cL_law 603 = .ok (.iadd, 1) := by decide +kernel
theorem dL_law_604 : decode cL_law 604 = .ok (.iaload, 1) := by decide +kernel
theorem dL_law_605 : decode cL_law 605 = .ok (.aload_n 3, 1) := by decide +kernel
theorem dL_law_606 : decode cL_law 606 = .ok (.invokestatic 214, 3) := by decide +kernel
theorem dL_law_609 : decode cL_law 609 = .ok (.istore 5, 2) := by decide +kernel
theorem dL_law_611 : decode cL_law 611 = .ok (.aload_n 2, 1) := by decide +kernel
theorem dL_law_612 : decode cL_law 612 = .ok (.aload_n 0, 1) := by decide +kernel
theorem dL_law_613 : decode cL_law 613 = .ok (.iload 4, 2) := by decide +kernel
theorem dL_law_615 : decode cL_law 615 = .ok (.iconst 1, 1) := by decide +kernel
theorem dL_law_616 : decode cL_law 616 = .ok (.iadd, 1) := by decide +kernel
theorem dL_law_617 : decode cL_law 617 = .ok (.iaload, 1) := by decide +kernel
theorem dL_law_618 : decode cL_law 618 = .ok (.aload_n 0, 1) := by decide +kernel
theorem dL_law_619 : decode cL_law 619 = .ok (.iload 4, 2) := by decide +kernel
theorem dL_law_621 : decode cL_law 621 = .ok (.iconst 2, 1) := by decide +kernel
theorem dL_law_622 : decode cL_law 622 = .ok (.iadd, 1) := by decide +kernel
theorem dL_law_623 : decode cL_law 623 = .ok (.iaload, 1) := by decide +kernel
theorem dL_law_624 : decode cL_law 624 = .ok (.invokevirtual 216, 3) := by decide +kernel
theorem dL_law_627 : decode cL_law 627 = .ok (.istore 6, 2) := by decide +kernel
theorem dL_law_629 : decode cL_law 629 = .ok (.goto 1702, 3) := by decide +kernel
theorem dL_law_632 : decode cL_law 632 = .ok (.aload_n 1, 1) := by decide +kernel
theorem dL_law_633 : decode cL_law 633 = .ok (.aload_n 0, 1) := by decide +kernel
theorem dL_law_634 : decode cL_law 634 = .ok (.iload 4, 2) := by decide +kernel
theorem dL_law_636 : decode cL_law 636 = .ok (.iconst 1, 1) := by decide +kernel
theorem dL_law_637 : decode cL_law 637 = .ok (.iadd, 1) := by decide +kernel
theorem dL_law_638 : decode cL_law 638 = .ok (.iaload, 1) := by decide +kernel
theorem dL_law_639 : decode cL_law 639 = .ok (.aload_n 0, 1) := by decide +kernel
theorem dL_law_640 : decode cL_law 640 = .ok (.iload 4, 2) := by decide +kernel
theorem dL_law_642 : decode cL_law 642 = .ok (.iconst 2, 1) := by decide +kernel
theorem dL_law_643 : decode cL_law 643 = .ok (.iadd, 1) := by decide +kernel
theorem dL_law_644 : decode cL_law 644 = .ok (.iaload, 1) := by decide +kernel
theorem dL_law_645 : decode cL_law 645 = .ok (.aload_n 3, 1) := by decide +kernel
theorem dL_law_646 : decode cL_law 646 = .ok (.invokestatic 217, 3) := by decide +kernel
theorem dL_law_649 : decode cL_law 649 = .ok (.istore 5, 2) := by decide +kernel
theorem dL_law_651 : decode cL_law 651 = .ok (.aload_n 2, 1) := by decide +kernel
theorem dL_law_652 : decode cL_law 652 = .ok (.aload_n 0, 1) := by decide +kernel
theorem dL_law_653 : decode cL_law 653 = .ok (.iload 4, 2) := by decide +kernel
theorem dL_law_655 : decode cL_law 655 = .ok (.iconst 1, 1) := by decide +kernel
theorem dL_law_656 : decode cL_law 656 = .ok (.iadd, 1) := by decide +kernel
theorem dL_law_657 : decode cL_law 657 = .ok (.iaload, 1) := by decide +kernel
theorem dL_law_658 : decode cL_law 658 = .ok (.aload_n 0, 1) := by decide +kernel
theorem dL_law_659 : decode cL_law 659 = .ok (.iload 4, 2) := by decide +kernel
theorem dL_law_661 : decode cL_law 661 = .ok (.iconst 2, 1) := by decide +kernel
theorem dL_law_662 : decode cL_law 662 = .ok (.iadd, 1) := by decide +kernel
theorem dL_law_663 : decode cL_law 663 = .ok (.iaload, 1) := by decide +kernel
theorem dL_law_664 : decode cL_law 664 = .ok (.invokevirtual 219, 3) := by decide +kernel
theorem dL_law_667 : decode cL_law 667 = .ok (.istore 6, 2) := by decide +kernel
theorem dL_law_669 : decode cL_law 669 = .ok (.goto 1662, 3) := by decide +kernel
theorem dL_law_672 : decode cL_law 672 = .ok (.aload_n 1, 1) := by decide +kernel
theorem dL_law_673 : decode cL_law 673 = .ok (.aload_n 0, 1) := by decide +kernel
theorem dL_law_674 : decode cL_law 674 = .ok (.iload 4, 2) := by decide +kernel
theorem dL_law_676 : decode cL_law 676 = .ok (.iconst 1, 1) := by decide +kernel
theorem dL_law_677 : decode cL_law 677 = .ok (.iadd, 1) := by decide +kernel
theorem dL_law_678 : decode cL_law 678 = .ok (.iaload, 1) := by decide +kernel
theorem dL_law_679 : decode cL_law 679 = .ok (.aload_n 0, 1) := by decide +kernel
theorem dL_law_680 : decode cL_law 680 = .ok (.iload 4, 2) := by decide +kernel
theorem dL_law_682 : decode cL_law 682 = .ok (.iconst 2, 1) := by decide +kernel
theorem dL_law_683 : decode cL_law 683 = .ok (.iadd, 1) := by decide +kernel
theorem dL_law_684 : decode cL_law 684 = .ok (.iaload, 1) := by decide +kernel
theorem dL_law_685 : decode cL_law 685 = .ok (.aload_n 3, 1) := by decide +kernel
theorem dL_law_686 : decode cL_law 686 = .ok (.invokestatic 220, 3) := by decide +kernel
theorem dL_law_689 : decode cL_law 689 = .ok (.istore 5, 2) := by decide +kernel
theorem dL_law_691 : decode cL_law 691 = .ok (.aload_n 2, 1) := by decide +kernel
theorem dL_law_692 : decode cL_law 692 = .ok (.aload_n 0, 1) := by decide +kernel
theorem dL_law_693 : decode cL_law 693 = .ok (.iload 4, 2) := by decide +kernel
theorem dL_law_695 : decode cL_law 695 = .ok (.iconst 1, 1) := by decide +kernel
theorem dL_law_696 : decode cL_law 696 = .ok (.iadd, 1) := by decide +kernel
theorem dL_law_697 : decode cL_law 697 = .ok (.iaload, 1) := by decide +kernel
theorem dL_law_698 : decode cL_law 698 = .ok (.aload_n 0, 1) := by decide +kernel
theorem dL_law_699 : decode cL_law 699 = .ok (.iload 4, 2) := by decide +kernel
theorem dL_law_701 : decode cL_law 701 = .ok (.iconst 2, 1) := by decide +kernel
theorem dL_law_702 : decode cL_law 702 = .ok (.iadd, 1) := by decide +kernel
theorem dL_law_703 : decode cL_law 703 = .ok (.iaload, 1) := by decide +kernel
theorem dL_law_704 : decode cL_law 704 = .ok (.invokevirtual 222, 3) := by decide +kernel
theorem dL_law_707 : decode cL_law 707 = .ok (.istore 6, 2) := by decide +kernel
theorem dL_law_709 : decode cL_law 709 = .ok (.goto 1622, 3) := by decide +kernel
theorem dL_law_712 : decode cL_law 712 = .ok (.aload_n 1, 1) := by decide +kernel
theorem dL_law_713 : decode cL_law 713 = .ok (.aload_n 0, 1) := by decide +kernel
theorem dL_law_714 : decode cL_law 714 = .ok (.iload 4, 2) := by decide +kernel
theorem dL_law_716 : decode cL_law 716 = .ok (.iconst 1, 1) := by decide +kernel
theorem dL_law_717 : decode cL_law 717 = .ok (.iadd, 1) := by decide +kernel
theorem dL_law_718 : decode cL_law 718 = .ok (.iaload, 1) := by decide +kernel
theorem dL_law_719 : decode cL_law 719 = .ok (.aload_n 0, 1) := by decide +kernel
theorem dL_law_720 : decode cL_law 720 = .ok (.iload 4, 2) := by decide +kernel
theorem dL_law_722 : decode cL_law 722 = .ok (.iconst 2, 1) := by decide +kernel
theorem dL_law_723 : decode cL_law 723 = .ok (.iadd, 1) := by decide +kernel
theorem dL_law_724 : decode cL_law 724 = .ok (.iaload, 1) := by decide +kernel
theorem dL_law_725 : decode cL_law 725 = .ok (.aload_n 0, 1) := by decide +kernel
theorem dL_law_726 : decode cL_law 726 = .ok (.iload 4, 2) := by decide +kernel
theorem dL_law_728 : decode cL_law 728 = .ok (.iconst 3, 1) := by decide +kernel
theorem dL_law_729 : decode cL_law 729 = .ok (.iadd, 1) := by decide +kernel
theorem dL_law_730 : decode cL_law 730 = .ok (.iaload, 1) := by decide +kernel
theorem dL_law_731 : decode cL_law 731 = .ok (.ifCond .eq 7, 3) := by decide +kernel
theorem dL_law_734 : decode cL_law 734 = .ok (.iconst 1, 1) := by decide +kernel
theorem dL_law_735 : decode cL_law 735 = .ok (.goto 4, 3) := by decide +kernel
theorem dL_law_738 : decode cL_law 738 = .ok (.iconst 0, 1) := by decide +kernel
theorem dL_law_739 : decode cL_law 739 = .ok (.aload_n 0, 1) := by decide +kernel
theorem dL_law_740 : decode cL_law 740 = .ok (.iload 4, 2) := by decide +kernel
theorem dL_law_742 : decode cL_law 742 = .ok (.iconst 4, 1) := by decide +kernel
theorem dL_law_743 : decode cL_law 743 = .ok (.iadd, 1) := by decide +kernel
theorem dL_law_744 : decode cL_law 744 = .ok (.iaload, 1) := by decide +kernel
theorem dL_law_745 : decode cL_law 745 = .ok (.ifCond .eq 7, 3) := by decide +kernel
theorem dL_law_748 : decode cL_law 748 = .ok (.iconst 1, 1) := by decide +kernel
theorem dL_law_749 : decode cL_law 749 = .ok (.goto 4, 3) := by decide +kernel
theorem dL_law_752 : decode cL_law 752 = .ok (.iconst 0, 1) := by decide +kernel
theorem dL_law_753 : decode cL_law 753 = .ok (.aload_n 3, 1) := by decide +kernel
theorem dL_law_754 : decode cL_law 754 = .ok (.invokestatic 223, 3) := by decide +kernel
theorem dL_law_757 : decode cL_law 757 = .ok (.istore 5, 2) := by decide +kernel
theorem dL_law_759 : decode cL_law 759 = .ok (.aload_n 2, 1) := by decide +kernel
theorem dL_law_760 : decode cL_law 760 = .ok (.aload_n 0, 1) := by decide +kernel
theorem dL_law_761 : decode cL_law 761 = .ok (.iload 4, 2) := by decide +kernel
theorem dL_law_763 : decode cL_law 763 = .ok (.iconst 1, 1) := by decide +kernel
theorem dL_law_764 : decode cL_law 764 = .ok (.iadd, 1) := by decide +kernel
theorem dL_law_765 : decode cL_law 765 = .ok (.iaload, 1) := by decide +kernel
theorem dL_law_766 : decode cL_law 766 = .ok (.aload_n 0, 1) := by decide +kernel
theorem dL_law_767 : decode cL_law 767 = .ok (.iload 4, 2) := by decide +kernel
theorem dL_law_769 : decode cL_law 769 = .ok (.iconst 2, 1) := by decide +kernel
theorem dL_law_770 : decode cL_law 770 = .ok (.iadd, 1) := by decide +kernel
theorem dL_law_771 : decode cL_law 771 = .ok (.iaload, 1) := by decide +kernel
theorem dL_law_772 : decode cL_law 772 = .ok (.aload_n 0, 1) := by decide +kernel
theorem dL_law_773 : decode cL_law 773 = .ok (.iload 4, 2) := by decide +kernel
theorem dL_law_775 : decode cL_law 775 = .ok (.iconst 3, 1) := by decide +kernel
theorem dL_law_776 : decode cL_law 776 = .ok (.iadd, 1) := by decide +kernel
theorem dL_law_777 : decode cL_law 777 = .ok (.iaload, 1) := by decide +kernel
theorem dL_law_778 : decode cL_law 778 = .ok (.ifCond .eq 7, 3) := by decide +kernel
theorem dL_law_781 : decode cL_law 781 = .ok (.iconst 1, 1) := by decide +kernel
theorem dL_law_782 : decode cL_law 782 = .ok (.goto 4, 3) := by decide +kernel
theorem dL_law_785 : decode cL_law 785 = .ok (.iconst 0, 1) := by decide +kernel
theorem dL_law_786 : decode cL_law 786 = .ok (.aload_n 0, 1) := by decide +kernel
theorem dL_law_787 : decode cL_law 787 = .ok (.iload 4, 2) := by decide +kernel
theorem dL_law_789 : decode cL_law 789 = .ok (.iconst 4, 1) := by decide +kernel
theorem dL_law_790 : decode cL_law 790 = .ok (.iadd, 1) := by decide +kernel
theorem dL_law_791 : decode cL_law 791 = .ok (.iaload, 1) := by decide +kernel
theorem dL_law_792 : decode cL_law 792 = .ok (.ifCond .eq 7, 3) := by decide +kernel
theorem dL_law_795 : decode cL_law 795 = .ok (.iconst 1, 1) := by decide +kernel
theorem dL_law_796 : decode cL_law 796 = .ok (.goto 4, 3) := by decide +kernel
theorem dL_law_799 : decode cL_law 799 = .ok (.iconst 0, 1) := by decide +kernel
theorem dL_law_800 : decode cL_law 800 = .ok (.invokevirtual 226, 3) := by decide +kernel
theorem dL_law_803 : decode cL_law 803 = .ok (.istore 6, 2) := by decide +kernel
theorem dL_law_805 : decode cL_law 805 = .ok (.goto 1526, 3) := by decide +kernel
theorem dL_law_808 : decode cL_law 808 = .ok (.aload_n 1, 1) := by decide +kernel
theorem dL_law_809 : decode cL_law 809 = .ok (.aload_n 0, 1) := by decide +kernel
theorem dL_law_810 : decode cL_law 810 = .ok (.iload 4, 2) := by decide +kernel
theorem dL_law_812 : decode cL_law 812 = .ok (.iconst 1, 1) := by decide +kernel
theorem dL_law_813 : decode cL_law 813 = .ok (.iadd, 1) := by decide +kernel
theorem dL_law_814 : decode cL_law 814 = .ok (.iaload, 1) := by decide +kernel
theorem dL_law_815 : decode cL_law 815 = .ok (.aload_n 0, 1) := by decide +kernel
theorem dL_law_816 : decode cL_law 816 = .ok (.iload 4, 2) := by decide +kernel
theorem dL_law_818 : decode cL_law 818 = .ok (.iconst 2, 1) := by decide +kernel
theorem dL_law_819 : decode cL_law 819 = .ok (.iadd, 1) := by decide +kernel
theorem dL_law_820 : decode cL_law 820 = .ok (.iaload, 1) := by decide +kernel
theorem dL_law_821 : decode cL_law 821 = .ok (.aload_n 0, 1) := by decide +kernel
theorem dL_law_822 : decode cL_law 822 = .ok (.iload 4, 2) := by decide +kernel
theorem dL_law_824 : decode cL_law 824 = .ok (.iconst 3, 1) := by decide +kernel
theorem dL_law_825 : decode cL_law 825 = .ok (.iadd, 1) := by decide +kernel
theorem dL_law_826 : decode cL_law 826 = .ok (.iaload, 1) := by decide +kernel
theorem dL_law_827 : decode cL_law 827 = .ok (.aload_n 3, 1) := by decide +kernel
theorem dL_law_828 : decode cL_law 828 = .ok (.invokestatic 227, 3) := by decide +kernel
theorem dL_law_831 : decode cL_law 831 = .ok (.istore 5, 2) := by decide +kernel
theorem dL_law_833 : decode cL_law 833 = .ok (.aload_n 2, 1) := by decide +kernel
theorem dL_law_834 : decode cL_law 834 = .ok (.aload_n 0, 1) := by decide +kernel
theorem dL_law_835 : decode cL_law 835 = .ok (.iload 4, 2) := by decide +kernel
theorem dL_law_837 : decode cL_law 837 = .ok (.iconst 1, 1) := by decide +kernel
theorem dL_law_838 : decode cL_law 838 = .ok (.iadd, 1) := by decide +kernel
theorem dL_law_839 : decode cL_law 839 = .ok (.iaload, 1) := by decide +kernel
theorem dL_law_840 : decode cL_law 840 = .ok (.aload_n 0, 1) := by decide +kernel
theorem dL_law_841 : decode cL_law 841 = .ok (.iload 4, 2) := by decide +kernel
theorem dL_law_843 : decode cL_law 843 = .ok (.iconst 2, 1) := by decide +kernel
theorem dL_law_844 : decode cL_law 844 = .ok (.iadd, 1) := by decide +kernel
theorem dL_law_845 : decode cL_law 845 = .ok (.iaload, 1) := by decide +kernel
theorem dL_law_846 : decode cL_law 846 = .ok (.aload_n 0, 1) := by decide +kernel
theorem dL_law_847 : decode cL_law 847 = .ok (.iload 4, 2) := by decide +kernel
theorem dL_law_849 : decode cL_law 849 = .ok (.iconst 3, 1) := by decide +kernel
theorem dL_law_850 : decode cL_law 850 = .ok (.iadd, 1) := by decide +kernel
theorem dL_law_851 : decode cL_law 851 = .ok (.iaload, 1) := by decide +kernel
theorem dL_law_852 : decode cL_law 852 = .ok (.invokevirtual 229, 3) := by decide +kernel
theorem dL_law_855 : decode cL_law 855 = .ok (.istore 6, 2) := by decide +kernel
theorem dL_law_857 : decode cL_law 857 = .ok (.goto 1474, 3) := by decide +kernel
theorem dL_law_860 : decode cL_law 860 = .ok (.aload_n 1, 1) := by decide +kernel
theorem dL_law_861 : decode cL_law 861 = .ok (.aload_n 0, 1) := by decide +kernel
theorem dL_law_862 : decode cL_law 862 = .ok (.iload 4, 2) := by decide +kernel
theorem dL_law_864 : decode cL_law 864 = .ok (.iconst 1, 1) := by decide +kernel
theorem dL_law_865 : decode cL_law 865 = .ok (.iadd, 1) := by decide +kernel
theorem dL_law_866 : decode cL_law 866 = .ok (.iaload, 1) := by decide +kernel
theorem dL_law_867 : decode cL_law 867 = .ok (.aload_n 0, 1) := by decide +kernel
theorem dL_law_868 : decode cL_law 868 = .ok (.iload 4, 2) := by decide +kernel
theorem dL_law_870 : decode cL_law 870 = .ok (.iconst 2, 1) := by decide +kernel
theorem dL_law_871 : decode cL_law 871 = .ok (.iadd, 1) := by decide +kernel
theorem dL_law_872 : decode cL_law 872 = .ok (.iaload, 1) := by decide +kernel
theorem dL_law_873 : decode cL_law 873 = .ok (.aload_n 0, 1) := by decide +kernel
theorem dL_law_874 : decode cL_law 874 = .ok (.iload 4, 2) := by decide +kernel
theorem dL_law_876 : decode cL_law 876 = .ok (.iconst 3, 1) := by decide +kernel
theorem dL_law_877 : decode cL_law 877 = .ok (.iadd, 1) := by decide +kernel
theorem dL_law_878 : decode cL_law 878 = .ok (.iaload, 1) := by decide +kernel
theorem dL_law_879 : decode cL_law 879 = .ok (.aload_n 0, 1) := by decide +kernel
theorem dL_law_880 : decode cL_law 880 = .ok (.iload 4, 2) := by decide +kernel
theorem dL_law_882 : decode cL_law 882 = .ok (.iconst 4, 1) := by decide +kernel
theorem dL_law_883 : decode cL_law 883 = .ok (.iadd, 1) := by decide +kernel
theorem dL_law_884 : decode cL_law 884 = .ok (.iaload, 1) := by decide +kernel
theorem dL_law_885 : decode cL_law 885 = .ok (.aload_n 3, 1) := by decide +kernel
theorem dL_law_886 : decode cL_law 886 = .ok (.invokestatic 230, 3) := by decide +kernel
theorem dL_law_889 : decode cL_law 889 = .ok (.istore 5, 2) := by decide +kernel
theorem dL_law_891 : decode cL_law 891 = .ok (.aload_n 2, 1) := by decide +kernel
theorem dL_law_892 : decode cL_law 892 = .ok (.aload_n 0, 1) := by decide +kernel
theorem dL_law_893 : decode cL_law 893 = .ok (.iload 4, 2) := by decide +kernel
theorem dL_law_895 : decode cL_law 895 = .ok (.iconst 1, 1) := by decide +kernel
theorem dL_law_896 : decode cL_law 896 = .ok (.iadd, 1) := by decide +kernel
theorem dL_law_897 : decode cL_law 897 = .ok (.iaload, 1) := by decide +kernel
theorem dL_law_898 : decode cL_law 898 = .ok (.aload_n 0, 1) := by decide +kernel
theorem dL_law_899 : decode cL_law 899 = .ok (.iload 4, 2) := by decide +kernel
theorem dL_law_901 : decode cL_law 901 = .ok (.iconst 2, 1) := by decide +kernel
theorem dL_law_902 : decode cL_law 902 = .ok (.iadd, 1) := by decide +kernel
theorem dL_law_903 : decode cL_law 903 = .ok (.iaload, 1) := by decide +kernel
theorem dL_law_904 : decode cL_law 904 = .ok (.aload_n 0, 1) := by decide +kernel
theorem dL_law_905 : decode cL_law 905 = .ok (.iload 4, 2) := by decide +kernel
theorem dL_law_907 : decode cL_law 907 = .ok (.iconst 3, 1) := by decide +kernel
theorem dL_law_908 : decode cL_law 908 = .ok (.iadd, 1) := by decide +kernel
theorem dL_law_909 : decode cL_law 909 = .ok (.iaload, 1) := by decide +kernel
theorem dL_law_910 : decode cL_law 910 = .ok (.aload_n 0, 1) := by decide +kernel
theorem dL_law_911 : decode cL_law 911 = .ok (.iload 4, 2) := by decide +kernel
theorem dL_law_913 : decode cL_law 913 = .ok (.iconst 4, 1) := by decide +kernel
theorem dL_law_914 : decode cL_law 914 = .ok (.iadd, 1) := by decide +kernel
theorem dL_law_915 : decode cL_law 915 = .ok (.iaload, 1) := by decide +kernel
theorem dL_law_916 : decode cL_law 916 = .ok (.invokevirtual 232, 3) := by decide +kernel
theorem dL_law_919 : decode cL_law 919 = .ok (.istore 6, 2) := by decide +kernel
theorem dL_law_921 : decode cL_law 921 = .ok (.goto 1410, 3) := by decide +kernel
theorem dL_law_924 : decode cL_law 924 = .ok (.aload_n 1, 1) := by decide +kernel
theorem dL_law_925 : decode cL_law 925 = .ok (.aload_n 0, 1) := by decide +kernel
theorem dL_law_926 : decode cL_law 926 = .ok (.iload 4, 2) := by decide +kernel
theorem dL_law_928 : decode cL_law 928 = .ok (.iconst 1, 1) := by decide +kernel
theorem dL_law_929 : decode cL_law 929 = .ok (.iadd, 1) := by decide +kernel
theorem dL_law_930 : decode cL_law 930 = .ok (.iaload, 1) := by decide +kernel
theorem dL_law_931 : decode cL_law 931 = .ok (.aload_n 0, 1) := by decide +kernel
theorem dL_law_932 : decode cL_law 932 = .ok (.iload 4, 2) := by decide +kernel
theorem dL_law_934 : decode cL_law 934 = .ok (.iconst 2, 1) := by decide +kernel
theorem dL_law_935 : decode cL_law 935 = .ok (.iadd, 1) := by decide +kernel
theorem dL_law_936 : decode cL_law 936 = .ok (.iaload, 1) := by decide +kernel
theorem dL_law_937 : decode cL_law 937 = .ok (.aload_n 0, 1) := by decide +kernel
theorem dL_law_938 : decode cL_law 938 = .ok (.iload 4, 2) := by decide +kernel
theorem dL_law_940 : decode cL_law 940 = .ok (.iconst 3, 1) := by decide +kernel
theorem dL_law_941 : decode cL_law 941 = .ok (.iadd, 1) := by decide +kernel
theorem dL_law_942 : decode cL_law 942 = .ok (.iaload, 1) := by decide +kernel
theorem dL_law_943 : decode cL_law 943 = .ok (.aload_n 3, 1) := by decide +kernel
theorem dL_law_944 : decode cL_law 944 = .ok (.invokestatic 233, 3) := by decide +kernel
theorem dL_law_947 : decode cL_law 947 = .ok (.istore 5, 2) := by decide +kernel
theorem dL_law_949 : decode cL_law 949 = .ok (.aload_n 2, 1) := by decide +kernel
theorem dL_law_950 : decode cL_law 950 = .ok (.aload_n 0, 1) := by decide +kernel
theorem dL_law_951 : decode cL_law 951 = .ok (.iload 4, 2) := by decide +kernel
theorem dL_law_953 : decode cL_law 953 = .ok (.iconst 1, 1) := by decide +kernel
theorem dL_law_954 : decode cL_law 954 = .ok (.iadd, 1) := by decide +kernel
theorem dL_law_955 : decode cL_law 955 = .ok (.iaload, 1) := by decide +kernel
theorem dL_law_956 : decode cL_law 956 = .ok (.aload_n 0, 1) := by decide +kernel
theorem dL_law_957 : decode cL_law 957 = .ok (.iload 4, 2) := by decide +kernel
theorem dL_law_959 : decode cL_law 959 = .ok (.iconst 2, 1) := by decide +kernel
theorem dL_law_960 : decode cL_law 960 = .ok (.iadd, 1) := by decide +kernel
theorem dL_law_961 : decode cL_law 961 = .ok (.iaload, 1) := by decide +kernel
theorem dL_law_962 : decode cL_law 962 = .ok (.aload_n 0, 1) := by decide +kernel
theorem dL_law_963 : decode cL_law 963 = .ok (.iload 4, 2) := by decide +kernel
theorem dL_law_965 : decode cL_law 965 = .ok (.iconst 3, 1) := by decide +kernel
theorem dL_law_966 : decode cL_law 966 = .ok (.iadd, 1) := by decide +kernel
theorem dL_law_967 : decode cL_law 967 = .ok (.iaload, 1) := by decide +kernel
theorem dL_law_968 : decode cL_law 968 = .ok (.invokevirtual 235, 3) := by decide +kernel
theorem dL_law_971 : decode cL_law 971 = .ok (.istore 6, 2) := by decide +kernel
theorem dL_law_973 : decode cL_law 973 = .ok (.goto 1358, 3) := by decide +kernel
theorem dL_law_976 : decode cL_law 976 = .ok (.aload_n 1, 1) := by decide +kernel
theorem dL_law_977 : decode cL_law 977 = .ok (.aload_n 0, 1) := by decide +kernel
theorem dL_law_978 : decode cL_law 978 = .ok (.iload 4, 2) := by decide +kernel
theorem dL_law_980 : decode cL_law 980 = .ok (.iconst 1, 1) := by decide +kernel
theorem dL_law_981 : decode cL_law 981 = .ok (.iadd, 1) := by decide +kernel
theorem dL_law_982 : decode cL_law 982 = .ok (.iaload, 1) := by decide +kernel
theorem dL_law_983 : decode cL_law 983 = .ok (.aload_n 0, 1) := by decide +kernel
theorem dL_law_984 : decode cL_law 984 = .ok (.iload 4, 2) := by decide +kernel
theorem dL_law_986 : decode cL_law 986 = .ok (.iconst 2, 1) := by decide +kernel
theorem dL_law_987 : decode cL_law 987 = .ok (.iadd, 1) := by decide +kernel
theorem dL_law_988 : decode cL_law 988 = .ok (.iaload, 1) := by decide +kernel
theorem dL_law_989 : decode cL_law 989 = .ok (.aload_n 3, 1) := by decide +kernel
theorem dL_law_990 : decode cL_law 990 = .ok (.invokestatic 236, 3) := by decide +kernel
theorem dL_law_993 : decode cL_law 993 = .ok (.istore 5, 2) := by decide +kernel
theorem dL_law_995 : decode cL_law 995 = .ok (.aload_n 2, 1) := by decide +kernel
theorem dL_law_996 : decode cL_law 996 = .ok (.aload_n 0, 1) := by decide +kernel
theorem dL_law_997 : decode cL_law 997 = .ok (.iload 4, 2) := by decide +kernel
theorem dL_law_999 : decode cL_law 999 = .ok (.iconst 1, 1) := by decide +kernel
theorem dL_law_1000 : decode cL_law 1000 = .ok (.iadd, 1) := by decide +kernel
theorem dL_law_1001 : decode cL_law 1001 = .ok (.iaload, 1) := by decide +kernel
theorem dL_law_1002 : decode cL_law 1002 = .ok (.aload_n 0, 1) := by decide +kernel
theorem dL_law_1003 : decode cL_law 1003 = .ok (.iload 4, 2) := by decide +kernel
theorem dL_law_1005 : decode cL_law 1005 = .ok (.iconst 2, 1) := by decide +kernel
theorem dL_law_1006 : decode cL_law 1006 = .ok (.iadd, 1) := by decide +kernel
theorem dL_law_1007 : decode cL_law 1007 = .ok (.iaload, 1) := by decide +kernel
theorem dL_law_1008 : decode cL_law 1008 = .ok (.invokevirtual 238, 3) := by decide +kernel
theorem dL_law_1011 : decode cL_law 1011 = .ok (.istore 6, 2) := by decide +kernel
theorem dL_law_1013 : decode cL_law 1013 = .ok (.goto 1318, 3) := by decide +kernel
theorem dL_law_1016 : decode cL_law 1016 = .ok (.aload_n 1, 1) := by decide +kernel
theorem dL_law_1017 : decode cL_law 1017 = .ok (.aload_n 0, 1) := by decide +kernel
theorem dL_law_1018 : decode cL_law 1018 = .ok (.iload 4, 2) := by decide +kernel
theorem dL_law_1020 : decode cL_law 1020 = .ok (.iconst 1, 1) := by decide +kernel
theorem dL_law_1021 : decode cL_law 1021 = .ok (.iadd, 1) := by decide +kernel
theorem dL_law_1022 : decode cL_law 1022 = .ok (.iaload, 1) := by decide +kernel
theorem dL_law_1023 : decode cL_law 1023 = .ok (.aload_n 3, 1) := by decide +kernel
theorem dL_law_1024 : decode cL_law 1024 = .ok (.invokestatic 239, 3) := by decide +kernel
theorem dL_law_1027 : decode cL_law 1027 = .ok (.istore 5, 2) := by decide +kernel
theorem dL_law_1029 : decode cL_law 1029 = .ok (.aload_n 2, 1) := by decide +kernel
theorem dL_law_1030 : decode cL_law 1030 = .ok (.aload_n 0, 1) := by decide +kernel
theorem dL_law_1031 : decode cL_law 1031 = .ok (.iload 4, 2) := by decide +kernel
theorem dL_law_1033 : decode cL_law 1033 = .ok (.iconst 1, 1) := by decide +kernel
theorem dL_law_1034 : decode cL_law 1034 = .ok (.iadd, 1) := by decide +kernel
theorem dL_law_1035 : decode cL_law 1035 = .ok (.iaload, 1) := by decide +kernel
theorem dL_law_1036 : decode cL_law 1036 = .ok (.invokevirtual 241, 3) := by decide +kernel
theorem dL_law_1039 : decode cL_law 1039 = .ok (.istore 6, 2) := by decide +kernel
theorem dL_law_1041 : decode cL_law 1041 = .ok (.goto 1290, 3) := by decide +kernel
theorem dL_law_1044 : decode cL_law 1044 = .ok (.aload_n 1, 1) := by decide +kernel
theorem dL_law_1045 : decode cL_law 1045 = .ok (.aload_n 0, 1) := by decide +kernel
theorem dL_law_1046 : decode cL_law 1046 = .ok (.iload 4, 2) := by decide +kernel
theorem dL_law_1048 : decode cL_law 1048 = .ok (.iconst 1, 1) := by decide +kernel
theorem dL_law_1049 : decode cL_law 1049 = .ok (.iadd, 1) := by decide +kernel
theorem dL_law_1050 : decode cL_law 1050 = .ok (.iaload, 1) := by decide +kernel
theorem dL_law_1051 : decode cL_law 1051 = .ok (.aload_n 0, 1) := by decide +kernel
theorem dL_law_1052 : decode cL_law 1052 = .ok (.iload 4, 2) := by decide +kernel
theorem dL_law_1054 : decode cL_law 1054 = .ok (.iconst 2, 1) := by decide +kernel
theorem dL_law_1055 : decode cL_law 1055 = .ok (.iadd, 1) := by decide +kernel
theorem dL_law_1056 : decode cL_law 1056 = .ok (.iaload, 1) := by decide +kernel
theorem dL_law_1057 : decode cL_law 1057 = .ok (.aload_n 3, 1) := by decide +kernel
theorem dL_law_1058 : decode cL_law 1058 = .ok (.invokestatic 242, 3) := by decide +kernel
theorem dL_law_1061 : decode cL_law 1061 = .ok (.istore 5, 2) := by decide +kernel
