theorem db1_1 : (decode cX0_isLeap 0 = .ok (.iload_n 0, 1)) ∧ (decode cX0_isLeap 1 = .ok (.iconst 4, 1)) ∧ (decode cX0_isLeap 2 = .ok (.irem, 1)) ∧ (decode cX0_isLeap 3 = .ok (.ifCond .ne 22, 3)) ∧ (decode cX0_isLeap 6 = .ok (.iload_n 0, 1)) ∧ (decode cX0_isLeap 7 = .ok (.bipush 100, 2)) ∧ (decode cX0_isLeap 9 = .ok (.irem, 1)) ∧ (decode cX0_isLeap 10 = .ok (.ifCond .ne 11, 3)) ∧ (decode cX0_isLeap 13 = .ok (.iload_n 0, 1)) ∧ (decode cX0_isLeap 14 = .ok (.sipush 400, 3)) ∧ (decode cX0_isLeap 17 = .ok (.irem, 1)) ∧ (decode cX0_isLeap 18 = .ok (.ifCond .ne 7, 3)) ∧ (decode cX0_isLeap 21 = .ok (.iconst 1, 1)) ∧ (decode cX0_isLeap 22 = .ok (.goto 4, 3)) ∧ (decode cX0_isLeap 25 = .ok (.iconst 0, 1)) ∧ (decode cX0_isLeap 26 = .ok (.ireturn, 1)) := by decide +kernel
theorem dX0_isLeap_0 : decode cX0_isLeap 0 = .ok (.iload_n 0, 1) := db1_1.1
theorem dX0_isLeap_1 : decode cX0_isLeap 1 = .ok (.iconst 4, 1) := db1_1.2.1
theorem dX0_isLeap_2 : decode cX0_isLeap 2 = .ok (.irem, 1) := db1_1.2.2.1
theorem dX0_isLeap_3 : decode cX0_isLeap 3 = .ok (.ifCond .ne 22, 3) := db1_1.2.2.2.1
theorem dX0_isLeap_6 : decode cX0_isLeap 6 = .ok (.iload_n 0, 1) := db1_1.2.2.2.2.1
theorem dX0_isLeap_7 : decode cX0_isLeap 7 = .ok (.bipush 100, 2) := db1_1.2.2.2.2.2.1
theorem dX0_isLeap_9 : decode cX0_isLeap 9 = .ok (.irem, 1) := db1_1.2.2.2.2.2.2.1
theorem dX0_isLeap_10 : decode cX0_isLeap 10 = .ok (.ifCond .ne 11, 3) := db1_1.2.2.2.2.2.2.2.1
theorem dX0_isLeap_13 : decode cX0_isLeap 13 = .ok (.iload_n 0, 1) := db1_1.2.2.2.2.2.2.2.2.1
theorem dX0_isLeap_14 : decode cX0_isLeap 14 = .ok (.sipush 400, 3) := db1_1.2.2.2.2.2.2.2.2.2.1
theorem dX0_isLeap_17 : decode cX0_isLeap 17 = .ok (.irem, 1) := db1_1.2.2.2.2.2.2.2.2.2.2.1
theorem dX0_isLeap_18 : decode cX0_isLeap 18 = .ok (.ifCond .ne 7, 3) := db1_1.2.2.2.2.2.2.2.2.2.2.2.1
theorem dX0_isLeap_21 : decode cX0_isLeap 21 = .ok (.iconst 1, 1) := db1_1.2.2.2.2.2.2.2.2.2.2.2.2.1
theorem dX0_isLeap_22 : decode cX0_isLeap 22 = .ok (.goto 4, 3) := db1_1.2.2.2.2.2.2.2.2.2.2.2.2.2.1
theorem dX0_isLeap_25 : decode cX0_isLeap 25 = .ok (.iconst 0, 1) := db1_1.2.2.2.2.2.2.2.2.2.2.2.2.2.2.1
theorem dX0_isLeap_26 : decode cX0_isLeap 26 = .ok (.ireturn, 1) := db1_1.2.2.2.2.2.2.2.2.2.2.2.2.2.2.2
theorem db1_2 : (decode cX0_yearOfMonth 0 = .ok (.iload_n 0, 1)) ∧ (decode cX0_yearOfMonth 1 = .ok (.bipush 12, 2)) ∧ (decode cX0_yearOfMonth 3 = .ok (.invokestatic 11, 3)) ∧ (decode cX0_yearOfMonth 6 = .ok (.ireturn, 1)) := by decide +kernel
theorem dX0_yearOfMonth_0 : decode cX0_yearOfMonth 0 = .ok (.iload_n 0, 1) := db1_2.1
theorem dX0_yearOfMonth_1 : decode cX0_yearOfMonth 1 = .ok (.bipush 12, 2) := db1_2.2.1
theorem dX0_yearOfMonth_3 : decode cX0_yearOfMonth 3 = .ok (.invokestatic 11, 3) := db1_2.2.2.1
theorem dX0_yearOfMonth_6 : decode cX0_yearOfMonth 6 = .ok (.ireturn, 1) := db1_2.2.2.2
theorem db1_3 : (decode cX0_monthInYear 0 = .ok (.iload_n 0, 1)) ∧ (decode cX0_monthInYear 1 = .ok (.bipush 12, 2)) ∧ (decode cX0_monthInYear 3 = .ok (.invokestatic 17, 3)) ∧ (decode cX0_monthInYear 6 = .ok (.iconst 1, 1)) ∧ (decode cX0_monthInYear 7 = .ok (.iadd, 1)) ∧ (decode cX0_monthInYear 8 = .ok (.ireturn, 1)) := by decide +kernel
theorem dX0_monthInYear_0 : decode cX0_monthInYear 0 = .ok (.iload_n 0, 1) := db1_3.1
theorem dX0_monthInYear_1 : decode cX0_monthInYear 1 = .ok (.bipush 12, 2) := db1_3.2.1
theorem dX0_monthInYear_3 : decode cX0_monthInYear 3 = .ok (.invokestatic 17, 3) := db1_3.2.2.1
theorem dX0_monthInYear_6 : decode cX0_monthInYear 6 = .ok (.iconst 1, 1) := db1_3.2.2.2.1
theorem dX0_monthInYear_7 : decode cX0_monthInYear 7 = .ok (.iadd, 1) := db1_3.2.2.2.2.1
theorem dX0_monthInYear_8 : decode cX0_monthInYear 8 = .ok (.ireturn, 1) := db1_3.2.2.2.2.2
theorem db1_4 : (decode cX0_firstOf 0 = .ok (.iload_n 0, 1)) ∧ (decode cX0_firstOf 1 = .ok (.iconst 2, 1)) ∧ (decode cX0_firstOf 2 = .ok (.isub, 1)) ∧ (decode cX0_firstOf 3 = .ok (.istore_n 1, 1)) ∧ (decode cX0_firstOf 4 = .ok (.iload_n 1, 1)) ∧ (decode cX0_firstOf 5 = .ok (.bipush 12, 2)) ∧ (decode cX0_firstOf 7 = .ok (.invokestatic 11, 3)) ∧ (decode cX0_firstOf 10 = .ok (.istore_n 2, 1)) ∧ (decode cX0_firstOf 11 = .ok (.iload_n 1, 1)) ∧ (decode cX0_firstOf 12 = .ok (.bipush 12, 2)) ∧ (decode cX0_firstOf 14 = .ok (.invokestatic 17, 3)) ∧ (decode cX0_firstOf 17 = .ok (.istore_n 3, 1)) ∧ (decode cX0_firstOf 18 = .ok (.iload_n 2, 1)) ∧ (decode cX0_firstOf 19 = .ok (.iconst 4, 1)) ∧ (decode cX0_firstOf 20 = .ok (.invokestatic 11, 3)) ∧ (decode cX0_firstOf 23 = .ok (.iload_n 2, 1)) := by decide +kernel
theorem dX0_firstOf_0 : decode cX0_firstOf 0 = .ok (.iload_n 0, 1) := db1_4.1
theorem dX0_firstOf_1 : decode cX0_firstOf 1 = .ok (.iconst 2, 1) := db1_4.2.1
theorem dX0_firstOf_2 : decode cX0_firstOf 2 = .ok (.isub, 1) := db1_4.2.2.1
theorem dX0_firstOf_3 : decode cX0_firstOf 3 = .ok (.istore_n 1, 1) := db1_4.2.2.2.1
theorem dX0_firstOf_4 : decode cX0_firstOf 4 = .ok (.iload_n 1, 1) := db1_4.2.2.2.2.1
theorem dX0_firstOf_5 : decode cX0_firstOf 5 = .ok (.bipush 12, 2) := db1_4.2.2.2.2.2.1
theorem dX0_firstOf_7 : decode cX0_firstOf 7 = .ok (.invokestatic 11, 3) := db1_4.2.2.2.2.2.2.1
theorem dX0_firstOf_10 : decode cX0_firstOf 10 = .ok (.istore_n 2, 1) := db1_4.2.2.2.2.2.2.2.1
theorem dX0_firstOf_11 : decode cX0_firstOf 11 = .ok (.iload_n 1, 1) := db1_4.2.2.2.2.2.2.2.2.1
theorem dX0_firstOf_12 : decode cX0_firstOf 12 = .ok (.bipush 12, 2) := db1_4.2.2.2.2.2.2.2.2.2.1
theorem dX0_firstOf_14 : decode cX0_firstOf 14 = .ok (.invokestatic 17, 3) := db1_4.2.2.2.2.2.2.2.2.2.2.1
theorem dX0_firstOf_17 : decode cX0_firstOf 17 = .ok (.istore_n 3, 1) := db1_4.2.2.2.2.2.2.2.2.2.2.2.1
theorem dX0_firstOf_18 : decode cX0_firstOf 18 = .ok (.iload_n 2, 1) := db1_4.2.2.2.2.2.2.2.2.2.2.2.2.1
theorem dX0_firstOf_19 : decode cX0_firstOf 19 = .ok (.iconst 4, 1) := db1_4.2.2.2.2.2.2.2.2.2.2.2.2.2.1
theorem dX0_firstOf_20 : decode cX0_firstOf 20 = .ok (.invokestatic 11, 3) := db1_4.2.2.2.2.2.2.2.2.2.2.2.2.2.2.1
theorem dX0_firstOf_23 : decode cX0_firstOf 23 = .ok (.iload_n 2, 1) := db1_4.2.2.2.2.2.2.2.2.2.2.2.2.2.2.2
theorem db1_5 : (decode cX0_firstOf 24 = .ok (.bipush 100, 2)) ∧ (decode cX0_firstOf 26 = .ok (.invokestatic 11, 3)) ∧ (decode cX0_firstOf 29 = .ok (.isub, 1)) ∧ (decode cX0_firstOf 30 = .ok (.iload_n 2, 1)) ∧ (decode cX0_firstOf 31 = .ok (.sipush 400, 3)) ∧ (decode cX0_firstOf 34 = .ok (.invokestatic 11, 3)) ∧ (decode cX0_firstOf 37 = .ok (.iadd, 1)) ∧ (decode cX0_firstOf 38 = .ok (.istore 4, 2)) ∧ (decode cX0_firstOf 40 = .ok (.sipush 153, 3)) ∧ (decode cX0_firstOf 43 = .ok (.iload_n 3, 1)) ∧ (decode cX0_firstOf 44 = .ok (.imul, 1)) ∧ (decode cX0_firstOf 45 = .ok (.iconst 2, 1)) ∧ (decode cX0_firstOf 46 = .ok (.iadd, 1)) ∧ (decode cX0_firstOf 47 = .ok (.iconst 5, 1)) ∧ (decode cX0_firstOf 48 = .ok (.idiv, 1)) ∧ (decode cX0_firstOf 49 = .ok (.istore 5, 2)) := by decide +kernel
theorem dX0_firstOf_24 : decode cX0_firstOf 24 = .ok (.bipush 100, 2) := db1_5.1
theorem dX0_firstOf_26 : decode cX0_firstOf 26 = .ok (.invokestatic 11, 3) := db1_5.2.1
theorem dX0_firstOf_29 : decode cX0_firstOf 29 = .ok (.isub, 1) := db1_5.2.2.1
theorem dX0_firstOf_30 : decode cX0_firstOf 30 = .ok (.iload_n 2, 1) := db1_5.2.2.2.1
theorem dX0_firstOf_31 : decode cX0_firstOf 31 = .ok (.sipush 400, 3) := db1_5.2.2.2.2.1
theorem dX0_firstOf_34 : decode cX0_firstOf 34 = .ok (.invokestatic 11, 3) := db1_5.2.2.2.2.2.1
theorem dX0_firstOf_37 : decode cX0_firstOf 37 = .ok (.iadd, 1) := db1_5.2.2.2.2.2.2.1
theorem dX0_firstOf_38 : decode cX0_firstOf 38 = .ok (.istore 4, 2) := db1_5.2.2.2.2.2.2.2.1
theorem dX0_firstOf_40 : decode cX0_firstOf 40 = .ok (.sipush 153, 3) := db1_5.2.2.2.2.2.2.2.2.1
theorem dX0_firstOf_43 : decode cX0_firstOf 43 = .ok (.iload_n 3, 1) := db1_5.2.2.2.2.2.2.2.2.2.1
theorem dX0_firstOf_44 : decode cX0_firstOf 44 = .ok (.imul, 1) := db1_5.2.2.2.2.2.2.2.2.2.2.1
theorem dX0_firstOf_45 : decode cX0_firstOf 45 = .ok (.iconst 2, 1) := db1_5.2.2.2.2.2.2.2.2.2.2.2.1
theorem dX0_firstOf_46 : decode cX0_firstOf 46 = .ok (.iadd, 1) := db1_5.2.2.2.2.2.2.2.2.2.2.2.2.1
theorem dX0_firstOf_47 : decode cX0_firstOf 47 = .ok (.iconst 5, 1) := db1_5.2.2.2.2.2.2.2.2.2.2.2.2.2.1
theorem dX0_firstOf_48 : decode cX0_firstOf 48 = .ok (.idiv, 1) := db1_5.2.2.2.2.2.2.2.2.2.2.2.2.2.2.1
theorem dX0_firstOf_49 : decode cX0_firstOf 49 = .ok (.istore 5, 2) := db1_5.2.2.2.2.2.2.2.2.2.2.2.2.2.2.2
theorem db1_6 : (decode cX0_firstOf 51 = .ok (.sipush 365, 3)) ∧ (decode cX0_firstOf 54 = .ok (.iload_n 2, 1)) ∧ (decode cX0_firstOf 55 = .ok (.imul, 1)) ∧ (decode cX0_firstOf 56 = .ok (.iload 4, 2)) ∧ (decode cX0_firstOf 58 = .ok (.iadd, 1)) ∧ (decode cX0_firstOf 59 = .ok (.iload 5, 2)) ∧ (decode cX0_firstOf 61 = .ok (.iadd, 1)) ∧ (decode cX0_firstOf 62 = .ok (.bipush 60, 2)) ∧ (decode cX0_firstOf 64 = .ok (.iadd, 1)) ∧ (decode cX0_firstOf 65 = .ok (.ldc 20, 2)) ∧ (decode cX0_firstOf 67 = .ok (.isub, 1)) ∧ (decode cX0_firstOf 68 = .ok (.ireturn, 1)) := by decide +kernel
theorem dX0_firstOf_51 : decode cX0_firstOf 51 = .ok (.sipush 365, 3) := db1_6.1
theorem dX0_firstOf_54 : decode cX0_firstOf 54 = .ok (.iload_n 2, 1) := db1_6.2.1
theorem dX0_firstOf_55 : decode cX0_firstOf 55 = .ok (.imul, 1) := db1_6.2.2.1
theorem dX0_firstOf_56 : decode cX0_firstOf 56 = .ok (.iload 4, 2) := db1_6.2.2.2.1
theorem dX0_firstOf_58 : decode cX0_firstOf 58 = .ok (.iadd, 1) := db1_6.2.2.2.2.1
theorem dX0_firstOf_59 : decode cX0_firstOf 59 = .ok (.iload 5, 2) := db1_6.2.2.2.2.2.1
theorem dX0_firstOf_61 : decode cX0_firstOf 61 = .ok (.iadd, 1) := db1_6.2.2.2.2.2.2.1
theorem dX0_firstOf_62 : decode cX0_firstOf 62 = .ok (.bipush 60, 2) := db1_6.2.2.2.2.2.2.2.1
theorem dX0_firstOf_64 : decode cX0_firstOf 64 = .ok (.iadd, 1) := db1_6.2.2.2.2.2.2.2.2.1
theorem dX0_firstOf_65 : decode cX0_firstOf 65 = .ok (.ldc 20, 2) := db1_6.2.2.2.2.2.2.2.2.2.1
theorem dX0_firstOf_67 : decode cX0_firstOf 67 = .ok (.isub, 1) := db1_6.2.2.2.2.2.2.2.2.2.2.1
theorem dX0_firstOf_68 : decode cX0_firstOf 68 = .ok (.ireturn, 1) := db1_6.2.2.2.2.2.2.2.2.2.2.2
theorem db1_7 : (decode cX0_lengthOf 0 = .ok (.iload_n 0, 1)) ∧ (decode cX0_lengthOf 1 = .ok (.iconst 1, 1)) ∧ (decode cX0_lengthOf 2 = .ok (.iadd, 1)) ∧ (decode cX0_lengthOf 3 = .ok (.invokestatic 21, 3)) ∧ (decode cX0_lengthOf 6 = .ok (.iload_n 0, 1)) ∧ (decode cX0_lengthOf 7 = .ok (.invokestatic 21, 3)) ∧ (decode cX0_lengthOf 10 = .ok (.isub, 1)) ∧ (decode cX0_lengthOf 11 = .ok (.ireturn, 1)) := by decide +kernel
theorem dX0_lengthOf_0 : decode cX0_lengthOf 0 = .ok (.iload_n 0, 1) := db1_7.1
theorem dX0_lengthOf_1 : decode cX0_lengthOf 1 = .ok (.iconst 1, 1) := db1_7.2.1
theorem dX0_lengthOf_2 : decode cX0_lengthOf 2 = .ok (.iadd, 1) := db1_7.2.2.1
theorem dX0_lengthOf_3 : decode cX0_lengthOf 3 = .ok (.invokestatic 21, 3) := db1_7.2.2.2.1
theorem dX0_lengthOf_6 : decode cX0_lengthOf 6 = .ok (.iload_n 0, 1) := db1_7.2.2.2.2.1
theorem dX0_lengthOf_7 : decode cX0_lengthOf 7 = .ok (.invokestatic 21, 3) := db1_7.2.2.2.2.2.1
theorem dX0_lengthOf_10 : decode cX0_lengthOf 10 = .ok (.isub, 1) := db1_7.2.2.2.2.2.2.1
theorem dX0_lengthOf_11 : decode cX0_lengthOf 11 = .ok (.ireturn, 1) := db1_7.2.2.2.2.2.2.2
theorem db1_8 : (decode cX0_monthOf 0 = .ok (.iload_n 0, 1)) ∧ (decode cX0_monthOf 1 = .ok (.i2l, 1)) ∧ (decode cX0_monthOf 2 = .ok (.ldc2_w 25, 3)) ∧ (decode cX0_monthOf 5 = .ok (.ladd, 1)) ∧ (decode cX0_monthOf 6 = .ok (.lstore_n 1, 1)) ∧ (decode cX0_monthOf 7 = .ok (.lload_n 1, 1)) ∧ (decode cX0_monthOf 8 = .ok (.ldc2_w 27, 3)) ∧ (decode cX0_monthOf 11 = .ok (.lmul, 1)) ∧ (decode cX0_monthOf 12 = .ok (.ldc2_w 29, 3)) ∧ (decode cX0_monthOf 15 = .ok (.invokestatic 31, 3)) ∧ (decode cX0_monthOf 18 = .ok (.l2i, 1)) ∧ (decode cX0_monthOf 19 = .ok (.istore_n 3, 1)) ∧ (decode cX0_monthOf 20 = .ok (.iload_n 0, 1)) ∧ (decode cX0_monthOf 21 = .ok (.iload_n 3, 1)) ∧ (decode cX0_monthOf 22 = .ok (.invokestatic 21, 3)) ∧ (decode cX0_monthOf 25 = .ok (.if_icmp .ge 7, 3)) := by decide +kernel
theorem dX0_monthOf_0 : decode cX0_monthOf 0 = .ok (.iload_n 0, 1) := db1_8.1
theorem dX0_monthOf_1 : decode cX0_monthOf 1 = .ok (.i2l, 1) := db1_8.2.1
theorem dX0_monthOf_2 : decode cX0_monthOf 2 = .ok (.ldc2_w 25, 3) := db1_8.2.2.1
theorem dX0_monthOf_5 : decode cX0_monthOf 5 = .ok (.ladd, 1) := db1_8.2.2.2.1
theorem dX0_monthOf_6 : decode cX0_monthOf 6 = .ok (.lstore_n 1, 1) := db1_8.2.2.2.2.1
theorem dX0_monthOf_7 : decode cX0_monthOf 7 = .ok (.lload_n 1, 1) := db1_8.2.2.2.2.2.1
theorem dX0_monthOf_8 : decode cX0_monthOf 8 = .ok (.ldc2_w 27, 3) := db1_8.2.2.2.2.2.2.1
theorem dX0_monthOf_11 : decode cX0_monthOf 11 = .ok (.lmul, 1) := db1_8.2.2.2.2.2.2.2.1
theorem dX0_monthOf_12 : decode cX0_monthOf 12 = .ok (.ldc2_w 29, 3) := db1_8.2.2.2.2.2.2.2.2.1
theorem dX0_monthOf_15 : decode cX0_monthOf 15 = .ok (.invokestatic 31, 3) := db1_8.2.2.2.2.2.2.2.2.2.1
theorem dX0_monthOf_18 : decode cX0_monthOf 18 = .ok (.l2i, 1) := db1_8.2.2.2.2.2.2.2.2.2.2.1
theorem dX0_monthOf_19 : decode cX0_monthOf 19 = .ok (.istore_n 3, 1) := db1_8.2.2.2.2.2.2.2.2.2.2.2.1
theorem dX0_monthOf_20 : decode cX0_monthOf 20 = .ok (.iload_n 0, 1) := db1_8.2.2.2.2.2.2.2.2.2.2.2.2.1
theorem dX0_monthOf_21 : decode cX0_monthOf 21 = .ok (.iload_n 3, 1) := db1_8.2.2.2.2.2.2.2.2.2.2.2.2.2.1
theorem dX0_monthOf_22 : decode cX0_monthOf 22 = .ok (.invokestatic 21, 3) := db1_8.2.2.2.2.2.2.2.2.2.2.2.2.2.2.1
theorem dX0_monthOf_25 : decode cX0_monthOf 25 = .ok (.if_icmp .ge 7, 3) := db1_8.2.2.2.2.2.2.2.2.2.2.2.2.2.2.2
theorem db1_9 : (decode cX0_monthOf 28 = .ok (.iload_n 3, 1)) ∧ (decode cX0_monthOf 29 = .ok (.iconst 1, 1)) ∧ (decode cX0_monthOf 30 = .ok (.isub, 1)) ∧ (decode cX0_monthOf 31 = .ok (.ireturn, 1)) ∧ (decode cX0_monthOf 32 = .ok (.iload_n 0, 1)) ∧ (decode cX0_monthOf 33 = .ok (.iload_n 3, 1)) ∧ (decode cX0_monthOf 34 = .ok (.iconst 1, 1)) ∧ (decode cX0_monthOf 35 = .ok (.iadd, 1)) ∧ (decode cX0_monthOf 36 = .ok (.invokestatic 21, 3)) ∧ (decode cX0_monthOf 39 = .ok (.if_icmp .ge 7, 3)) ∧ (decode cX0_monthOf 42 = .ok (.iload_n 3, 1)) ∧ (decode cX0_monthOf 43 = .ok (.goto 6, 3)) ∧ (decode cX0_monthOf 46 = .ok (.iload_n 3, 1)) ∧ (decode cX0_monthOf 47 = .ok (.iconst 1, 1)) ∧ (decode cX0_monthOf 48 = .ok (.iadd, 1)) ∧ (decode cX0_monthOf 49 = .ok (.ireturn, 1)) := by decide +kernel
theorem dX0_monthOf_28 : decode cX0_monthOf 28 = .ok (.iload_n 3, 1) := db1_9.1
theorem dX0_monthOf_29 : decode cX0_monthOf 29 = .ok (.iconst 1, 1) := db1_9.2.1
theorem dX0_monthOf_30 : decode cX0_monthOf 30 = .ok (.isub, 1) := db1_9.2.2.1
theorem dX0_monthOf_31 : decode cX0_monthOf 31 = .ok (.ireturn, 1) := db1_9.2.2.2.1
theorem dX0_monthOf_32 : decode cX0_monthOf 32 = .ok (.iload_n 0, 1) := db1_9.2.2.2.2.1
theorem dX0_monthOf_33 : decode cX0_monthOf 33 = .ok (.iload_n 3, 1) := db1_9.2.2.2.2.2.1
theorem dX0_monthOf_34 : decode cX0_monthOf 34 = .ok (.iconst 1, 1) := db1_9.2.2.2.2.2.2.1
theorem dX0_monthOf_35 : decode cX0_monthOf 35 = .ok (.iadd, 1) := db1_9.2.2.2.2.2.2.2.1
theorem dX0_monthOf_36 : decode cX0_monthOf 36 = .ok (.invokestatic 21, 3) := db1_9.2.2.2.2.2.2.2.2.1
theorem dX0_monthOf_39 : decode cX0_monthOf 39 = .ok (.if_icmp .ge 7, 3) := db1_9.2.2.2.2.2.2.2.2.2.1
theorem dX0_monthOf_42 : decode cX0_monthOf 42 = .ok (.iload_n 3, 1) := db1_9.2.2.2.2.2.2.2.2.2.2.1
theorem dX0_monthOf_43 : decode cX0_monthOf 43 = .ok (.goto 6, 3) := db1_9.2.2.2.2.2.2.2.2.2.2.2.1
theorem dX0_monthOf_46 : decode cX0_monthOf 46 = .ok (.iload_n 3, 1) := db1_9.2.2.2.2.2.2.2.2.2.2.2.2.1
theorem dX0_monthOf_47 : decode cX0_monthOf 47 = .ok (.iconst 1, 1) := db1_9.2.2.2.2.2.2.2.2.2.2.2.2.2.1
theorem dX0_monthOf_48 : decode cX0_monthOf 48 = .ok (.iadd, 1) := db1_9.2.2.2.2.2.2.2.2.2.2.2.2.2.2.1
theorem dX0_monthOf_49 : decode cX0_monthOf 49 = .ok (.ireturn, 1) := db1_9.2.2.2.2.2.2.2.2.2.2.2.2.2.2.2
theorem db1_10 : (decode cX0_yearOf 0 = .ok (.iload_n 0, 1)) ∧ (decode cX0_yearOf 1 = .ok (.invokestatic 34, 3)) ∧ (decode cX0_yearOf 4 = .ok (.invokestatic 37, 3)) ∧ (decode cX0_yearOf 7 = .ok (.ireturn, 1)) := by decide +kernel
theorem dX0_yearOf_0 : decode cX0_yearOf 0 = .ok (.iload_n 0, 1) := db1_10.1
theorem dX0_yearOf_1 : decode cX0_yearOf 1 = .ok (.invokestatic 34, 3) := db1_10.2.1
theorem dX0_yearOf_4 : decode cX0_yearOf 4 = .ok (.invokestatic 37, 3) := db1_10.2.2.1
theorem dX0_yearOf_7 : decode cX0_yearOf 7 = .ok (.ireturn, 1) := db1_10.2.2.2
theorem db1_11 : (decode cX0_dayOf 0 = .ok (.iload_n 0, 1)) ∧ (decode cX0_dayOf 1 = .ok (.iload_n 0, 1)) ∧ (decode cX0_dayOf 2 = .ok (.invokestatic 34, 3)) ∧ (decode cX0_dayOf 5 = .ok (.invokestatic 21, 3)) ∧ (decode cX0_dayOf 8 = .ok (.isub, 1)) ∧ (decode cX0_dayOf 9 = .ok (.iconst 1, 1)) ∧ (decode cX0_dayOf 10 = .ok (.iadd, 1)) ∧ (decode cX0_dayOf 11 = .ok (.ireturn, 1)) := by decide +kernel
theorem dX0_dayOf_0 : decode cX0_dayOf 0 = .ok (.iload_n 0, 1) := db1_11.1
theorem dX0_dayOf_1 : decode cX0_dayOf 1 = .ok (.iload_n 0, 1) := db1_11.2.1
theorem dX0_dayOf_2 : decode cX0_dayOf 2 = .ok (.invokestatic 34, 3) := db1_11.2.2.1
theorem dX0_dayOf_5 : decode cX0_dayOf 5 = .ok (.invokestatic 21, 3) := db1_11.2.2.2.1
theorem dX0_dayOf_8 : decode cX0_dayOf 8 = .ok (.isub, 1) := db1_11.2.2.2.2.1
theorem dX0_dayOf_9 : decode cX0_dayOf 9 = .ok (.iconst 1, 1) := db1_11.2.2.2.2.2.1
theorem dX0_dayOf_10 : decode cX0_dayOf 10 = .ok (.iadd, 1) := db1_11.2.2.2.2.2.2.1
theorem dX0_dayOf_11 : decode cX0_dayOf 11 = .ok (.ireturn, 1) := db1_11.2.2.2.2.2.2.2
theorem db1_12 : (decode cX0_weekdayOf 0 = .ok (.iload_n 0, 1)) ∧ (decode cX0_weekdayOf 1 = .ok (.iconst 3, 1)) ∧ (decode cX0_weekdayOf 2 = .ok (.iadd, 1)) ∧ (decode cX0_weekdayOf 3 = .ok (.bipush 7, 2)) ∧ (decode cX0_weekdayOf 5 = .ok (.invokestatic 17, 3)) ∧ (decode cX0_weekdayOf 8 = .ok (.iconst 1, 1)) ∧ (decode cX0_weekdayOf 9 = .ok (.iadd, 1)) ∧ (decode cX0_weekdayOf 10 = .ok (.ireturn, 1)) := by decide +kernel
theorem dX0_weekdayOf_0 : decode cX0_weekdayOf 0 = .ok (.iload_n 0, 1) := db1_12.1
theorem dX0_weekdayOf_1 : decode cX0_weekdayOf 1 = .ok (.iconst 3, 1) := db1_12.2.1
theorem dX0_weekdayOf_2 : decode cX0_weekdayOf 2 = .ok (.iadd, 1) := db1_12.2.2.1
theorem dX0_weekdayOf_3 : decode cX0_weekdayOf 3 = .ok (.bipush 7, 2) := db1_12.2.2.2.1
theorem dX0_weekdayOf_5 : decode cX0_weekdayOf 5 = .ok (.invokestatic 17, 3) := db1_12.2.2.2.2.1
theorem dX0_weekdayOf_8 : decode cX0_weekdayOf 8 = .ok (.iconst 1, 1) := db1_12.2.2.2.2.2.1
theorem dX0_weekdayOf_9 : decode cX0_weekdayOf 9 = .ok (.iadd, 1) := db1_12.2.2.2.2.2.2.1
theorem dX0_weekdayOf_10 : decode cX0_weekdayOf 10 = .ok (.ireturn, 1) := db1_12.2.2.2.2.2.2.2
theorem db1_13 : (decode cX0_dateIn 0 = .ok (.iload_n 0, 1)) ∧ (decode cX0_dateIn 1 = .ok (.invokestatic 21, 3)) ∧ (decode cX0_dateIn 4 = .ok (.iload_n 1, 1)) ∧ (decode cX0_dateIn 5 = .ok (.iadd, 1)) ∧ (decode cX0_dateIn 6 = .ok (.iload_n 0, 1)) ∧ (decode cX0_dateIn 7 = .ok (.iconst 1, 1)) ∧ (decode cX0_dateIn 8 = .ok (.iadd, 1)) ∧ (decode cX0_dateIn 9 = .ok (.invokestatic 21, 3)) ∧ (decode cX0_dateIn 12 = .ok (.invokestatic 40, 3)) ∧ (decode cX0_dateIn 15 = .ok (.iconst 1, 1)) ∧ (decode cX0_dateIn 16 = .ok (.isub, 1)) ∧ (decode cX0_dateIn 17 = .ok (.ireturn, 1)) := by decide +kernel
theorem dX0_dateIn_0 : decode cX0_dateIn 0 = .ok (.iload_n 0, 1) := db1_13.1
theorem dX0_dateIn_1 : decode cX0_dateIn 1 = .ok (.invokestatic 21, 3) := db1_13.2.1
theorem dX0_dateIn_4 : decode cX0_dateIn 4 = .ok (.iload_n 1, 1) := db1_13.2.2.1
theorem dX0_dateIn_5 : decode cX0_dateIn 5 = .ok (.iadd, 1) := db1_13.2.2.2.1
theorem dX0_dateIn_6 : decode cX0_dateIn 6 = .ok (.iload_n 0, 1) := db1_13.2.2.2.2.1
theorem dX0_dateIn_7 : decode cX0_dateIn 7 = .ok (.iconst 1, 1) := db1_13.2.2.2.2.2.1
theorem dX0_dateIn_8 : decode cX0_dateIn 8 = .ok (.iadd, 1) := db1_13.2.2.2.2.2.2.1
theorem dX0_dateIn_9 : decode cX0_dateIn 9 = .ok (.invokestatic 21, 3) := db1_13.2.2.2.2.2.2.2.1
theorem dX0_dateIn_12 : decode cX0_dateIn 12 = .ok (.invokestatic 40, 3) := db1_13.2.2.2.2.2.2.2.2.1
theorem dX0_dateIn_15 : decode cX0_dateIn 15 = .ok (.iconst 1, 1) := db1_13.2.2.2.2.2.2.2.2.2.1
theorem dX0_dateIn_16 : decode cX0_dateIn 16 = .ok (.isub, 1) := db1_13.2.2.2.2.2.2.2.2.2.2.1
theorem dX0_dateIn_17 : decode cX0_dateIn 17 = .ok (.ireturn, 1) := db1_13.2.2.2.2.2.2.2.2.2.2.2
theorem db1_14 : (decode cX0_shifted 0 = .ok (.iload_n 0, 1)) ∧ (decode cX0_shifted 1 = .ok (.invokestatic 34, 3)) ∧ (decode cX0_shifted 4 = .ok (.istore_n 2, 1)) ∧ (decode cX0_shifted 5 = .ok (.iload_n 2, 1)) ∧ (decode cX0_shifted 6 = .ok (.iload_n 1, 1)) ∧ (decode cX0_shifted 7 = .ok (.iadd, 1)) ∧ (decode cX0_shifted 8 = .ok (.iload_n 0, 1)) ∧ (decode cX0_shifted 9 = .ok (.iload_n 2, 1)) ∧ (decode cX0_shifted 10 = .ok (.invokestatic 21, 3)) ∧ (decode cX0_shifted 13 = .ok (.isub, 1)) ∧ (decode cX0_shifted 14 = .ok (.iconst 1, 1)) ∧ (decode cX0_shifted 15 = .ok (.iadd, 1)) ∧ (decode cX0_shifted 16 = .ok (.invokestatic 43, 3)) ∧ (decode cX0_shifted 19 = .ok (.ireturn, 1)) := by decide +kernel
theorem dX0_shifted_0 : decode cX0_shifted 0 = .ok (.iload_n 0, 1) := db1_14.1
theorem dX0_shifted_1 : decode cX0_shifted 1 = .ok (.invokestatic 34, 3) := db1_14.2.1
theorem dX0_shifted_4 : decode cX0_shifted 4 = .ok (.istore_n 2, 1) := db1_14.2.2.1
theorem dX0_shifted_5 : decode cX0_shifted 5 = .ok (.iload_n 2, 1) := db1_14.2.2.2.1
theorem dX0_shifted_6 : decode cX0_shifted 6 = .ok (.iload_n 1, 1) := db1_14.2.2.2.2.1
theorem dX0_shifted_7 : decode cX0_shifted 7 = .ok (.iadd, 1) := db1_14.2.2.2.2.2.1
theorem dX0_shifted_8 : decode cX0_shifted 8 = .ok (.iload_n 0, 1) := db1_14.2.2.2.2.2.2.1
theorem dX0_shifted_9 : decode cX0_shifted 9 = .ok (.iload_n 2, 1) := db1_14.2.2.2.2.2.2.2.1
theorem dX0_shifted_10 : decode cX0_shifted 10 = .ok (.invokestatic 21, 3) := db1_14.2.2.2.2.2.2.2.2.1
theorem dX0_shifted_13 : decode cX0_shifted 13 = .ok (.isub, 1) := db1_14.2.2.2.2.2.2.2.2.2.1
theorem dX0_shifted_14 : decode cX0_shifted 14 = .ok (.iconst 1, 1) := db1_14.2.2.2.2.2.2.2.2.2.2.1
theorem dX0_shifted_15 : decode cX0_shifted 15 = .ok (.iadd, 1) := db1_14.2.2.2.2.2.2.2.2.2.2.2.1
theorem dX0_shifted_16 : decode cX0_shifted 16 = .ok (.invokestatic 43, 3) := db1_14.2.2.2.2.2.2.2.2.2.2.2.2.1
theorem dX0_shifted_19 : decode cX0_shifted 19 = .ok (.ireturn, 1) := db1_14.2.2.2.2.2.2.2.2.2.2.2.2.2
theorem db1_15 : (decode cX0_lossOf 0 = .ok (.iload_n 0, 1)) ∧ (decode cX0_lossOf 1 = .ok (.invokestatic 46, 3)) ∧ (decode cX0_lossOf 4 = .ok (.iload_n 0, 1)) ∧ (decode cX0_lossOf 5 = .ok (.iload_n 1, 1)) ∧ (decode cX0_lossOf 6 = .ok (.invokestatic 49, 3)) ∧ (decode cX0_lossOf 9 = .ok (.invokestatic 46, 3)) ∧ (decode cX0_lossOf 12 = .ok (.isub, 1)) ∧ (decode cX0_lossOf 13 = .ok (.ireturn, 1)) := by decide +kernel
theorem dX0_lossOf_0 : decode cX0_lossOf 0 = .ok (.iload_n 0, 1) := db1_15.1
theorem dX0_lossOf_1 : decode cX0_lossOf 1 = .ok (.invokestatic 46, 3) := db1_15.2.1
theorem dX0_lossOf_4 : decode cX0_lossOf 4 = .ok (.iload_n 0, 1) := db1_15.2.2.1
theorem dX0_lossOf_5 : decode cX0_lossOf 5 = .ok (.iload_n 1, 1) := db1_15.2.2.2.1
theorem dX0_lossOf_6 : decode cX0_lossOf 6 = .ok (.invokestatic 49, 3) := db1_15.2.2.2.2.1
theorem dX0_lossOf_9 : decode cX0_lossOf 9 = .ok (.invokestatic 46, 3) := db1_15.2.2.2.2.2.1
theorem dX0_lossOf_12 : decode cX0_lossOf 12 = .ok (.isub, 1) := db1_15.2.2.2.2.2.2.1
theorem dX0_lossOf_13 : decode cX0_lossOf 13 = .ok (.ireturn, 1) := db1_15.2.2.2.2.2.2.2
theorem db1_16 : (decode cX0_comesBack 0 = .ok (.iload_n 0, 1)) ∧ (decode cX0_comesBack 1 = .ok (.iload_n 1, 1)) ∧ (decode cX0_comesBack 2 = .ok (.invokestatic 49, 3)) ∧ (decode cX0_comesBack 5 = .ok (.iload_n 1, 1)) ∧ (decode cX0_comesBack 6 = .ok (.ineg, 1)) ∧ (decode cX0_comesBack 7 = .ok (.invokestatic 49, 3)) ∧ (decode cX0_comesBack 10 = .ok (.iload_n 0, 1)) ∧ (decode cX0_comesBack 11 = .ok (.if_icmp .ne 7, 3)) ∧ (decode cX0_comesBack 14 = .ok (.iconst 1, 1)) ∧ (decode cX0_comesBack 15 = .ok (.goto 4, 3)) ∧ (decode cX0_comesBack 18 = .ok (.iconst 0, 1)) ∧ (decode cX0_comesBack 19 = .ok (.ireturn, 1)) := by decide +kernel
theorem dX0_comesBack_0 : decode cX0_comesBack 0 = .ok (.iload_n 0, 1) := db1_16.1
theorem dX0_comesBack_1 : decode cX0_comesBack 1 = .ok (.iload_n 1, 1) := db1_16.2.1
theorem dX0_comesBack_2 : decode cX0_comesBack 2 = .ok (.invokestatic 49, 3) := db1_16.2.2.1
theorem dX0_comesBack_5 : decode cX0_comesBack 5 = .ok (.iload_n 1, 1) := db1_16.2.2.2.1
theorem dX0_comesBack_6 : decode cX0_comesBack 6 = .ok (.ineg, 1) := db1_16.2.2.2.2.1
theorem dX0_comesBack_7 : decode cX0_comesBack 7 = .ok (.invokestatic 49, 3) := db1_16.2.2.2.2.2.1
theorem dX0_comesBack_10 : decode cX0_comesBack 10 = .ok (.iload_n 0, 1) := db1_16.2.2.2.2.2.2.1
theorem dX0_comesBack_11 : decode cX0_comesBack 11 = .ok (.if_icmp .ne 7, 3) := db1_16.2.2.2.2.2.2.2.1
theorem dX0_comesBack_14 : decode cX0_comesBack 14 = .ok (.iconst 1, 1) := db1_16.2.2.2.2.2.2.2.2.1
theorem dX0_comesBack_15 : decode cX0_comesBack 15 = .ok (.goto 4, 3) := db1_16.2.2.2.2.2.2.2.2.2.1
theorem dX0_comesBack_18 : decode cX0_comesBack 18 = .ok (.iconst 0, 1) := db1_16.2.2.2.2.2.2.2.2.2.2.1
theorem dX0_comesBack_19 : decode cX0_comesBack 19 = .ok (.ireturn, 1) := db1_16.2.2.2.2.2.2.2.2.2.2.2
theorem db1_17 : (decode cX0_monthsFirst 0 = .ok (.iload_n 0, 1)) ∧ (decode cX0_monthsFirst 1 = .ok (.iload_n 1, 1)) ∧ (decode cX0_monthsFirst 2 = .ok (.invokestatic 49, 3)) ∧ (decode cX0_monthsFirst 5 = .ok (.iload_n 2, 1)) ∧ (decode cX0_monthsFirst 6 = .ok (.iadd, 1)) ∧ (decode cX0_monthsFirst 7 = .ok (.ireturn, 1)) := by decide +kernel
theorem dX0_monthsFirst_0 : decode cX0_monthsFirst 0 = .ok (.iload_n 0, 1) := db1_17.1
theorem dX0_monthsFirst_1 : decode cX0_monthsFirst 1 = .ok (.iload_n 1, 1) := db1_17.2.1
theorem dX0_monthsFirst_2 : decode cX0_monthsFirst 2 = .ok (.invokestatic 49, 3) := db1_17.2.2.1
theorem dX0_monthsFirst_5 : decode cX0_monthsFirst 5 = .ok (.iload_n 2, 1) := db1_17.2.2.2.1
theorem dX0_monthsFirst_6 : decode cX0_monthsFirst 6 = .ok (.iadd, 1) := db1_17.2.2.2.2.1
theorem dX0_monthsFirst_7 : decode cX0_monthsFirst 7 = .ok (.ireturn, 1) := db1_17.2.2.2.2.2
theorem db1_18 : (decode cX0_daysFirst 0 = .ok (.iload_n 0, 1)) ∧ (decode cX0_daysFirst 1 = .ok (.iload_n 2, 1)) ∧ (decode cX0_daysFirst 2 = .ok (.iadd, 1)) ∧ (decode cX0_daysFirst 3 = .ok (.iload_n 1, 1)) ∧ (decode cX0_daysFirst 4 = .ok (.invokestatic 49, 3)) ∧ (decode cX0_daysFirst 7 = .ok (.ireturn, 1)) := by decide +kernel
theorem dX0_daysFirst_0 : decode cX0_daysFirst 0 = .ok (.iload_n 0, 1) := db1_18.1
theorem dX0_daysFirst_1 : decode cX0_daysFirst 1 = .ok (.iload_n 2, 1) := db1_18.2.1
theorem dX0_daysFirst_2 : decode cX0_daysFirst 2 = .ok (.iadd, 1) := db1_18.2.2.1
theorem dX0_daysFirst_3 : decode cX0_daysFirst 3 = .ok (.iload_n 1, 1) := db1_18.2.2.2.1
theorem dX0_daysFirst_4 : decode cX0_daysFirst 4 = .ok (.invokestatic 49, 3) := db1_18.2.2.2.2.1
theorem dX0_daysFirst_7 : decode cX0_daysFirst 7 = .ok (.ireturn, 1) := db1_18.2.2.2.2.2
theorem db1_19 : (decode cX0_monthsUntil 0 = .ok (.iload_n 1, 1)) ∧ (decode cX0_monthsUntil 1 = .ok (.invokestatic 34, 3)) ∧ (decode cX0_monthsUntil 4 = .ok (.iload_n 0, 1)) ∧ (decode cX0_monthsUntil 5 = .ok (.invokestatic 34, 3)) ∧ (decode cX0_monthsUntil 8 = .ok (.isub, 1)) ∧ (decode cX0_monthsUntil 9 = .ok (.istore_n 2, 1)) ∧ (decode cX0_monthsUntil 10 = .ok (.iload_n 1, 1)) ∧ (decode cX0_monthsUntil 11 = .ok (.invokestatic 46, 3)) ∧ (decode cX0_monthsUntil 14 = .ok (.iload_n 0, 1)) ∧ (decode cX0_monthsUntil 15 = .ok (.invokestatic 46, 3)) ∧ (decode cX0_monthsUntil 18 = .ok (.if_icmp .ge 9, 3)) ∧ (decode cX0_monthsUntil 21 = .ok (.iload_n 2, 1)) ∧ (decode cX0_monthsUntil 22 = .ok (.iconst 1, 1)) ∧ (decode cX0_monthsUntil 23 = .ok (.isub, 1)) ∧ (decode cX0_monthsUntil 24 = .ok (.goto 4, 3)) ∧ (decode cX0_monthsUntil 27 = .ok (.iload_n 2, 1)) := by decide +kernel
theorem dX0_monthsUntil_0 : decode cX0_monthsUntil 0 = .ok (.iload_n 1, 1) := db1_19.1
theorem dX0_monthsUntil_1 : decode cX0_monthsUntil 1 = .ok (.invokestatic 34, 3) := db1_19.2.1
theorem dX0_monthsUntil_4 : decode cX0_monthsUntil 4 = .ok (.iload_n 0, 1) := db1_19.2.2.1
theorem dX0_monthsUntil_5 : decode cX0_monthsUntil 5 = .ok (.invokestatic 34, 3) := db1_19.2.2.2.1
theorem dX0_monthsUntil_8 : decode cX0_monthsUntil 8 = .ok (.isub, 1) := db1_19.2.2.2.2.1
theorem dX0_monthsUntil_9 : decode cX0_monthsUntil 9 = .ok (.istore_n 2, 1) := db1_19.2.2.2.2.2.1
theorem dX0_monthsUntil_10 : decode cX0_monthsUntil 10 = .ok (.iload_n 1, 1) := db1_19.2.2.2.2.2.2.1
theorem dX0_monthsUntil_11 : decode cX0_monthsUntil 11 = .ok (.invokestatic 46, 3) := db1_19.2.2.2.2.2.2.2.1
theorem dX0_monthsUntil_14 : decode cX0_monthsUntil 14 = .ok (.iload_n 0, 1) := db1_19.2.2.2.2.2.2.2.2.1
theorem dX0_monthsUntil_15 : decode cX0_monthsUntil 15 = .ok (.invokestatic 46, 3) := db1_19.2.2.2.2.2.2.2.2.2.1
theorem dX0_monthsUntil_18 : decode cX0_monthsUntil 18 = .ok (.if_icmp .ge 9, 3) := db1_19.2.2.2.2.2.2.2.2.2.2.1
theorem dX0_monthsUntil_21 : decode cX0_monthsUntil 21 = .ok (.iload_n 2, 1) := db1_19.2.2.2.2.2.2.2.2.2.2.2.1
theorem dX0_monthsUntil_22 : decode cX0_monthsUntil 22 = .ok (.iconst 1, 1) := db1_19.2.2.2.2.2.2.2.2.2.2.2.2.1
theorem dX0_monthsUntil_23 : decode cX0_monthsUntil 23 = .ok (.isub, 1) := db1_19.2.2.2.2.2.2.2.2.2.2.2.2.2.1
theorem dX0_monthsUntil_24 : decode cX0_monthsUntil 24 = .ok (.goto 4, 3) := db1_19.2.2.2.2.2.2.2.2.2.2.2.2.2.2.1
theorem dX0_monthsUntil_27 : decode cX0_monthsUntil 27 = .ok (.iload_n 2, 1) := db1_19.2.2.2.2.2.2.2.2.2.2.2.2.2.2.2
theorem dX0_monthsUntil_28 : decode cX0_monthsUntil 28 = .ok (.ireturn, 1) := by decide +kernel
theorem db1_20 : (decode cX0_anniversary 0 = .ok (.bipush 12, 2)) ∧ (decode cX0_anniversary 2 = .ok (.iload_n 1, 1)) ∧ (decode cX0_anniversary 3 = .ok (.imul, 1)) ∧ (decode cX0_anniversary 4 = .ok (.istore_n 3, 1)) ∧ (decode cX0_anniversary 5 = .ok (.iload_n 2, 1)) ∧ (decode cX0_anniversary 6 = .ok (.ifCond .eq 15, 3)) ∧ (decode cX0_anniversary 9 = .ok (.iload_n 0, 1)) ∧ (decode cX0_anniversary 10 = .ok (.iload_n 3, 1)) ∧ (decode cX0_anniversary 11 = .ok (.invokestatic 52, 3)) ∧ (decode cX0_anniversary 14 = .ok (.ifCond .le 7, 3)) ∧ (decode cX0_anniversary 17 = .ok (.iconst 1, 1)) ∧ (decode cX0_anniversary 18 = .ok (.goto 4, 3)) ∧ (decode cX0_anniversary 21 = .ok (.iconst 0, 1)) ∧ (decode cX0_anniversary 22 = .ok (.istore 4, 2)) ∧ (decode cX0_anniversary 24 = .ok (.iload_n 0, 1)) ∧ (decode cX0_anniversary 25 = .ok (.iload_n 3, 1)) := by decide +kernel
theorem dX0_anniversary_0 : decode cX0_anniversary 0 = .ok (.bipush 12, 2) := db1_20.1
theorem dX0_anniversary_2 : decode cX0_anniversary 2 = .ok (.iload_n 1, 1) := db1_20.2.1
theorem dX0_anniversary_3 : decode cX0_anniversary 3 = .ok (.imul, 1) := db1_20.2.2.1
theorem dX0_anniversary_4 : decode cX0_anniversary 4 = .ok (.istore_n 3, 1) := db1_20.2.2.2.1
theorem dX0_anniversary_5 : decode cX0_anniversary 5 = .ok (.iload_n 2, 1) := db1_20.2.2.2.2.1
theorem dX0_anniversary_6 : decode cX0_anniversary 6 = .ok (.ifCond .eq 15, 3) := db1_20.2.2.2.2.2.1
theorem dX0_anniversary_9 : decode cX0_anniversary 9 = .ok (.iload_n 0, 1) := db1_20.2.2.2.2.2.2.1
theorem dX0_anniversary_10 : decode cX0_anniversary 10 = .ok (.iload_n 3, 1) := db1_20.2.2.2.2.2.2.2.1
theorem dX0_anniversary_11 : decode cX0_anniversary 11 = .ok (.invokestatic 52, 3) := db1_20.2.2.2.2.2.2.2.2.1
theorem dX0_anniversary_14 : decode cX0_anniversary 14 = .ok (.ifCond .le 7, 3) := db1_20.2.2.2.2.2.2.2.2.2.1
theorem dX0_anniversary_17 : decode cX0_anniversary 17 = .ok (.iconst 1, 1) := db1_20.2.2.2.2.2.2.2.2.2.2.1
theorem dX0_anniversary_18 : decode cX0_anniversary 18 = .ok (.goto 4, 3) := db1_20.2.2.2.2.2.2.2.2.2.2.2.1
theorem dX0_anniversary_21 : decode cX0_anniversary 21 = .ok (.iconst 0, 1) := db1_20.2.2.2.2.2.2.2.2.2.2.2.2.1
theorem dX0_anniversary_22 : decode cX0_anniversary 22 = .ok (.istore 4, 2) := db1_20.2.2.2.2.2.2.2.2.2.2.2.2.2.1
theorem dX0_anniversary_24 : decode cX0_anniversary 24 = .ok (.iload_n 0, 1) := db1_20.2.2.2.2.2.2.2.2.2.2.2.2.2.2.1
theorem dX0_anniversary_25 : decode cX0_anniversary 25 = .ok (.iload_n 3, 1) := db1_20.2.2.2.2.2.2.2.2.2.2.2.2.2.2.2
theorem db1_21 : (decode cX0_anniversary 26 = .ok (.invokestatic 49, 3)) ∧ (decode cX0_anniversary 29 = .ok (.iload 4, 2)) ∧ (decode cX0_anniversary 31 = .ok (.ifCond .eq 7, 3)) ∧ (decode cX0_anniversary 34 = .ok (.iconst 1, 1)) ∧ (decode cX0_anniversary 35 = .ok (.goto 4, 3)) ∧ (decode cX0_anniversary 38 = .ok (.iconst 0, 1)) ∧ (decode cX0_anniversary 39 = .ok (.iadd, 1)) ∧ (decode cX0_anniversary 40 = .ok (.ireturn, 1)) := by decide +kernel
theorem dX0_anniversary_26 : decode cX0_anniversary 26 = .ok (.invokestatic 49, 3) := db1_21.1
theorem dX0_anniversary_29 : decode cX0_anniversary 29 = .ok (.iload 4, 2) := db1_21.2.1
theorem dX0_anniversary_31 : decode cX0_anniversary 31 = .ok (.ifCond .eq 7, 3) := db1_21.2.2.1
theorem dX0_anniversary_34 : decode cX0_anniversary 34 = .ok (.iconst 1, 1) := db1_21.2.2.2.1
theorem dX0_anniversary_35 : decode cX0_anniversary 35 = .ok (.goto 4, 3) := db1_21.2.2.2.2.1
theorem dX0_anniversary_38 : decode cX0_anniversary 38 = .ok (.iconst 0, 1) := db1_21.2.2.2.2.2.1
theorem dX0_anniversary_39 : decode cX0_anniversary 39 = .ok (.iadd, 1) := db1_21.2.2.2.2.2.2.1
theorem dX0_anniversary_40 : decode cX0_anniversary 40 = .ok (.ireturn, 1) := db1_21.2.2.2.2.2.2.2
theorem db1_22 : (decode cX0_anniversariesUntil 0 = .ok (.iload_n 1, 1)) ∧ (decode cX0_anniversariesUntil 1 = .ok (.invokestatic 55, 3)) ∧ (decode cX0_anniversariesUntil 4 = .ok (.iload_n 0, 1)) ∧ (decode cX0_anniversariesUntil 5 = .ok (.invokestatic 55, 3)) ∧ (decode cX0_anniversariesUntil 8 = .ok (.isub, 1)) ∧ (decode cX0_anniversariesUntil 9 = .ok (.istore_n 3, 1)) ∧ (decode cX0_anniversariesUntil 10 = .ok (.iload_n 3, 1)) ∧ (decode cX0_anniversariesUntil 11 = .ok (.ifCond .le 17, 3)) ∧ (decode cX0_anniversariesUntil 14 = .ok (.iload_n 0, 1)) ∧ (decode cX0_anniversariesUntil 15 = .ok (.iload_n 3, 1)) ∧ (decode cX0_anniversariesUntil 16 = .ok (.iload_n 2, 1)) ∧ (decode cX0_anniversariesUntil 17 = .ok (.invokestatic 58, 3)) ∧ (decode cX0_anniversariesUntil 20 = .ok (.iload_n 1, 1)) ∧ (decode cX0_anniversariesUntil 21 = .ok (.if_icmp .le 7, 3)) ∧ (decode cX0_anniversariesUntil 24 = .ok (.iload_n 3, 1)) ∧ (decode cX0_anniversariesUntil 25 = .ok (.iconst 1, 1)) := by decide +kernel
theorem dX0_anniversariesUntil_0 : decode cX0_anniversariesUntil 0 = .ok (.iload_n 1, 1) := db1_22.1
theorem dX0_anniversariesUntil_1 : decode cX0_anniversariesUntil 1 = .ok (.invokestatic 55, 3) := db1_22.2.1
theorem dX0_anniversariesUntil_4 : decode cX0_anniversariesUntil 4 = .ok (.iload_n 0, 1) := db1_22.2.2.1
theorem dX0_anniversariesUntil_5 : decode cX0_anniversariesUntil 5 = .ok (.invokestatic 55, 3) := db1_22.2.2.2.1
theorem dX0_anniversariesUntil_8 : decode cX0_anniversariesUntil 8 = .ok (.isub, 1) := db1_22.2.2.2.2.1
theorem dX0_anniversariesUntil_9 : decode cX0_anniversariesUntil 9 = .ok (.istore_n 3, 1) := db1_22.2.2.2.2.2.1
theorem dX0_anniversariesUntil_10 : decode cX0_anniversariesUntil 10 = .ok (.iload_n 3, 1) := db1_22.2.2.2.2.2.2.1
theorem dX0_anniversariesUntil_11 : decode cX0_anniversariesUntil 11 = .ok (.ifCond .le 17, 3) := db1_22.2.2.2.2.2.2.2.1
theorem dX0_anniversariesUntil_14 : decode cX0_anniversariesUntil 14 = .ok (.iload_n 0, 1) := db1_22.2.2.2.2.2.2.2.2.1
theorem dX0_anniversariesUntil_15 : decode cX0_anniversariesUntil 15 = .ok (.iload_n 3, 1) := db1_22.2.2.2.2.2.2.2.2.2.1
theorem dX0_anniversariesUntil_16 : decode cX0_anniversariesUntil 16 = .ok (.iload_n 2, 1) := db1_22.2.2.2.2.2.2.2.2.2.2.1
theorem dX0_anniversariesUntil_17 : decode cX0_anniversariesUntil 17 = .ok (.invokestatic 58, 3) := db1_22.2.2.2.2.2.2.2.2.2.2.2.1
theorem dX0_anniversariesUntil_20 : decode cX0_anniversariesUntil 20 = .ok (.iload_n 1, 1) := db1_22.2.2.2.2.2.2.2.2.2.2.2.2.1
theorem dX0_anniversariesUntil_21 : decode cX0_anniversariesUntil 21 = .ok (.if_icmp .le 7, 3) := db1_22.2.2.2.2.2.2.2.2.2.2.2.2.2.1
theorem dX0_anniversariesUntil_24 : decode cX0_anniversariesUntil 24 = .ok (.iload_n 3, 1) := db1_22.2.2.2.2.2.2.2.2.2.2.2.2.2.2.1
theorem dX0_anniversariesUntil_25 : decode cX0_anniversariesUntil 25 = .ok (.iconst 1, 1) := db1_22.2.2.2.2.2.2.2.2.2.2.2.2.2.2.2
theorem db1_23 : (decode cX0_anniversariesUntil 26 = .ok (.isub, 1)) ∧ (decode cX0_anniversariesUntil 27 = .ok (.ireturn, 1)) ∧ (decode cX0_anniversariesUntil 28 = .ok (.iload_n 3, 1)) ∧ (decode cX0_anniversariesUntil 29 = .ok (.ireturn, 1)) := by decide +kernel
theorem dX0_anniversariesUntil_26 : decode cX0_anniversariesUntil 26 = .ok (.isub, 1) := db1_23.1
theorem dX0_anniversariesUntil_27 : decode cX0_anniversariesUntil 27 = .ok (.ireturn, 1) := db1_23.2.1
theorem dX0_anniversariesUntil_28 : decode cX0_anniversariesUntil 28 = .ok (.iload_n 3, 1) := db1_23.2.2.1
theorem dX0_anniversariesUntil_29 : decode cX0_anniversariesUntil 29 = .ok (.ireturn, 1) := db1_23.2.2.2
theorem db1_24 : (decode cX0_isToldAnew 0 = .ok (.iload_n 0, 1)) ∧ (decode cX0_isToldAnew 1 = .ok (.invokestatic 34, 3)) ∧ (decode cX0_isToldAnew 4 = .ok (.istore_n 1, 1)) ∧ (decode cX0_isToldAnew 5 = .ok (.iload_n 0, 1)) ∧ (decode cX0_isToldAnew 6 = .ok (.invokestatic 46, 3)) ∧ (decode cX0_isToldAnew 9 = .ok (.istore_n 2, 1)) ∧ (decode cX0_isToldAnew 10 = .ok (.iload_n 1, 1)) ∧ (decode cX0_isToldAnew 11 = .ok (.iload_n 2, 1)) ∧ (decode cX0_isToldAnew 12 = .ok (.invokestatic 43, 3)) ∧ (decode cX0_isToldAnew 15 = .ok (.istore_n 3, 1)) ∧ (decode cX0_isToldAnew 16 = .ok (.iload_n 3, 1)) ∧ (decode cX0_isToldAnew 17 = .ok (.iload_n 0, 1)) ∧ (decode cX0_isToldAnew 18 = .ok (.if_icmp .ne 23, 3)) ∧ (decode cX0_isToldAnew 21 = .ok (.iload_n 3, 1)) ∧ (decode cX0_isToldAnew 22 = .ok (.invokestatic 34, 3)) ∧ (decode cX0_isToldAnew 25 = .ok (.iload_n 1, 1)) := by decide +kernel
theorem dX0_isToldAnew_0 : decode cX0_isToldAnew 0 = .ok (.iload_n 0, 1) := db1_24.1
theorem dX0_isToldAnew_1 : decode cX0_isToldAnew 1 = .ok (.invokestatic 34, 3) := db1_24.2.1
theorem dX0_isToldAnew_4 : decode cX0_isToldAnew 4 = .ok (.istore_n 1, 1) := db1_24.2.2.1
theorem dX0_isToldAnew_5 : decode cX0_isToldAnew 5 = .ok (.iload_n 0, 1) := db1_24.2.2.2.1
theorem dX0_isToldAnew_6 : decode cX0_isToldAnew 6 = .ok (.invokestatic 46, 3) := db1_24.2.2.2.2.1
theorem dX0_isToldAnew_9 : decode cX0_isToldAnew 9 = .ok (.istore_n 2, 1) := db1_24.2.2.2.2.2.1
theorem dX0_isToldAnew_10 : decode cX0_isToldAnew 10 = .ok (.iload_n 1, 1) := db1_24.2.2.2.2.2.2.1
theorem dX0_isToldAnew_11 : decode cX0_isToldAnew 11 = .ok (.iload_n 2, 1) := db1_24.2.2.2.2.2.2.2.1
theorem dX0_isToldAnew_12 : decode cX0_isToldAnew 12 = .ok (.invokestatic 43, 3) := db1_24.2.2.2.2.2.2.2.2.1
theorem dX0_isToldAnew_15 : decode cX0_isToldAnew 15 = .ok (.istore_n 3, 1) := db1_24.2.2.2.2.2.2.2.2.2.1
theorem dX0_isToldAnew_16 : decode cX0_isToldAnew 16 = .ok (.iload_n 3, 1) := db1_24.2.2.2.2.2.2.2.2.2.2.1
theorem dX0_isToldAnew_17 : decode cX0_isToldAnew 17 = .ok (.iload_n 0, 1) := db1_24.2.2.2.2.2.2.2.2.2.2.2.1
theorem dX0_isToldAnew_18 : decode cX0_isToldAnew 18 = .ok (.if_icmp .ne 23, 3) := db1_24.2.2.2.2.2.2.2.2.2.2.2.2.1
theorem dX0_isToldAnew_21 : decode cX0_isToldAnew 21 = .ok (.iload_n 3, 1) := db1_24.2.2.2.2.2.2.2.2.2.2.2.2.2.1
theorem dX0_isToldAnew_22 : decode cX0_isToldAnew 22 = .ok (.invokestatic 34, 3) := db1_24.2.2.2.2.2.2.2.2.2.2.2.2.2.2.1
theorem dX0_isToldAnew_25 : decode cX0_isToldAnew 25 = .ok (.iload_n 1, 1) := db1_24.2.2.2.2.2.2.2.2.2.2.2.2.2.2.2
theorem db1_25 : (decode cX0_isToldAnew 26 = .ok (.if_icmp .ne 15, 3)) ∧ (decode cX0_isToldAnew 29 = .ok (.iload_n 3, 1)) ∧ (decode cX0_isToldAnew 30 = .ok (.invokestatic 46, 3)) ∧ (decode cX0_isToldAnew 33 = .ok (.iload_n 2, 1)) ∧ (decode cX0_isToldAnew 34 = .ok (.if_icmp .ne 7, 3)) ∧ (decode cX0_isToldAnew 37 = .ok (.iconst 1, 1)) ∧ (decode cX0_isToldAnew 38 = .ok (.goto 4, 3)) ∧ (decode cX0_isToldAnew 41 = .ok (.iconst 0, 1)) ∧ (decode cX0_isToldAnew 42 = .ok (.ireturn, 1)) := by decide +kernel
theorem dX0_isToldAnew_26 : decode cX0_isToldAnew 26 = .ok (.if_icmp .ne 15, 3) := db1_25.1
theorem dX0_isToldAnew_29 : decode cX0_isToldAnew 29 = .ok (.iload_n 3, 1) := db1_25.2.1
theorem dX0_isToldAnew_30 : decode cX0_isToldAnew 30 = .ok (.invokestatic 46, 3) := db1_25.2.2.1
theorem dX0_isToldAnew_33 : decode cX0_isToldAnew 33 = .ok (.iload_n 2, 1) := db1_25.2.2.2.1
theorem dX0_isToldAnew_34 : decode cX0_isToldAnew 34 = .ok (.if_icmp .ne 7, 3) := db1_25.2.2.2.2.1
theorem dX0_isToldAnew_37 : decode cX0_isToldAnew 37 = .ok (.iconst 1, 1) := db1_25.2.2.2.2.2.1
theorem dX0_isToldAnew_38 : decode cX0_isToldAnew 38 = .ok (.goto 4, 3) := db1_25.2.2.2.2.2.2.1
theorem dX0_isToldAnew_41 : decode cX0_isToldAnew 41 = .ok (.iconst 0, 1) := db1_25.2.2.2.2.2.2.2.1
theorem dX0_isToldAnew_42 : decode cX0_isToldAnew 42 = .ok (.ireturn, 1) := db1_25.2.2.2.2.2.2.2.2
theorem db1_26 : (decode cX0_isSoundByCycles 0 = .ok (.iload_n 0, 1)) ∧ (decode cX0_isSoundByCycles 1 = .ok (.sipush 4800, 3)) ∧ (decode cX0_isSoundByCycles 4 = .ok (.invokestatic 49, 3)) ∧ (decode cX0_isSoundByCycles 7 = .ok (.iload_n 0, 1)) ∧ (decode cX0_isSoundByCycles 8 = .ok (.isub, 1)) ∧ (decode cX0_isSoundByCycles 9 = .ok (.ldc 62, 2)) ∧ (decode cX0_isSoundByCycles 11 = .ok (.if_icmp .ne 21, 3)) ∧ (decode cX0_isSoundByCycles 14 = .ok (.iload_n 0, 1)) ∧ (decode cX0_isSoundByCycles 15 = .ok (.iload_n 0, 1)) ∧ (decode cX0_isSoundByCycles 16 = .ok (.sipush (-4800), 3)) ∧ (decode cX0_isSoundByCycles 19 = .ok (.invokestatic 49, 3)) ∧ (decode cX0_isSoundByCycles 22 = .ok (.isub, 1)) ∧ (decode cX0_isSoundByCycles 23 = .ok (.ldc 62, 2)) ∧ (decode cX0_isSoundByCycles 25 = .ok (.if_icmp .ne 7, 3)) ∧ (decode cX0_isSoundByCycles 28 = .ok (.iconst 1, 1)) ∧ (decode cX0_isSoundByCycles 29 = .ok (.goto 4, 3)) := by decide +kernel
theorem dX0_isSoundByCycles_0 : decode cX0_isSoundByCycles 0 = .ok (.iload_n 0, 1) := db1_26.1
theorem dX0_isSoundByCycles_1 : decode cX0_isSoundByCycles 1 = .ok (.sipush 4800, 3) := db1_26.2.1
theorem dX0_isSoundByCycles_4 : decode cX0_isSoundByCycles 4 = .ok (.invokestatic 49, 3) := db1_26.2.2.1
theorem dX0_isSoundByCycles_7 : decode cX0_isSoundByCycles 7 = .ok (.iload_n 0, 1) := db1_26.2.2.2.1
theorem dX0_isSoundByCycles_8 : decode cX0_isSoundByCycles 8 = .ok (.isub, 1) := db1_26.2.2.2.2.1
theorem dX0_isSoundByCycles_9 : decode cX0_isSoundByCycles 9 = .ok (.ldc 62, 2) := db1_26.2.2.2.2.2.1
theorem dX0_isSoundByCycles_11 : decode cX0_isSoundByCycles 11 = .ok (.if_icmp .ne 21, 3) := db1_26.2.2.2.2.2.2.1
theorem dX0_isSoundByCycles_14 : decode cX0_isSoundByCycles 14 = .ok (.iload_n 0, 1) := db1_26.2.2.2.2.2.2.2.1
theorem dX0_isSoundByCycles_15 : decode cX0_isSoundByCycles 15 = .ok (.iload_n 0, 1) := db1_26.2.2.2.2.2.2.2.2.1
theorem dX0_isSoundByCycles_16 : decode cX0_isSoundByCycles 16 = .ok (.sipush (-4800), 3) := db1_26.2.2.2.2.2.2.2.2.2.1
theorem dX0_isSoundByCycles_19 : decode cX0_isSoundByCycles 19 = .ok (.invokestatic 49, 3) := db1_26.2.2.2.2.2.2.2.2.2.2.1
theorem dX0_isSoundByCycles_22 : decode cX0_isSoundByCycles 22 = .ok (.isub, 1) := db1_26.2.2.2.2.2.2.2.2.2.2.2.1
theorem dX0_isSoundByCycles_23 : decode cX0_isSoundByCycles 23 = .ok (.ldc 62, 2) := db1_26.2.2.2.2.2.2.2.2.2.2.2.2.1
theorem dX0_isSoundByCycles_25 : decode cX0_isSoundByCycles 25 = .ok (.if_icmp .ne 7, 3) := db1_26.2.2.2.2.2.2.2.2.2.2.2.2.2.1
theorem dX0_isSoundByCycles_28 : decode cX0_isSoundByCycles 28 = .ok (.iconst 1, 1) := db1_26.2.2.2.2.2.2.2.2.2.2.2.2.2.2.1
theorem dX0_isSoundByCycles_29 : decode cX0_isSoundByCycles 29 = .ok (.goto 4, 3) := db1_26.2.2.2.2.2.2.2.2.2.2.2.2.2.2.2
theorem db1_27 : (decode cX0_isSoundByCycles 32 = .ok (.iconst 0, 1)) ∧ (decode cX0_isSoundByCycles 33 = .ok (.ireturn, 1)) := by decide +kernel
theorem dX0_isSoundByCycles_32 : decode cX0_isSoundByCycles 32 = .ok (.iconst 0, 1) := db1_27.1
theorem dX0_isSoundByCycles_33 : decode cX0_isSoundByCycles 33 = .ok (.ireturn, 1) := db1_27.2
theorem db1_28 : (decode cX0_isSoundByMonths 0 = .ok (.iload_n 0, 1)) ∧ (decode cX0_isSoundByMonths 1 = .ok (.invokestatic 34, 3)) ∧ (decode cX0_isSoundByMonths 4 = .ok (.istore_n 1, 1)) ∧ (decode cX0_isSoundByMonths 5 = .ok (.iload_n 0, 1)) ∧ (decode cX0_isSoundByMonths 6 = .ok (.invokestatic 46, 3)) ∧ (decode cX0_isSoundByMonths 9 = .ok (.istore_n 2, 1)) ∧ (decode cX0_isSoundByMonths 10 = .ok (.bipush (-13), 2)) ∧ (decode cX0_isSoundByMonths 12 = .ok (.istore_n 3, 1)) ∧ (decode cX0_isSoundByMonths 13 = .ok (.iload_n 3, 1)) ∧ (decode cX0_isSoundByMonths 14 = .ok (.bipush 13, 2)) ∧ (decode cX0_isSoundByMonths 16 = .ok (.if_icmp .gt 82, 3)) ∧ (decode cX0_isSoundByMonths 19 = .ok (.iload_n 0, 1)) ∧ (decode cX0_isSoundByMonths 20 = .ok (.iload_n 3, 1)) ∧ (decode cX0_isSoundByMonths 21 = .ok (.invokestatic 49, 3)) ∧ (decode cX0_isSoundByMonths 24 = .ok (.istore 4, 2)) ∧ (decode cX0_isSoundByMonths 26 = .ok (.iload_n 2, 1)) := by decide +kernel
theorem dX0_isSoundByMonths_0 : decode cX0_isSoundByMonths 0 = .ok (.iload_n 0, 1) := db1_28.1
theorem dX0_isSoundByMonths_1 : decode cX0_isSoundByMonths 1 = .ok (.invokestatic 34, 3) := db1_28.2.1
theorem dX0_isSoundByMonths_4 : decode cX0_isSoundByMonths 4 = .ok (.istore_n 1, 1) := db1_28.2.2.1
theorem dX0_isSoundByMonths_5 : decode cX0_isSoundByMonths 5 = .ok (.iload_n 0, 1) := db1_28.2.2.2.1
theorem dX0_isSoundByMonths_6 : decode cX0_isSoundByMonths 6 = .ok (.invokestatic 46, 3) := db1_28.2.2.2.2.1
theorem dX0_isSoundByMonths_9 : decode cX0_isSoundByMonths 9 = .ok (.istore_n 2, 1) := db1_28.2.2.2.2.2.1
theorem dX0_isSoundByMonths_10 : decode cX0_isSoundByMonths 10 = .ok (.bipush (-13), 2) := db1_28.2.2.2.2.2.2.1
theorem dX0_isSoundByMonths_12 : decode cX0_isSoundByMonths 12 = .ok (.istore_n 3, 1) := db1_28.2.2.2.2.2.2.2.1
theorem dX0_isSoundByMonths_13 : decode cX0_isSoundByMonths 13 = .ok (.iload_n 3, 1) := db1_28.2.2.2.2.2.2.2.2.1
theorem dX0_isSoundByMonths_14 : decode cX0_isSoundByMonths 14 = .ok (.bipush 13, 2) := db1_28.2.2.2.2.2.2.2.2.2.1
theorem dX0_isSoundByMonths_16 : decode cX0_isSoundByMonths 16 = .ok (.if_icmp .gt 82, 3) := db1_28.2.2.2.2.2.2.2.2.2.2.1
theorem dX0_isSoundByMonths_19 : decode cX0_isSoundByMonths 19 = .ok (.iload_n 0, 1) := db1_28.2.2.2.2.2.2.2.2.2.2.2.1
theorem dX0_isSoundByMonths_20 : decode cX0_isSoundByMonths 20 = .ok (.iload_n 3, 1) := db1_28.2.2.2.2.2.2.2.2.2.2.2.2.1
theorem dX0_isSoundByMonths_21 : decode cX0_isSoundByMonths 21 = .ok (.invokestatic 49, 3) := db1_28.2.2.2.2.2.2.2.2.2.2.2.2.2.1
theorem dX0_isSoundByMonths_24 : decode cX0_isSoundByMonths 24 = .ok (.istore 4, 2) := db1_28.2.2.2.2.2.2.2.2.2.2.2.2.2.2.1
theorem dX0_isSoundByMonths_26 : decode cX0_isSoundByMonths 26 = .ok (.iload_n 2, 1) := db1_28.2.2.2.2.2.2.2.2.2.2.2.2.2.2.2
theorem db1_29 : (decode cX0_isSoundByMonths 27 = .ok (.iload_n 1, 1)) ∧ (decode cX0_isSoundByMonths 28 = .ok (.iload_n 3, 1)) ∧ (decode cX0_isSoundByMonths 29 = .ok (.iadd, 1)) ∧ (decode cX0_isSoundByMonths 30 = .ok (.invokestatic 63, 3)) ∧ (decode cX0_isSoundByMonths 33 = .ok (.invokestatic 40, 3)) ∧ (decode cX0_isSoundByMonths 36 = .ok (.istore 5, 2)) ∧ (decode cX0_isSoundByMonths 38 = .ok (.iload 4, 2)) ∧ (decode cX0_isSoundByMonths 40 = .ok (.invokestatic 34, 3)) ∧ (decode cX0_isSoundByMonths 43 = .ok (.iload_n 1, 1)) ∧ (decode cX0_isSoundByMonths 44 = .ok (.iload_n 3, 1)) ∧ (decode cX0_isSoundByMonths 45 = .ok (.iadd, 1)) ∧ (decode cX0_isSoundByMonths 46 = .ok (.if_icmp .ne 17, 3)) ∧ (decode cX0_isSoundByMonths 49 = .ok (.iload 4, 2)) ∧ (decode cX0_isSoundByMonths 51 = .ok (.invokestatic 46, 3)) ∧ (decode cX0_isSoundByMonths 54 = .ok (.iload 5, 2)) ∧ (decode cX0_isSoundByMonths 56 = .ok (.if_icmp .ne 7, 3)) := by decide +kernel
theorem dX0_isSoundByMonths_27 : decode cX0_isSoundByMonths 27 = .ok (.iload_n 1, 1) := db1_29.1
theorem dX0_isSoundByMonths_28 : decode cX0_isSoundByMonths 28 = .ok (.iload_n 3, 1) := db1_29.2.1
theorem dX0_isSoundByMonths_29 : decode cX0_isSoundByMonths 29 = .ok (.iadd, 1) := db1_29.2.2.1
theorem dX0_isSoundByMonths_30 : decode cX0_isSoundByMonths 30 = .ok (.invokestatic 63, 3) := db1_29.2.2.2.1
theorem dX0_isSoundByMonths_33 : decode cX0_isSoundByMonths 33 = .ok (.invokestatic 40, 3) := db1_29.2.2.2.2.1
theorem dX0_isSoundByMonths_36 : decode cX0_isSoundByMonths 36 = .ok (.istore 5, 2) := db1_29.2.2.2.2.2.1
theorem dX0_isSoundByMonths_38 : decode cX0_isSoundByMonths 38 = .ok (.iload 4, 2) := db1_29.2.2.2.2.2.2.1
theorem dX0_isSoundByMonths_40 : decode cX0_isSoundByMonths 40 = .ok (.invokestatic 34, 3) := db1_29.2.2.2.2.2.2.2.1
theorem dX0_isSoundByMonths_43 : decode cX0_isSoundByMonths 43 = .ok (.iload_n 1, 1) := db1_29.2.2.2.2.2.2.2.2.1
theorem dX0_isSoundByMonths_44 : decode cX0_isSoundByMonths 44 = .ok (.iload_n 3, 1) := db1_29.2.2.2.2.2.2.2.2.2.1
theorem dX0_isSoundByMonths_45 : decode cX0_isSoundByMonths 45 = .ok (.iadd, 1) := db1_29.2.2.2.2.2.2.2.2.2.2.1
theorem dX0_isSoundByMonths_46 : decode cX0_isSoundByMonths 46 = .ok (.if_icmp .ne 17, 3) := db1_29.2.2.2.2.2.2.2.2.2.2.2.1
theorem dX0_isSoundByMonths_49 : decode cX0_isSoundByMonths 49 = .ok (.iload 4, 2) := db1_29.2.2.2.2.2.2.2.2.2.2.2.2.1
theorem dX0_isSoundByMonths_51 : decode cX0_isSoundByMonths 51 = .ok (.invokestatic 46, 3) := db1_29.2.2.2.2.2.2.2.2.2.2.2.2.2.1
theorem dX0_isSoundByMonths_54 : decode cX0_isSoundByMonths 54 = .ok (.iload 5, 2) := db1_29.2.2.2.2.2.2.2.2.2.2.2.2.2.2.1
theorem dX0_isSoundByMonths_56 : decode cX0_isSoundByMonths 56 = .ok (.if_icmp .ne 7, 3) := db1_29.2.2.2.2.2.2.2.2.2.2.2.2.2.2.2
theorem db1_30 : (decode cX0_isSoundByMonths 59 = .ok (.iconst 1, 1)) ∧ (decode cX0_isSoundByMonths 60 = .ok (.goto 4, 3)) ∧ (decode cX0_isSoundByMonths 63 = .ok (.iconst 0, 1)) ∧ (decode cX0_isSoundByMonths 64 = .ok (.istore 6, 2)) ∧ (decode cX0_isSoundByMonths 66 = .ok (.iload 6, 2)) ∧ (decode cX0_isSoundByMonths 68 = .ok (.ifCond .eq 22, 3)) ∧ (decode cX0_isSoundByMonths 71 = .ok (.iload_n 0, 1)) ∧ (decode cX0_isSoundByMonths 72 = .ok (.iload_n 3, 1)) ∧ (decode cX0_isSoundByMonths 73 = .ok (.invokestatic 66, 3)) ∧ (decode cX0_isSoundByMonths 76 = .ok (.iload 5, 2)) ∧ (decode cX0_isSoundByMonths 78 = .ok (.iload_n 2, 1)) ∧ (decode cX0_isSoundByMonths 79 = .ok (.if_icmp .ne 7, 3)) ∧ (decode cX0_isSoundByMonths 82 = .ok (.iconst 1, 1)) ∧ (decode cX0_isSoundByMonths 83 = .ok (.goto 4, 3)) ∧ (decode cX0_isSoundByMonths 86 = .ok (.iconst 0, 1)) ∧ (decode cX0_isSoundByMonths 87 = .ok (.if_icmp .eq 5, 3)) := by decide +kernel
theorem dX0_isSoundByMonths_59 : decode cX0_isSoundByMonths 59 = .ok (.iconst 1, 1) := db1_30.1
theorem dX0_isSoundByMonths_60 : decode cX0_isSoundByMonths 60 = .ok (.goto 4, 3) := db1_30.2.1
theorem dX0_isSoundByMonths_63 : decode cX0_isSoundByMonths 63 = .ok (.iconst 0, 1) := db1_30.2.2.1
theorem dX0_isSoundByMonths_64 : decode cX0_isSoundByMonths 64 = .ok (.istore 6, 2) := db1_30.2.2.2.1
theorem dX0_isSoundByMonths_66 : decode cX0_isSoundByMonths 66 = .ok (.iload 6, 2) := db1_30.2.2.2.2.1
theorem dX0_isSoundByMonths_68 : decode cX0_isSoundByMonths 68 = .ok (.ifCond .eq 22, 3) := db1_30.2.2.2.2.2.1
theorem dX0_isSoundByMonths_71 : decode cX0_isSoundByMonths 71 = .ok (.iload_n 0, 1) := db1_30.2.2.2.2.2.2.1
theorem dX0_isSoundByMonths_72 : decode cX0_isSoundByMonths 72 = .ok (.iload_n 3, 1) := db1_30.2.2.2.2.2.2.2.1
theorem dX0_isSoundByMonths_73 : decode cX0_isSoundByMonths 73 = .ok (.invokestatic 66, 3) := db1_30.2.2.2.2.2.2.2.2.1
theorem dX0_isSoundByMonths_76 : decode cX0_isSoundByMonths 76 = .ok (.iload 5, 2) := db1_30.2.2.2.2.2.2.2.2.2.1
theorem dX0_isSoundByMonths_78 : decode cX0_isSoundByMonths 78 = .ok (.iload_n 2, 1) := db1_30.2.2.2.2.2.2.2.2.2.2.1
theorem dX0_isSoundByMonths_79 : decode cX0_isSoundByMonths 79 = .ok (.if_icmp .ne 7, 3) := db1_30.2.2.2.2.2.2.2.2.2.2.2.1
theorem dX0_isSoundByMonths_82 : decode cX0_isSoundByMonths 82 = .ok (.iconst 1, 1) := db1_30.2.2.2.2.2.2.2.2.2.2.2.2.1
theorem dX0_isSoundByMonths_83 : decode cX0_isSoundByMonths 83 = .ok (.goto 4, 3) := db1_30.2.2.2.2.2.2.2.2.2.2.2.2.2.1
theorem dX0_isSoundByMonths_86 : decode cX0_isSoundByMonths 86 = .ok (.iconst 0, 1) := db1_30.2.2.2.2.2.2.2.2.2.2.2.2.2.2.1
theorem dX0_isSoundByMonths_87 : decode cX0_isSoundByMonths 87 = .ok (.if_icmp .eq 5, 3) := db1_30.2.2.2.2.2.2.2.2.2.2.2.2.2.2.2
theorem db1_31 : (decode cX0_isSoundByMonths 90 = .ok (.iconst 0, 1)) ∧ (decode cX0_isSoundByMonths 91 = .ok (.ireturn, 1)) ∧ (decode cX0_isSoundByMonths 92 = .ok (.iinc 3 1, 3)) ∧ (decode cX0_isSoundByMonths 95 = .ok (.goto (-82), 3)) ∧ (decode cX0_isSoundByMonths 98 = .ok (.iconst 1, 1)) ∧ (decode cX0_isSoundByMonths 99 = .ok (.ireturn, 1)) := by decide +kernel
theorem dX0_isSoundByMonths_90 : decode cX0_isSoundByMonths 90 = .ok (.iconst 0, 1) := db1_31.1
theorem dX0_isSoundByMonths_91 : decode cX0_isSoundByMonths 91 = .ok (.ireturn, 1) := db1_31.2.1
theorem dX0_isSoundByMonths_92 : decode cX0_isSoundByMonths 92 = .ok (.iinc 3 1, 3) := db1_31.2.2.1
theorem dX0_isSoundByMonths_95 : decode cX0_isSoundByMonths 95 = .ok (.goto (-82), 3) := db1_31.2.2.2.1
theorem dX0_isSoundByMonths_98 : decode cX0_isSoundByMonths 98 = .ok (.iconst 1, 1) := db1_31.2.2.2.2.1
theorem dX0_isSoundByMonths_99 : decode cX0_isSoundByMonths 99 = .ok (.ireturn, 1) := db1_31.2.2.2.2.2
theorem db1_32 : (decode cX0_isSoundPair 0 = .ok (.iload_n 0, 1)) ∧ (decode cX0_isSoundPair 1 = .ok (.iload_n 1, 1)) ∧ (decode cX0_isSoundPair 2 = .ok (.invokestatic 70, 3)) ∧ (decode cX0_isSoundPair 5 = .ok (.istore_n 2, 1)) ∧ (decode cX0_isSoundPair 6 = .ok (.iload_n 1, 1)) ∧ (decode cX0_isSoundPair 7 = .ok (.iload_n 0, 1)) ∧ (decode cX0_isSoundPair 8 = .ok (.iload_n 2, 1)) ∧ (decode cX0_isSoundPair 9 = .ok (.invokestatic 49, 3)) ∧ (decode cX0_isSoundPair 12 = .ok (.isub, 1)) ∧ (decode cX0_isSoundPair 13 = .ok (.istore_n 3, 1)) ∧ (decode cX0_isSoundPair 14 = .ok (.iload_n 0, 1)) ∧ (decode cX0_isSoundPair 15 = .ok (.iload_n 2, 1)) ∧ (decode cX0_isSoundPair 16 = .ok (.iload_n 3, 1)) ∧ (decode cX0_isSoundPair 17 = .ok (.invokestatic 73, 3)) ∧ (decode cX0_isSoundPair 20 = .ok (.iload_n 1, 1)) ∧ (decode cX0_isSoundPair 21 = .ok (.if_icmp .ne 20, 3)) := by decide +kernel
theorem dX0_isSoundPair_0 : decode cX0_isSoundPair 0 = .ok (.iload_n 0, 1) := db1_32.1
theorem dX0_isSoundPair_1 : decode cX0_isSoundPair 1 = .ok (.iload_n 1, 1) := db1_32.2.1
theorem dX0_isSoundPair_2 : decode cX0_isSoundPair 2 = .ok (.invokestatic 70, 3) := db1_32.2.2.1
theorem dX0_isSoundPair_5 : decode cX0_isSoundPair 5 = .ok (.istore_n 2, 1) := db1_32.2.2.2.1
theorem dX0_isSoundPair_6 : decode cX0_isSoundPair 6 = .ok (.iload_n 1, 1) := db1_32.2.2.2.2.1
theorem dX0_isSoundPair_7 : decode cX0_isSoundPair 7 = .ok (.iload_n 0, 1) := db1_32.2.2.2.2.2.1
theorem dX0_isSoundPair_8 : decode cX0_isSoundPair 8 = .ok (.iload_n 2, 1) := db1_32.2.2.2.2.2.2.1
theorem dX0_isSoundPair_9 : decode cX0_isSoundPair 9 = .ok (.invokestatic 49, 3) := db1_32.2.2.2.2.2.2.2.1
theorem dX0_isSoundPair_12 : decode cX0_isSoundPair 12 = .ok (.isub, 1) := db1_32.2.2.2.2.2.2.2.2.1
theorem dX0_isSoundPair_13 : decode cX0_isSoundPair 13 = .ok (.istore_n 3, 1) := db1_32.2.2.2.2.2.2.2.2.2.1
theorem dX0_isSoundPair_14 : decode cX0_isSoundPair 14 = .ok (.iload_n 0, 1) := db1_32.2.2.2.2.2.2.2.2.2.2.1
theorem dX0_isSoundPair_15 : decode cX0_isSoundPair 15 = .ok (.iload_n 2, 1) := db1_32.2.2.2.2.2.2.2.2.2.2.2.1
theorem dX0_isSoundPair_16 : decode cX0_isSoundPair 16 = .ok (.iload_n 3, 1) := db1_32.2.2.2.2.2.2.2.2.2.2.2.2.1
theorem dX0_isSoundPair_17 : decode cX0_isSoundPair 17 = .ok (.invokestatic 73, 3) := db1_32.2.2.2.2.2.2.2.2.2.2.2.2.2.1
theorem dX0_isSoundPair_20 : decode cX0_isSoundPair 20 = .ok (.iload_n 1, 1) := db1_32.2.2.2.2.2.2.2.2.2.2.2.2.2.2.1
theorem dX0_isSoundPair_21 : decode cX0_isSoundPair 21 = .ok (.if_icmp .ne 20, 3) := db1_32.2.2.2.2.2.2.2.2.2.2.2.2.2.2.2
theorem db1_33 : (decode cX0_isSoundPair 24 = .ok (.iload_n 0, 1)) ∧ (decode cX0_isSoundPair 25 = .ok (.iconst 1, 1)) ∧ (decode cX0_isSoundPair 26 = .ok (.invokestatic 49, 3)) ∧ (decode cX0_isSoundPair 29 = .ok (.iload_n 1, 1)) ∧ (decode cX0_isSoundPair 30 = .ok (.iconst 1, 1)) ∧ (decode cX0_isSoundPair 31 = .ok (.invokestatic 49, 3)) ∧ (decode cX0_isSoundPair 34 = .ok (.if_icmp .gt 7, 3)) ∧ (decode cX0_isSoundPair 37 = .ok (.iconst 1, 1)) ∧ (decode cX0_isSoundPair 38 = .ok (.goto 4, 3)) ∧ (decode cX0_isSoundPair 41 = .ok (.iconst 0, 1)) ∧ (decode cX0_isSoundPair 42 = .ok (.ireturn, 1)) := by decide +kernel
theorem dX0_isSoundPair_24 : decode cX0_isSoundPair 24 = .ok (.iload_n 0, 1) := db1_33.1
theorem dX0_isSoundPair_25 : decode cX0_isSoundPair 25 = .ok (.iconst 1, 1) := db1_33.2.1
theorem dX0_isSoundPair_26 : decode cX0_isSoundPair 26 = .ok (.invokestatic 49, 3) := db1_33.2.2.1
theorem dX0_isSoundPair_29 : decode cX0_isSoundPair 29 = .ok (.iload_n 1, 1) := db1_33.2.2.2.1
theorem dX0_isSoundPair_30 : decode cX0_isSoundPair 30 = .ok (.iconst 1, 1) := db1_33.2.2.2.2.1
theorem dX0_isSoundPair_31 : decode cX0_isSoundPair 31 = .ok (.invokestatic 49, 3) := db1_33.2.2.2.2.2.1
theorem dX0_isSoundPair_34 : decode cX0_isSoundPair 34 = .ok (.if_icmp .gt 7, 3) := db1_33.2.2.2.2.2.2.1
theorem dX0_isSoundPair_37 : decode cX0_isSoundPair 37 = .ok (.iconst 1, 1) := db1_33.2.2.2.2.2.2.2.1
theorem dX0_isSoundPair_38 : decode cX0_isSoundPair 38 = .ok (.goto 4, 3) := db1_33.2.2.2.2.2.2.2.2.1
theorem dX0_isSoundPair_41 : decode cX0_isSoundPair 41 = .ok (.iconst 0, 1) := db1_33.2.2.2.2.2.2.2.2.2.1
theorem dX0_isSoundPair_42 : decode cX0_isSoundPair 42 = .ok (.ireturn, 1) := db1_33.2.2.2.2.2.2.2.2.2.2
theorem db1_34 : (decode cX1_init 0 = .ok (.aload_n 0, 1)) ∧ (decode cX1_init 1 = .ok (.invokespecial 1, 3)) ∧ (decode cX1_init 4 = .ok (.aload_n 0, 1)) ∧ (decode cX1_init 5 = .ok (.bipush 6, 2)) ∧ (decode cX1_init 7 = .ok (.newarray .int, 2)) ∧ (decode cX1_init 9 = .ok (.putfield 9, 3)) ∧ (decode cX1_init 12 = .ok (.aload_n 0, 1)) ∧ (decode cX1_init 13 = .ok (.iconst 3, 1)) ∧ (decode cX1_init 14 = .ok (.newarray .int, 2)) ∧ (decode cX1_init 16 = .ok (.putfield 13, 3)) ∧ (decode cX1_init 19 = .ok (.aload_n 0, 1)) ∧ (decode cX1_init 20 = .ok (.iconst 3, 1)) ∧ (decode cX1_init 21 = .ok (.newarray .int, 2)) ∧ (decode cX1_init 23 = .ok (.putfield 16, 3)) ∧ (decode cX1_init 26 = .ok (.aload_n 0, 1)) ∧ (decode cX1_init 27 = .ok (.iconst 3, 1)) := by decide +kernel
theorem dX1_init_0 : decode cX1_init 0 = .ok (.aload_n 0, 1) := db1_34.1
theorem dX1_init_1 : decode cX1_init 1 = .ok (.invokespecial 1, 3) := db1_34.2.1
theorem dX1_init_4 : decode cX1_init 4 = .ok (.aload_n 0, 1) := db1_34.2.2.1
theorem dX1_init_5 : decode cX1_init 5 = .ok (.bipush 6, 2) := db1_34.2.2.2.1
theorem dX1_init_7 : decode cX1_init 7 = .ok (.newarray .int, 2) := db1_34.2.2.2.2.1
theorem dX1_init_9 : decode cX1_init 9 = .ok (.putfield 9, 3) := db1_34.2.2.2.2.2.1
theorem dX1_init_12 : decode cX1_init 12 = .ok (.aload_n 0, 1) := db1_34.2.2.2.2.2.2.1
theorem dX1_init_13 : decode cX1_init 13 = .ok (.iconst 3, 1) := db1_34.2.2.2.2.2.2.2.1
theorem dX1_init_14 : decode cX1_init 14 = .ok (.newarray .int, 2) := db1_34.2.2.2.2.2.2.2.2.1
theorem dX1_init_16 : decode cX1_init 16 = .ok (.putfield 13, 3) := db1_34.2.2.2.2.2.2.2.2.2.1
theorem dX1_init_19 : decode cX1_init 19 = .ok (.aload_n 0, 1) := db1_34.2.2.2.2.2.2.2.2.2.2.1
theorem dX1_init_20 : decode cX1_init 20 = .ok (.iconst 3, 1) := db1_34.2.2.2.2.2.2.2.2.2.2.2.1
theorem dX1_init_21 : decode cX1_init 21 = .ok (.newarray .int, 2) := db1_34.2.2.2.2.2.2.2.2.2.2.2.2.1
theorem dX1_init_23 : decode cX1_init 23 = .ok (.putfield 16, 3) := db1_34.2.2.2.2.2.2.2.2.2.2.2.2.2.1
theorem dX1_init_26 : decode cX1_init 26 = .ok (.aload_n 0, 1) := db1_34.2.2.2.2.2.2.2.2.2.2.2.2.2.2.1
theorem dX1_init_27 : decode cX1_init 27 = .ok (.iconst 3, 1) := db1_34.2.2.2.2.2.2.2.2.2.2.2.2.2.2.2
theorem db1_35 : (decode cX1_init 28 = .ok (.newarray .int, 2)) ∧ (decode cX1_init 30 = .ok (.putfield 19, 3)) ∧ (decode cX1_init 33 = .ok (.aload_n 0, 1)) ∧ (decode cX1_init 34 = .ok (.new 22, 3)) ∧ (decode cX1_init 37 = .ok (.dup, 1)) ∧ (decode cX1_init 38 = .ok (.invokespecial 24, 3)) ∧ (decode cX1_init 41 = .ok (.putfield 25, 3)) ∧ (decode cX1_init 44 = .ok (.aload_n 0, 1)) ∧ (decode cX1_init 45 = .ok (.iconst 0, 1)) ∧ (decode cX1_init 46 = .ok (.putfield 29, 3)) ∧ (decode cX1_init 49 = .ok (.aload_n 0, 1)) ∧ (decode cX1_init 50 = .ok (.iconst 0, 1)) ∧ (decode cX1_init 51 = .ok (.putfield 33, 3)) ∧ (decode cX1_init 54 = .ok (.aload_n 0, 1)) ∧ (decode cX1_init 55 = .ok (.iconst 0, 1)) ∧ (decode cX1_init 56 = .ok (.putfield 36, 3)) := by decide +kernel
theorem dX1_init_28 : decode cX1_init 28 = .ok (.newarray .int, 2) := db1_35.1
theorem dX1_init_30 : decode cX1_init 30 = .ok (.putfield 19, 3) := db1_35.2.1
theorem dX1_init_33 : decode cX1_init 33 = .ok (.aload_n 0, 1) := db1_35.2.2.1
theorem dX1_init_34 : decode cX1_init 34 = .ok (.new 22, 3) := db1_35.2.2.2.1
theorem dX1_init_37 : decode cX1_init 37 = .ok (.dup, 1) := db1_35.2.2.2.2.1
theorem dX1_init_38 : decode cX1_init 38 = .ok (.invokespecial 24, 3) := db1_35.2.2.2.2.2.1
theorem dX1_init_41 : decode cX1_init 41 = .ok (.putfield 25, 3) := db1_35.2.2.2.2.2.2.1
theorem dX1_init_44 : decode cX1_init 44 = .ok (.aload_n 0, 1) := db1_35.2.2.2.2.2.2.2.1
theorem dX1_init_45 : decode cX1_init 45 = .ok (.iconst 0, 1) := db1_35.2.2.2.2.2.2.2.2.1
theorem dX1_init_46 : decode cX1_init 46 = .ok (.putfield 29, 3) := db1_35.2.2.2.2.2.2.2.2.2.1
theorem dX1_init_49 : decode cX1_init 49 = .ok (.aload_n 0, 1) := db1_35.2.2.2.2.2.2.2.2.2.2.1
theorem dX1_init_50 : decode cX1_init 50 = .ok (.iconst 0, 1) := db1_35.2.2.2.2.2.2.2.2.2.2.2.1
theorem dX1_init_51 : decode cX1_init 51 = .ok (.putfield 33, 3) := db1_35.2.2.2.2.2.2.2.2.2.2.2.2.1
theorem dX1_init_54 : decode cX1_init 54 = .ok (.aload_n 0, 1) := db1_35.2.2.2.2.2.2.2.2.2.2.2.2.2.1
theorem dX1_init_55 : decode cX1_init 55 = .ok (.iconst 0, 1) := db1_35.2.2.2.2.2.2.2.2.2.2.2.2.2.2.1
theorem dX1_init_56 : decode cX1_init 56 = .ok (.putfield 36, 3) := db1_35.2.2.2.2.2.2.2.2.2.2.2.2.2.2.2
theorem dX1_init_59 : decode cX1_init 59 = .ok (.return_, 1) := by decide +kernel
theorem db1_36 : (decode cX1_of 0 = .ok (.iload_n 1, 1)) ∧ (decode cX1_of 1 = .ok (.invokestatic 39, 3)) ∧ (decode cX1_of 4 = .ok (.iload_n 2, 1)) ∧ (decode cX1_of 5 = .ok (.sipush (-9999), 3)) ∧ (decode cX1_of 8 = .ok (.sipush 9999, 3)) ∧ (decode cX1_of 11 = .ok (.invokestatic 43, 3)) ∧ (decode cX1_of 14 = .ok (.iload_n 3, 1)) ∧ (decode cX1_of 15 = .ok (.iconst 1, 1)) ∧ (decode cX1_of 16 = .ok (.bipush 12, 2)) ∧ (decode cX1_of 18 = .ok (.invokestatic 43, 3)) ∧ (decode cX1_of 21 = .ok (.iload 4, 2)) ∧ (decode cX1_of 23 = .ok (.iconst 1, 1)) ∧ (decode cX1_of 24 = .ok (.bipush 31, 2)) ∧ (decode cX1_of 26 = .ok (.invokestatic 43, 3)) ∧ (decode cX1_of 29 = .ok (.bipush 12, 2)) ∧ (decode cX1_of 31 = .ok (.iload_n 2, 1)) := by decide +kernel
theorem dX1_of_0 : decode cX1_of 0 = .ok (.iload_n 1, 1) := db1_36.1
theorem dX1_of_1 : decode cX1_of 1 = .ok (.invokestatic 39, 3) := db1_36.2.1
theorem dX1_of_4 : decode cX1_of 4 = .ok (.iload_n 2, 1) := db1_36.2.2.1
theorem dX1_of_5 : decode cX1_of 5 = .ok (.sipush (-9999), 3) := db1_36.2.2.2.1
theorem dX1_of_8 : decode cX1_of 8 = .ok (.sipush 9999, 3) := db1_36.2.2.2.2.1
theorem dX1_of_11 : decode cX1_of 11 = .ok (.invokestatic 43, 3) := db1_36.2.2.2.2.2.1
theorem dX1_of_14 : decode cX1_of 14 = .ok (.iload_n 3, 1) := db1_36.2.2.2.2.2.2.1
theorem dX1_of_15 : decode cX1_of 15 = .ok (.iconst 1, 1) := db1_36.2.2.2.2.2.2.2.1
theorem dX1_of_16 : decode cX1_of 16 = .ok (.bipush 12, 2) := db1_36.2.2.2.2.2.2.2.2.1
theorem dX1_of_18 : decode cX1_of 18 = .ok (.invokestatic 43, 3) := db1_36.2.2.2.2.2.2.2.2.2.1
theorem dX1_of_21 : decode cX1_of 21 = .ok (.iload 4, 2) := db1_36.2.2.2.2.2.2.2.2.2.2.1
theorem dX1_of_23 : decode cX1_of 23 = .ok (.iconst 1, 1) := db1_36.2.2.2.2.2.2.2.2.2.2.2.1
theorem dX1_of_24 : decode cX1_of 24 = .ok (.bipush 31, 2) := db1_36.2.2.2.2.2.2.2.2.2.2.2.2.1
theorem dX1_of_26 : decode cX1_of 26 = .ok (.invokestatic 43, 3) := db1_36.2.2.2.2.2.2.2.2.2.2.2.2.2.1
theorem dX1_of_29 : decode cX1_of 29 = .ok (.bipush 12, 2) := db1_36.2.2.2.2.2.2.2.2.2.2.2.2.2.2.1
theorem dX1_of_31 : decode cX1_of 31 = .ok (.iload_n 2, 1) := db1_36.2.2.2.2.2.2.2.2.2.2.2.2.2.2.2
theorem db1_37 : (decode cX1_of 32 = .ok (.imul, 1)) ∧ (decode cX1_of 33 = .ok (.iload_n 3, 1)) ∧ (decode cX1_of 34 = .ok (.iadd, 1)) ∧ (decode cX1_of 35 = .ok (.iconst 1, 1)) ∧ (decode cX1_of 36 = .ok (.isub, 1)) ∧ (decode cX1_of 37 = .ok (.istore 5, 2)) ∧ (decode cX1_of 39 = .ok (.iload 5, 2)) ∧ (decode cX1_of 41 = .ok (.iload 4, 2)) ∧ (decode cX1_of 43 = .ok (.invokestatic 49, 3)) ∧ (decode cX1_of 46 = .ok (.aload_n 0, 1)) ∧ (decode cX1_of 47 = .ok (.iload_n 1, 1)) ∧ (decode cX1_of 48 = .ok (.iload 5, 2)) ∧ (decode cX1_of 50 = .ok (.iload 4, 2)) ∧ (decode cX1_of 52 = .ok (.invokestatic 53, 3)) ∧ (decode cX1_of 55 = .ok (.invokevirtual 57, 3)) ∧ (decode cX1_of 58 = .ok (.ireturn, 1)) := by decide +kernel
theorem dX1_of_32 : decode cX1_of 32 = .ok (.imul, 1) := db1_37.1
theorem dX1_of_33 : decode cX1_of 33 = .ok (.iload_n 3, 1) := db1_37.2.1
theorem dX1_of_34 : decode cX1_of 34 = .ok (.iadd, 1) := db1_37.2.2.1
theorem dX1_of_35 : decode cX1_of 35 = .ok (.iconst 1, 1) := db1_37.2.2.2.1
theorem dX1_of_36 : decode cX1_of 36 = .ok (.isub, 1) := db1_37.2.2.2.2.1
theorem dX1_of_37 : decode cX1_of 37 = .ok (.istore 5, 2) := db1_37.2.2.2.2.2.1
theorem dX1_of_39 : decode cX1_of 39 = .ok (.iload 5, 2) := db1_37.2.2.2.2.2.2.1
theorem dX1_of_41 : decode cX1_of 41 = .ok (.iload 4, 2) := db1_37.2.2.2.2.2.2.2.1
theorem dX1_of_43 : decode cX1_of 43 = .ok (.invokestatic 49, 3) := db1_37.2.2.2.2.2.2.2.2.1
theorem dX1_of_46 : decode cX1_of 46 = .ok (.aload_n 0, 1) := db1_37.2.2.2.2.2.2.2.2.2.1
theorem dX1_of_47 : decode cX1_of 47 = .ok (.iload_n 1, 1) := db1_37.2.2.2.2.2.2.2.2.2.2.1
theorem dX1_of_48 : decode cX1_of 48 = .ok (.iload 5, 2) := db1_37.2.2.2.2.2.2.2.2.2.2.2.1
theorem dX1_of_50 : decode cX1_of 50 = .ok (.iload 4, 2) := db1_37.2.2.2.2.2.2.2.2.2.2.2.2.1
theorem dX1_of_52 : decode cX1_of 52 = .ok (.invokestatic 53, 3) := db1_37.2.2.2.2.2.2.2.2.2.2.2.2.2.1
theorem dX1_of_55 : decode cX1_of 55 = .ok (.invokevirtual 57, 3) := db1_37.2.2.2.2.2.2.2.2.2.2.2.2.2.2.1
theorem dX1_of_58 : decode cX1_of 58 = .ok (.ireturn, 1) := db1_37.2.2.2.2.2.2.2.2.2.2.2.2.2.2.2
theorem db1_38 : (decode cX1_ofDay 0 = .ok (.iload_n 1, 1)) ∧ (decode cX1_ofDay 1 = .ok (.invokestatic 39, 3)) ∧ (decode cX1_ofDay 4 = .ok (.iload_n 2, 1)) ∧ (decode cX1_ofDay 5 = .ok (.ldc 60, 2)) ∧ (decode cX1_ofDay 7 = .ok (.ldc 61, 2)) ∧ (decode cX1_ofDay 9 = .ok (.invokestatic 43, 3)) ∧ (decode cX1_ofDay 12 = .ok (.aload_n 0, 1)) ∧ (decode cX1_ofDay 13 = .ok (.iload_n 1, 1)) ∧ (decode cX1_ofDay 14 = .ok (.iload_n 2, 1)) ∧ (decode cX1_ofDay 15 = .ok (.invokevirtual 57, 3)) ∧ (decode cX1_ofDay 18 = .ok (.invokestatic 62, 3)) ∧ (decode cX1_ofDay 21 = .ok (.ireturn, 1)) := by decide +kernel
theorem dX1_ofDay_0 : decode cX1_ofDay 0 = .ok (.iload_n 1, 1) := db1_38.1
theorem dX1_ofDay_1 : decode cX1_ofDay 1 = .ok (.invokestatic 39, 3) := db1_38.2.1
theorem dX1_ofDay_4 : decode cX1_ofDay 4 = .ok (.iload_n 2, 1) := db1_38.2.2.1
theorem dX1_ofDay_5 : decode cX1_ofDay 5 = .ok (.ldc 60, 2) := db1_38.2.2.2.1
theorem dX1_ofDay_7 : decode cX1_ofDay 7 = .ok (.ldc 61, 2) := db1_38.2.2.2.2.1
theorem dX1_ofDay_9 : decode cX1_ofDay 9 = .ok (.invokestatic 43, 3) := db1_38.2.2.2.2.2.1
theorem dX1_ofDay_12 : decode cX1_ofDay 12 = .ok (.aload_n 0, 1) := db1_38.2.2.2.2.2.2.1
theorem dX1_ofDay_13 : decode cX1_ofDay 13 = .ok (.iload_n 1, 1) := db1_38.2.2.2.2.2.2.2.1
theorem dX1_ofDay_14 : decode cX1_ofDay 14 = .ok (.iload_n 2, 1) := db1_38.2.2.2.2.2.2.2.2.1
theorem dX1_ofDay_15 : decode cX1_ofDay 15 = .ok (.invokevirtual 57, 3) := db1_38.2.2.2.2.2.2.2.2.2.1
theorem dX1_ofDay_18 : decode cX1_ofDay 18 = .ok (.invokestatic 62, 3) := db1_38.2.2.2.2.2.2.2.2.2.2.1
theorem dX1_ofDay_21 : decode cX1_ofDay 21 = .ok (.ireturn, 1) := db1_38.2.2.2.2.2.2.2.2.2.2.2
theorem db1_39 : (decode cX1_ofMonth 0 = .ok (.iload_n 1, 1)) ∧ (decode cX1_ofMonth 1 = .ok (.invokestatic 39, 3)) ∧ (decode cX1_ofMonth 4 = .ok (.iload_n 2, 1)) ∧ (decode cX1_ofMonth 5 = .ok (.invokestatic 66, 3)) ∧ (decode cX1_ofMonth 8 = .ok (.iload_n 3, 1)) ∧ (decode cX1_ofMonth 9 = .ok (.iconst 1, 1)) ∧ (decode cX1_ofMonth 10 = .ok (.bipush 31, 2)) ∧ (decode cX1_ofMonth 12 = .ok (.invokestatic 43, 3)) ∧ (decode cX1_ofMonth 15 = .ok (.aload_n 0, 1)) ∧ (decode cX1_ofMonth 16 = .ok (.iload_n 1, 1)) ∧ (decode cX1_ofMonth 17 = .ok (.iload_n 2, 1)) ∧ (decode cX1_ofMonth 18 = .ok (.iload_n 3, 1)) ∧ (decode cX1_ofMonth 19 = .ok (.invokestatic 53, 3)) ∧ (decode cX1_ofMonth 22 = .ok (.invokevirtual 57, 3)) ∧ (decode cX1_ofMonth 25 = .ok (.invokestatic 69, 3)) ∧ (decode cX1_ofMonth 28 = .ok (.ireturn, 1)) := by decide +kernel
theorem dX1_ofMonth_0 : decode cX1_ofMonth 0 = .ok (.iload_n 1, 1) := db1_39.1
theorem dX1_ofMonth_1 : decode cX1_ofMonth 1 = .ok (.invokestatic 39, 3) := db1_39.2.1
theorem dX1_ofMonth_4 : decode cX1_ofMonth 4 = .ok (.iload_n 2, 1) := db1_39.2.2.1
theorem dX1_ofMonth_5 : decode cX1_ofMonth 5 = .ok (.invokestatic 66, 3) := db1_39.2.2.2.1
theorem dX1_ofMonth_8 : decode cX1_ofMonth 8 = .ok (.iload_n 3, 1) := db1_39.2.2.2.2.1
theorem dX1_ofMonth_9 : decode cX1_ofMonth 9 = .ok (.iconst 1, 1) := db1_39.2.2.2.2.2.1
theorem dX1_ofMonth_10 : decode cX1_ofMonth 10 = .ok (.bipush 31, 2) := db1_39.2.2.2.2.2.2.1
theorem dX1_ofMonth_12 : decode cX1_ofMonth 12 = .ok (.invokestatic 43, 3) := db1_39.2.2.2.2.2.2.2.1
theorem dX1_ofMonth_15 : decode cX1_ofMonth 15 = .ok (.aload_n 0, 1) := db1_39.2.2.2.2.2.2.2.2.1
theorem dX1_ofMonth_16 : decode cX1_ofMonth 16 = .ok (.iload_n 1, 1) := db1_39.2.2.2.2.2.2.2.2.2.1
theorem dX1_ofMonth_17 : decode cX1_ofMonth 17 = .ok (.iload_n 2, 1) := db1_39.2.2.2.2.2.2.2.2.2.2.1
theorem dX1_ofMonth_18 : decode cX1_ofMonth 18 = .ok (.iload_n 3, 1) := db1_39.2.2.2.2.2.2.2.2.2.2.2.1
theorem dX1_ofMonth_19 : decode cX1_ofMonth 19 = .ok (.invokestatic 53, 3) := db1_39.2.2.2.2.2.2.2.2.2.2.2.2.1
theorem dX1_ofMonth_22 : decode cX1_ofMonth 22 = .ok (.invokevirtual 57, 3) := db1_39.2.2.2.2.2.2.2.2.2.2.2.2.2.1
theorem dX1_ofMonth_25 : decode cX1_ofMonth 25 = .ok (.invokestatic 69, 3) := db1_39.2.2.2.2.2.2.2.2.2.2.2.2.2.2.1
theorem dX1_ofMonth_28 : decode cX1_ofMonth 28 = .ok (.ireturn, 1) := db1_39.2.2.2.2.2.2.2.2.2.2.2.2.2.2.2
theorem db1_40 : (decode cX1_copy 0 = .ok (.iload_n 1, 1)) ∧ (decode cX1_copy 1 = .ok (.invokestatic 39, 3)) ∧ (decode cX1_copy 4 = .ok (.iload_n 2, 1)) ∧ (decode cX1_copy 5 = .ok (.invokestatic 39, 3)) ∧ (decode cX1_copy 8 = .ok (.aload_n 0, 1)) ∧ (decode cX1_copy 9 = .ok (.iload_n 1, 1)) ∧ (decode cX1_copy 10 = .ok (.aload_n 0, 1)) ∧ (decode cX1_copy 11 = .ok (.getfield 9, 3)) ∧ (decode cX1_copy 14 = .ok (.iload_n 2, 1)) ∧ (decode cX1_copy 15 = .ok (.iaload, 1)) ∧ (decode cX1_copy 16 = .ok (.invokevirtual 57, 3)) ∧ (decode cX1_copy 19 = .ok (.ireturn, 1)) := by decide +kernel
theorem dX1_copy_0 : decode cX1_copy 0 = .ok (.iload_n 1, 1) := db1_40.1
theorem dX1_copy_1 : decode cX1_copy 1 = .ok (.invokestatic 39, 3) := db1_40.2.1
theorem dX1_copy_4 : decode cX1_copy 4 = .ok (.iload_n 2, 1) := db1_40.2.2.1
theorem dX1_copy_5 : decode cX1_copy 5 = .ok (.invokestatic 39, 3) := db1_40.2.2.2.1
theorem dX1_copy_8 : decode cX1_copy 8 = .ok (.aload_n 0, 1) := db1_40.2.2.2.2.1
theorem dX1_copy_9 : decode cX1_copy 9 = .ok (.iload_n 1, 1) := db1_40.2.2.2.2.2.1
theorem dX1_copy_10 : decode cX1_copy 10 = .ok (.aload_n 0, 1) := db1_40.2.2.2.2.2.2.1
theorem dX1_copy_11 : decode cX1_copy 11 = .ok (.getfield 9, 3) := db1_40.2.2.2.2.2.2.2.1
theorem dX1_copy_14 : decode cX1_copy 14 = .ok (.iload_n 2, 1) := db1_40.2.2.2.2.2.2.2.2.1
theorem dX1_copy_15 : decode cX1_copy 15 = .ok (.iaload, 1) := db1_40.2.2.2.2.2.2.2.2.2.1
theorem dX1_copy_16 : decode cX1_copy 16 = .ok (.invokevirtual 57, 3) := db1_40.2.2.2.2.2.2.2.2.2.2.1
theorem dX1_copy_19 : decode cX1_copy 19 = .ok (.ireturn, 1) := db1_40.2.2.2.2.2.2.2.2.2.2.2
theorem db1_41 : (decode cX1_first 0 = .ok (.iload_n 1, 1)) ∧ (decode cX1_first 1 = .ok (.invokestatic 39, 3)) ∧ (decode cX1_first 4 = .ok (.aload_n 0, 1)) ∧ (decode cX1_first 5 = .ok (.getfield 9, 3)) ∧ (decode cX1_first 8 = .ok (.iload_n 1, 1)) ∧ (decode cX1_first 9 = .ok (.iaload, 1)) ∧ (decode cX1_first 10 = .ok (.istore_n 2, 1)) ∧ (decode cX1_first 11 = .ok (.iload_n 2, 1)) ∧ (decode cX1_first 12 = .ok (.aload_n 0, 1)) ∧ (decode cX1_first 13 = .ok (.iload_n 1, 1)) ∧ (decode cX1_first 14 = .ok (.iload_n 2, 1)) ∧ (decode cX1_first 15 = .ok (.invokestatic 72, 3)) ∧ (decode cX1_first 18 = .ok (.invokestatic 75, 3)) ∧ (decode cX1_first 21 = .ok (.invokevirtual 57, 3)) ∧ (decode cX1_first 24 = .ok (.isub, 1)) ∧ (decode cX1_first 25 = .ok (.ireturn, 1)) := by decide +kernel
theorem dX1_first_0 : decode cX1_first 0 = .ok (.iload_n 1, 1) := db1_41.1
theorem dX1_first_1 : decode cX1_first 1 = .ok (.invokestatic 39, 3) := db1_41.2.1
theorem dX1_first_4 : decode cX1_first 4 = .ok (.aload_n 0, 1) := db1_41.2.2.1
theorem dX1_first_5 : decode cX1_first 5 = .ok (.getfield 9, 3) := db1_41.2.2.2.1
theorem dX1_first_8 : decode cX1_first 8 = .ok (.iload_n 1, 1) := db1_41.2.2.2.2.1
theorem dX1_first_9 : decode cX1_first 9 = .ok (.iaload, 1) := db1_41.2.2.2.2.2.1
theorem dX1_first_10 : decode cX1_first 10 = .ok (.istore_n 2, 1) := db1_41.2.2.2.2.2.2.1
theorem dX1_first_11 : decode cX1_first 11 = .ok (.iload_n 2, 1) := db1_41.2.2.2.2.2.2.2.1
theorem dX1_first_12 : decode cX1_first 12 = .ok (.aload_n 0, 1) := db1_41.2.2.2.2.2.2.2.2.1
theorem dX1_first_13 : decode cX1_first 13 = .ok (.iload_n 1, 1) := db1_41.2.2.2.2.2.2.2.2.2.1
theorem dX1_first_14 : decode cX1_first 14 = .ok (.iload_n 2, 1) := db1_41.2.2.2.2.2.2.2.2.2.2.1
theorem dX1_first_15 : decode cX1_first 15 = .ok (.invokestatic 72, 3) := db1_41.2.2.2.2.2.2.2.2.2.2.2.1
theorem dX1_first_18 : decode cX1_first 18 = .ok (.invokestatic 75, 3) := db1_41.2.2.2.2.2.2.2.2.2.2.2.2.1
theorem dX1_first_21 : decode cX1_first 21 = .ok (.invokevirtual 57, 3) := db1_41.2.2.2.2.2.2.2.2.2.2.2.2.2.1
theorem dX1_first_24 : decode cX1_first 24 = .ok (.isub, 1) := db1_41.2.2.2.2.2.2.2.2.2.2.2.2.2.2.1
theorem dX1_first_25 : decode cX1_first 25 = .ok (.ireturn, 1) := db1_41.2.2.2.2.2.2.2.2.2.2.2.2.2.2.2
theorem db1_42 : (decode cX1_last 0 = .ok (.iload_n 1, 1)) ∧ (decode cX1_last 1 = .ok (.invokestatic 39, 3)) ∧ (decode cX1_last 4 = .ok (.aload_n 0, 1)) ∧ (decode cX1_last 5 = .ok (.getfield 9, 3)) ∧ (decode cX1_last 8 = .ok (.iload_n 1, 1)) ∧ (decode cX1_last 9 = .ok (.iaload, 1)) ∧ (decode cX1_last 10 = .ok (.istore_n 2, 1)) ∧ (decode cX1_last 11 = .ok (.aload_n 0, 1)) ∧ (decode cX1_last 12 = .ok (.iload_n 1, 1)) ∧ (decode cX1_last 13 = .ok (.iload_n 2, 1)) ∧ (decode cX1_last 14 = .ok (.invokestatic 72, 3)) ∧ (decode cX1_last 17 = .ok (.iconst 1, 1)) ∧ (decode cX1_last 18 = .ok (.iadd, 1)) ∧ (decode cX1_last 19 = .ok (.invokestatic 75, 3)) ∧ (decode cX1_last 22 = .ok (.iconst 1, 1)) ∧ (decode cX1_last 23 = .ok (.isub, 1)) := by decide +kernel
theorem dX1_last_0 : decode cX1_last 0 = .ok (.iload_n 1, 1) := db1_42.1
theorem dX1_last_1 : decode cX1_last 1 = .ok (.invokestatic 39, 3) := db1_42.2.1
theorem dX1_last_4 : decode cX1_last 4 = .ok (.aload_n 0, 1) := db1_42.2.2.1
theorem dX1_last_5 : decode cX1_last 5 = .ok (.getfield 9, 3) := db1_42.2.2.2.1
theorem dX1_last_8 : decode cX1_last 8 = .ok (.iload_n 1, 1) := db1_42.2.2.2.2.1
theorem dX1_last_9 : decode cX1_last 9 = .ok (.iaload, 1) := db1_42.2.2.2.2.2.1
theorem dX1_last_10 : decode cX1_last 10 = .ok (.istore_n 2, 1) := db1_42.2.2.2.2.2.2.1
theorem dX1_last_11 : decode cX1_last 11 = .ok (.aload_n 0, 1) := db1_42.2.2.2.2.2.2.2.1
theorem dX1_last_12 : decode cX1_last 12 = .ok (.iload_n 1, 1) := db1_42.2.2.2.2.2.2.2.2.1
theorem dX1_last_13 : decode cX1_last 13 = .ok (.iload_n 2, 1) := db1_42.2.2.2.2.2.2.2.2.2.1
theorem dX1_last_14 : decode cX1_last 14 = .ok (.invokestatic 72, 3) := db1_42.2.2.2.2.2.2.2.2.2.2.1
theorem dX1_last_17 : decode cX1_last 17 = .ok (.iconst 1, 1) := db1_42.2.2.2.2.2.2.2.2.2.2.2.1
theorem dX1_last_18 : decode cX1_last 18 = .ok (.iadd, 1) := db1_42.2.2.2.2.2.2.2.2.2.2.2.2.1
theorem dX1_last_19 : decode cX1_last 19 = .ok (.invokestatic 75, 3) := db1_42.2.2.2.2.2.2.2.2.2.2.2.2.2.1
theorem dX1_last_22 : decode cX1_last 22 = .ok (.iconst 1, 1) := db1_42.2.2.2.2.2.2.2.2.2.2.2.2.2.2.1
theorem dX1_last_23 : decode cX1_last 23 = .ok (.isub, 1) := db1_42.2.2.2.2.2.2.2.2.2.2.2.2.2.2.2
theorem db1_43 : (decode cX1_last 24 = .ok (.invokevirtual 57, 3)) ∧ (decode cX1_last 27 = .ok (.iload_n 2, 1)) ∧ (decode cX1_last 28 = .ok (.isub, 1)) ∧ (decode cX1_last 29 = .ok (.ireturn, 1)) := by decide +kernel
theorem dX1_last_24 : decode cX1_last 24 = .ok (.invokevirtual 57, 3) := db1_43.1
theorem dX1_last_27 : decode cX1_last 27 = .ok (.iload_n 2, 1) := db1_43.2.1
theorem dX1_last_28 : decode cX1_last 28 = .ok (.isub, 1) := db1_43.2.2.1
theorem dX1_last_29 : decode cX1_last 29 = .ok (.ireturn, 1) := db1_43.2.2.2
theorem db1_44 : (decode cX1_withDay 0 = .ok (.iload_n 1, 1)) ∧ (decode cX1_withDay 1 = .ok (.invokestatic 39, 3)) ∧ (decode cX1_withDay 4 = .ok (.iload_n 2, 1)) ∧ (decode cX1_withDay 5 = .ok (.iconst 1, 1)) ∧ (decode cX1_withDay 6 = .ok (.bipush 31, 2)) ∧ (decode cX1_withDay 8 = .ok (.invokestatic 43, 3)) ∧ (decode cX1_withDay 11 = .ok (.aload_n 0, 1)) ∧ (decode cX1_withDay 12 = .ok (.getfield 9, 3)) ∧ (decode cX1_withDay 15 = .ok (.iload_n 1, 1)) ∧ (decode cX1_withDay 16 = .ok (.iaload, 1)) ∧ (decode cX1_withDay 17 = .ok (.invokestatic 72, 3)) ∧ (decode cX1_withDay 20 = .ok (.istore_n 3, 1)) ∧ (decode cX1_withDay 21 = .ok (.iload_n 3, 1)) ∧ (decode cX1_withDay 22 = .ok (.iload_n 2, 1)) ∧ (decode cX1_withDay 23 = .ok (.invokestatic 49, 3)) ∧ (decode cX1_withDay 26 = .ok (.aload_n 0, 1)) := by decide +kernel
theorem dX1_withDay_0 : decode cX1_withDay 0 = .ok (.iload_n 1, 1) := db1_44.1
theorem dX1_withDay_1 : decode cX1_withDay 1 = .ok (.invokestatic 39, 3) := db1_44.2.1
theorem dX1_withDay_4 : decode cX1_withDay 4 = .ok (.iload_n 2, 1) := db1_44.2.2.1
theorem dX1_withDay_5 : decode cX1_withDay 5 = .ok (.iconst 1, 1) := db1_44.2.2.2.1
theorem dX1_withDay_6 : decode cX1_withDay 6 = .ok (.bipush 31, 2) := db1_44.2.2.2.2.1
theorem dX1_withDay_8 : decode cX1_withDay 8 = .ok (.invokestatic 43, 3) := db1_44.2.2.2.2.2.1
theorem dX1_withDay_11 : decode cX1_withDay 11 = .ok (.aload_n 0, 1) := db1_44.2.2.2.2.2.2.1
theorem dX1_withDay_12 : decode cX1_withDay 12 = .ok (.getfield 9, 3) := db1_44.2.2.2.2.2.2.2.1
theorem dX1_withDay_15 : decode cX1_withDay 15 = .ok (.iload_n 1, 1) := db1_44.2.2.2.2.2.2.2.2.1
theorem dX1_withDay_16 : decode cX1_withDay 16 = .ok (.iaload, 1) := db1_44.2.2.2.2.2.2.2.2.2.1
theorem dX1_withDay_17 : decode cX1_withDay 17 = .ok (.invokestatic 72, 3) := db1_44.2.2.2.2.2.2.2.2.2.2.1
theorem dX1_withDay_20 : decode cX1_withDay 20 = .ok (.istore_n 3, 1) := db1_44.2.2.2.2.2.2.2.2.2.2.2.1
theorem dX1_withDay_21 : decode cX1_withDay 21 = .ok (.iload_n 3, 1) := db1_44.2.2.2.2.2.2.2.2.2.2.2.2.1
theorem dX1_withDay_22 : decode cX1_withDay 22 = .ok (.iload_n 2, 1) := db1_44.2.2.2.2.2.2.2.2.2.2.2.2.2.1
theorem dX1_withDay_23 : decode cX1_withDay 23 = .ok (.invokestatic 49, 3) := db1_44.2.2.2.2.2.2.2.2.2.2.2.2.2.2.1
theorem dX1_withDay_26 : decode cX1_withDay 26 = .ok (.aload_n 0, 1) := db1_44.2.2.2.2.2.2.2.2.2.2.2.2.2.2.2
theorem db1_45 : (decode cX1_withDay 27 = .ok (.iload_n 1, 1)) ∧ (decode cX1_withDay 28 = .ok (.iload_n 3, 1)) ∧ (decode cX1_withDay 29 = .ok (.iload_n 2, 1)) ∧ (decode cX1_withDay 30 = .ok (.invokestatic 53, 3)) ∧ (decode cX1_withDay 33 = .ok (.invokevirtual 57, 3)) ∧ (decode cX1_withDay 36 = .ok (.ireturn, 1)) := by decide +kernel
theorem dX1_withDay_27 : decode cX1_withDay 27 = .ok (.iload_n 1, 1) := db1_45.1
theorem dX1_withDay_28 : decode cX1_withDay 28 = .ok (.iload_n 3, 1) := db1_45.2.1
theorem dX1_withDay_29 : decode cX1_withDay 29 = .ok (.iload_n 2, 1) := db1_45.2.2.1
theorem dX1_withDay_30 : decode cX1_withDay 30 = .ok (.invokestatic 53, 3) := db1_45.2.2.2.1
theorem dX1_withDay_33 : decode cX1_withDay 33 = .ok (.invokevirtual 57, 3) := db1_45.2.2.2.2.1
theorem dX1_withDay_36 : decode cX1_withDay 36 = .ok (.ireturn, 1) := db1_45.2.2.2.2.2
theorem db1_46 : (decode cX1_shift 0 = .ok (.iload_n 1, 1)) ∧ (decode cX1_shift 1 = .ok (.invokestatic 39, 3)) ∧ (decode cX1_shift 4 = .ok (.iload_n 2, 1)) ∧ (decode cX1_shift 5 = .ok (.invokestatic 78, 3)) ∧ (decode cX1_shift 8 = .ok (.aload_n 0, 1)) ∧ (decode cX1_shift 9 = .ok (.getfield 9, 3)) ∧ (decode cX1_shift 12 = .ok (.iload_n 1, 1)) ∧ (decode cX1_shift 13 = .ok (.iaload, 1)) ∧ (decode cX1_shift 14 = .ok (.iload_n 2, 1)) ∧ (decode cX1_shift 15 = .ok (.invokestatic 81, 3)) ∧ (decode cX1_shift 18 = .ok (.istore_n 3, 1)) ∧ (decode cX1_shift 19 = .ok (.iload_n 3, 1)) ∧ (decode cX1_shift 20 = .ok (.invokestatic 84, 3)) ∧ (decode cX1_shift 23 = .ok (.aload_n 0, 1)) ∧ (decode cX1_shift 24 = .ok (.iload_n 1, 1)) ∧ (decode cX1_shift 25 = .ok (.iload_n 3, 1)) := by decide +kernel
theorem dX1_shift_0 : decode cX1_shift 0 = .ok (.iload_n 1, 1) := db1_46.1
theorem dX1_shift_1 : decode cX1_shift 1 = .ok (.invokestatic 39, 3) := db1_46.2.1
theorem dX1_shift_4 : decode cX1_shift 4 = .ok (.iload_n 2, 1) := db1_46.2.2.1
theorem dX1_shift_5 : decode cX1_shift 5 = .ok (.invokestatic 78, 3) := db1_46.2.2.2.1
theorem dX1_shift_8 : decode cX1_shift 8 = .ok (.aload_n 0, 1) := db1_46.2.2.2.2.1
theorem dX1_shift_9 : decode cX1_shift 9 = .ok (.getfield 9, 3) := db1_46.2.2.2.2.2.1
theorem dX1_shift_12 : decode cX1_shift 12 = .ok (.iload_n 1, 1) := db1_46.2.2.2.2.2.2.1
theorem dX1_shift_13 : decode cX1_shift 13 = .ok (.iaload, 1) := db1_46.2.2.2.2.2.2.2.1
theorem dX1_shift_14 : decode cX1_shift 14 = .ok (.iload_n 2, 1) := db1_46.2.2.2.2.2.2.2.2.1
theorem dX1_shift_15 : decode cX1_shift 15 = .ok (.invokestatic 81, 3) := db1_46.2.2.2.2.2.2.2.2.2.1
theorem dX1_shift_18 : decode cX1_shift 18 = .ok (.istore_n 3, 1) := db1_46.2.2.2.2.2.2.2.2.2.2.1
theorem dX1_shift_19 : decode cX1_shift 19 = .ok (.iload_n 3, 1) := db1_46.2.2.2.2.2.2.2.2.2.2.2.1
theorem dX1_shift_20 : decode cX1_shift 20 = .ok (.invokestatic 84, 3) := db1_46.2.2.2.2.2.2.2.2.2.2.2.2.1
theorem dX1_shift_23 : decode cX1_shift 23 = .ok (.aload_n 0, 1) := db1_46.2.2.2.2.2.2.2.2.2.2.2.2.2.1
theorem dX1_shift_24 : decode cX1_shift 24 = .ok (.iload_n 1, 1) := db1_46.2.2.2.2.2.2.2.2.2.2.2.2.2.2.1
theorem dX1_shift_25 : decode cX1_shift 25 = .ok (.iload_n 3, 1) := db1_46.2.2.2.2.2.2.2.2.2.2.2.2.2.2.2
theorem db1_47 : (decode cX1_shift 26 = .ok (.invokevirtual 57, 3)) ∧ (decode cX1_shift 29 = .ok (.invokestatic 69, 3)) ∧ (decode cX1_shift 32 = .ok (.ireturn, 1)) := by decide +kernel
theorem dX1_shift_26 : decode cX1_shift 26 = .ok (.invokevirtual 57, 3) := db1_47.1
theorem dX1_shift_29 : decode cX1_shift 29 = .ok (.invokestatic 69, 3) := db1_47.2.1
theorem dX1_shift_32 : decode cX1_shift 32 = .ok (.ireturn, 1) := db1_47.2.2
theorem db1_48 : (decode cX1_shiftYears 0 = .ok (.iload_n 1, 1)) ∧ (decode cX1_shiftYears 1 = .ok (.invokestatic 39, 3)) ∧ (decode cX1_shiftYears 4 = .ok (.iload_n 2, 1)) ∧ (decode cX1_shiftYears 5 = .ok (.sipush (-20000), 3)) ∧ (decode cX1_shiftYears 8 = .ok (.sipush 20000, 3)) ∧ (decode cX1_shiftYears 11 = .ok (.invokestatic 43, 3)) ∧ (decode cX1_shiftYears 14 = .ok (.aload_n 0, 1)) ∧ (decode cX1_shiftYears 15 = .ok (.getfield 9, 3)) ∧ (decode cX1_shiftYears 18 = .ok (.iload_n 1, 1)) ∧ (decode cX1_shiftYears 19 = .ok (.iaload, 1)) ∧ (decode cX1_shiftYears 20 = .ok (.bipush 12, 2)) ∧ (decode cX1_shiftYears 22 = .ok (.iload_n 2, 1)) ∧ (decode cX1_shiftYears 23 = .ok (.imul, 1)) ∧ (decode cX1_shiftYears 24 = .ok (.invokestatic 81, 3)) ∧ (decode cX1_shiftYears 27 = .ok (.istore_n 3, 1)) ∧ (decode cX1_shiftYears 28 = .ok (.iload_n 3, 1)) := by decide +kernel
theorem dX1_shiftYears_0 : decode cX1_shiftYears 0 = .ok (.iload_n 1, 1) := db1_48.1
theorem dX1_shiftYears_1 : decode cX1_shiftYears 1 = .ok (.invokestatic 39, 3) := db1_48.2.1
theorem dX1_shiftYears_4 : decode cX1_shiftYears 4 = .ok (.iload_n 2, 1) := db1_48.2.2.1
theorem dX1_shiftYears_5 : decode cX1_shiftYears 5 = .ok (.sipush (-20000), 3) := db1_48.2.2.2.1
theorem dX1_shiftYears_8 : decode cX1_shiftYears 8 = .ok (.sipush 20000, 3) := db1_48.2.2.2.2.1
theorem dX1_shiftYears_11 : decode cX1_shiftYears 11 = .ok (.invokestatic 43, 3) := db1_48.2.2.2.2.2.1
theorem dX1_shiftYears_14 : decode cX1_shiftYears 14 = .ok (.aload_n 0, 1) := db1_48.2.2.2.2.2.2.1
theorem dX1_shiftYears_15 : decode cX1_shiftYears 15 = .ok (.getfield 9, 3) := db1_48.2.2.2.2.2.2.2.1
theorem dX1_shiftYears_18 : decode cX1_shiftYears 18 = .ok (.iload_n 1, 1) := db1_48.2.2.2.2.2.2.2.2.1
theorem dX1_shiftYears_19 : decode cX1_shiftYears 19 = .ok (.iaload, 1) := db1_48.2.2.2.2.2.2.2.2.2.1
theorem dX1_shiftYears_20 : decode cX1_shiftYears 20 = .ok (.bipush 12, 2) := db1_48.2.2.2.2.2.2.2.2.2.2.1
theorem dX1_shiftYears_22 : decode cX1_shiftYears 22 = .ok (.iload_n 2, 1) := db1_48.2.2.2.2.2.2.2.2.2.2.2.1
theorem dX1_shiftYears_23 : decode cX1_shiftYears 23 = .ok (.imul, 1) := db1_48.2.2.2.2.2.2.2.2.2.2.2.2.1
theorem dX1_shiftYears_24 : decode cX1_shiftYears 24 = .ok (.invokestatic 81, 3) := db1_48.2.2.2.2.2.2.2.2.2.2.2.2.2.1
theorem dX1_shiftYears_27 : decode cX1_shiftYears 27 = .ok (.istore_n 3, 1) := db1_48.2.2.2.2.2.2.2.2.2.2.2.2.2.2.1
theorem dX1_shiftYears_28 : decode cX1_shiftYears 28 = .ok (.iload_n 3, 1) := db1_48.2.2.2.2.2.2.2.2.2.2.2.2.2.2.2
theorem db1_49 : (decode cX1_shiftYears 29 = .ok (.invokestatic 84, 3)) ∧ (decode cX1_shiftYears 32 = .ok (.aload_n 0, 1)) ∧ (decode cX1_shiftYears 33 = .ok (.iload_n 1, 1)) ∧ (decode cX1_shiftYears 34 = .ok (.iload_n 3, 1)) ∧ (decode cX1_shiftYears 35 = .ok (.invokevirtual 57, 3)) ∧ (decode cX1_shiftYears 38 = .ok (.invokestatic 69, 3)) ∧ (decode cX1_shiftYears 41 = .ok (.ireturn, 1)) := by decide +kernel
theorem dX1_shiftYears_29 : decode cX1_shiftYears 29 = .ok (.invokestatic 84, 3) := db1_49.1
theorem dX1_shiftYears_32 : decode cX1_shiftYears 32 = .ok (.aload_n 0, 1) := db1_49.2.1
theorem dX1_shiftYears_33 : decode cX1_shiftYears 33 = .ok (.iload_n 1, 1) := db1_49.2.2.1
theorem dX1_shiftYears_34 : decode cX1_shiftYears 34 = .ok (.iload_n 3, 1) := db1_49.2.2.2.1
theorem dX1_shiftYears_35 : decode cX1_shiftYears 35 = .ok (.invokevirtual 57, 3) := db1_49.2.2.2.2.1
theorem dX1_shiftYears_38 : decode cX1_shiftYears 38 = .ok (.invokestatic 69, 3) := db1_49.2.2.2.2.2.1
theorem dX1_shiftYears_41 : decode cX1_shiftYears 41 = .ok (.ireturn, 1) := db1_49.2.2.2.2.2.2
theorem db1_50 : (decode cX1_days 0 = .ok (.iload_n 1, 1)) ∧ (decode cX1_days 1 = .ok (.invokestatic 39, 3)) ∧ (decode cX1_days 4 = .ok (.iload_n 2, 1)) ∧ (decode cX1_days 5 = .ok (.ldc 87, 2)) ∧ (decode cX1_days 7 = .ok (.ldc 88, 2)) ∧ (decode cX1_days 9 = .ok (.invokestatic 43, 3)) ∧ (decode cX1_days 12 = .ok (.aload_n 0, 1)) ∧ (decode cX1_days 13 = .ok (.getfield 9, 3)) ∧ (decode cX1_days 16 = .ok (.iload_n 1, 1)) ∧ (decode cX1_days 17 = .ok (.iaload, 1)) ∧ (decode cX1_days 18 = .ok (.iload_n 2, 1)) ∧ (decode cX1_days 19 = .ok (.iadd, 1)) ∧ (decode cX1_days 20 = .ok (.istore_n 3, 1)) ∧ (decode cX1_days 21 = .ok (.iload_n 3, 1)) ∧ (decode cX1_days 22 = .ok (.invokestatic 84, 3)) ∧ (decode cX1_days 25 = .ok (.aload_n 0, 1)) := by decide +kernel
theorem dX1_days_0 : decode cX1_days 0 = .ok (.iload_n 1, 1) := db1_50.1
theorem dX1_days_1 : decode cX1_days 1 = .ok (.invokestatic 39, 3) := db1_50.2.1
theorem dX1_days_4 : decode cX1_days 4 = .ok (.iload_n 2, 1) := db1_50.2.2.1
theorem dX1_days_5 : decode cX1_days 5 = .ok (.ldc 87, 2) := db1_50.2.2.2.1
theorem dX1_days_7 : decode cX1_days 7 = .ok (.ldc 88, 2) := db1_50.2.2.2.2.1
theorem dX1_days_9 : decode cX1_days 9 = .ok (.invokestatic 43, 3) := db1_50.2.2.2.2.2.1
theorem dX1_days_12 : decode cX1_days 12 = .ok (.aload_n 0, 1) := db1_50.2.2.2.2.2.2.1
theorem dX1_days_13 : decode cX1_days 13 = .ok (.getfield 9, 3) := db1_50.2.2.2.2.2.2.2.1
theorem dX1_days_16 : decode cX1_days 16 = .ok (.iload_n 1, 1) := db1_50.2.2.2.2.2.2.2.2.1
theorem dX1_days_17 : decode cX1_days 17 = .ok (.iaload, 1) := db1_50.2.2.2.2.2.2.2.2.2.1
theorem dX1_days_18 : decode cX1_days 18 = .ok (.iload_n 2, 1) := db1_50.2.2.2.2.2.2.2.2.2.2.1
theorem dX1_days_19 : decode cX1_days 19 = .ok (.iadd, 1) := db1_50.2.2.2.2.2.2.2.2.2.2.2.1
theorem dX1_days_20 : decode cX1_days 20 = .ok (.istore_n 3, 1) := db1_50.2.2.2.2.2.2.2.2.2.2.2.2.1
theorem dX1_days_21 : decode cX1_days 21 = .ok (.iload_n 3, 1) := db1_50.2.2.2.2.2.2.2.2.2.2.2.2.2.1
theorem dX1_days_22 : decode cX1_days 22 = .ok (.invokestatic 84, 3) := db1_50.2.2.2.2.2.2.2.2.2.2.2.2.2.2.1
theorem dX1_days_25 : decode cX1_days 25 = .ok (.aload_n 0, 1) := db1_50.2.2.2.2.2.2.2.2.2.2.2.2.2.2.2
theorem db1_51 : (decode cX1_days 26 = .ok (.iload_n 1, 1)) ∧ (decode cX1_days 27 = .ok (.iload_n 3, 1)) ∧ (decode cX1_days 28 = .ok (.invokevirtual 57, 3)) ∧ (decode cX1_days 31 = .ok (.ireturn, 1)) := by decide +kernel
theorem dX1_days_26 : decode cX1_days 26 = .ok (.iload_n 1, 1) := db1_51.1
theorem dX1_days_27 : decode cX1_days 27 = .ok (.iload_n 3, 1) := db1_51.2.1
theorem dX1_days_28 : decode cX1_days 28 = .ok (.invokevirtual 57, 3) := db1_51.2.2.1
theorem dX1_days_31 : decode cX1_days 31 = .ok (.ireturn, 1) := db1_51.2.2.2
theorem db1_52 : (decode cX1_cycles 0 = .ok (.iload_n 1, 1)) ∧ (decode cX1_cycles 1 = .ok (.invokestatic 39, 3)) ∧ (decode cX1_cycles 4 = .ok (.iload_n 2, 1)) ∧ (decode cX1_cycles 5 = .ok (.bipush (-60), 2)) ∧ (decode cX1_cycles 7 = .ok (.bipush 60, 2)) ∧ (decode cX1_cycles 9 = .ok (.invokestatic 43, 3)) ∧ (decode cX1_cycles 12 = .ok (.aload_n 0, 1)) ∧ (decode cX1_cycles 13 = .ok (.getfield 9, 3)) ∧ (decode cX1_cycles 16 = .ok (.iload_n 1, 1)) ∧ (decode cX1_cycles 17 = .ok (.iaload, 1)) ∧ (decode cX1_cycles 18 = .ok (.sipush 4800, 3)) ∧ (decode cX1_cycles 21 = .ok (.iload_n 2, 1)) ∧ (decode cX1_cycles 22 = .ok (.imul, 1)) ∧ (decode cX1_cycles 23 = .ok (.invokestatic 81, 3)) ∧ (decode cX1_cycles 26 = .ok (.istore_n 3, 1)) ∧ (decode cX1_cycles 27 = .ok (.iload_n 3, 1)) := by decide +kernel
theorem dX1_cycles_0 : decode cX1_cycles 0 = .ok (.iload_n 1, 1) := db1_52.1
theorem dX1_cycles_1 : decode cX1_cycles 1 = .ok (.invokestatic 39, 3) := db1_52.2.1
theorem dX1_cycles_4 : decode cX1_cycles 4 = .ok (.iload_n 2, 1) := db1_52.2.2.1
theorem dX1_cycles_5 : decode cX1_cycles 5 = .ok (.bipush (-60), 2) := db1_52.2.2.2.1
theorem dX1_cycles_7 : decode cX1_cycles 7 = .ok (.bipush 60, 2) := db1_52.2.2.2.2.1
theorem dX1_cycles_9 : decode cX1_cycles 9 = .ok (.invokestatic 43, 3) := db1_52.2.2.2.2.2.1
theorem dX1_cycles_12 : decode cX1_cycles 12 = .ok (.aload_n 0, 1) := db1_52.2.2.2.2.2.2.1
theorem dX1_cycles_13 : decode cX1_cycles 13 = .ok (.getfield 9, 3) := db1_52.2.2.2.2.2.2.2.1
theorem dX1_cycles_16 : decode cX1_cycles 16 = .ok (.iload_n 1, 1) := db1_52.2.2.2.2.2.2.2.2.1
theorem dX1_cycles_17 : decode cX1_cycles 17 = .ok (.iaload, 1) := db1_52.2.2.2.2.2.2.2.2.2.1
theorem dX1_cycles_18 : decode cX1_cycles 18 = .ok (.sipush 4800, 3) := db1_52.2.2.2.2.2.2.2.2.2.2.1
theorem dX1_cycles_21 : decode cX1_cycles 21 = .ok (.iload_n 2, 1) := db1_52.2.2.2.2.2.2.2.2.2.2.2.1
theorem dX1_cycles_22 : decode cX1_cycles 22 = .ok (.imul, 1) := db1_52.2.2.2.2.2.2.2.2.2.2.2.2.1
theorem dX1_cycles_23 : decode cX1_cycles 23 = .ok (.invokestatic 81, 3) := db1_52.2.2.2.2.2.2.2.2.2.2.2.2.2.1
theorem dX1_cycles_26 : decode cX1_cycles 26 = .ok (.istore_n 3, 1) := db1_52.2.2.2.2.2.2.2.2.2.2.2.2.2.2.1
theorem dX1_cycles_27 : decode cX1_cycles 27 = .ok (.iload_n 3, 1) := db1_52.2.2.2.2.2.2.2.2.2.2.2.2.2.2.2
theorem db1_53 : (decode cX1_cycles 28 = .ok (.invokestatic 84, 3)) ∧ (decode cX1_cycles 31 = .ok (.aload_n 0, 1)) ∧ (decode cX1_cycles 32 = .ok (.iload_n 1, 1)) ∧ (decode cX1_cycles 33 = .ok (.iload_n 3, 1)) ∧ (decode cX1_cycles 34 = .ok (.invokevirtual 57, 3)) ∧ (decode cX1_cycles 37 = .ok (.ireturn, 1)) := by decide +kernel
theorem dX1_cycles_28 : decode cX1_cycles 28 = .ok (.invokestatic 84, 3) := db1_53.1
theorem dX1_cycles_31 : decode cX1_cycles 31 = .ok (.aload_n 0, 1) := db1_53.2.1
theorem dX1_cycles_32 : decode cX1_cycles 32 = .ok (.iload_n 1, 1) := db1_53.2.2.1
theorem dX1_cycles_33 : decode cX1_cycles 33 = .ok (.iload_n 3, 1) := db1_53.2.2.2.1
theorem dX1_cycles_34 : decode cX1_cycles 34 = .ok (.invokevirtual 57, 3) := db1_53.2.2.2.2.1
theorem dX1_cycles_37 : decode cX1_cycles 37 = .ok (.ireturn, 1) := db1_53.2.2.2.2.2
theorem db1_54 : (decode cX1_act 0 = .ok (.iload_n 1, 1)) ∧ (decode cX1_act 1 = .ok (.invokestatic 39, 3)) ∧ (decode cX1_act 4 = .ok (.iload_n 2, 1)) ∧ (decode cX1_act 5 = .ok (.invokestatic 89, 3)) ∧ (decode cX1_act 8 = .ok (.iload 4, 2)) ∧ (decode cX1_act 10 = .ok (.ifCond .eq 7, 3)) ∧ (decode cX1_act 13 = .ok (.iconst (-1), 1)) ∧ (decode cX1_act 14 = .ok (.goto 4, 3)) ∧ (decode cX1_act 17 = .ok (.iconst 1, 1)) ∧ (decode cX1_act 18 = .ok (.istore 5, 2)) ∧ (decode cX1_act 20 = .ok (.iload 5, 2)) ∧ (decode cX1_act 22 = .ok (.aload_n 0, 1)) ∧ (decode cX1_act 23 = .ok (.iload_n 2, 1)) ∧ (decode cX1_act 24 = .ok (.invokevirtual 92, 3)) ∧ (decode cX1_act 27 = .ok (.imul, 1)) ∧ (decode cX1_act 28 = .ok (.istore 6, 2)) := by decide +kernel
theorem dX1_act_0 : decode cX1_act 0 = .ok (.iload_n 1, 1) := db1_54.1
theorem dX1_act_1 : decode cX1_act 1 = .ok (.invokestatic 39, 3) := db1_54.2.1
theorem dX1_act_4 : decode cX1_act 4 = .ok (.iload_n 2, 1) := db1_54.2.2.1
theorem dX1_act_5 : decode cX1_act 5 = .ok (.invokestatic 89, 3) := db1_54.2.2.2.1
theorem dX1_act_8 : decode cX1_act 8 = .ok (.iload 4, 2) := db1_54.2.2.2.2.1
theorem dX1_act_10 : decode cX1_act 10 = .ok (.ifCond .eq 7, 3) := db1_54.2.2.2.2.2.1
theorem dX1_act_13 : decode cX1_act 13 = .ok (.iconst (-1), 1) := db1_54.2.2.2.2.2.2.1
theorem dX1_act_14 : decode cX1_act 14 = .ok (.goto 4, 3) := db1_54.2.2.2.2.2.2.2.1
theorem dX1_act_17 : decode cX1_act 17 = .ok (.iconst 1, 1) := db1_54.2.2.2.2.2.2.2.2.1
theorem dX1_act_18 : decode cX1_act 18 = .ok (.istore 5, 2) := db1_54.2.2.2.2.2.2.2.2.2.1
theorem dX1_act_20 : decode cX1_act 20 = .ok (.iload 5, 2) := db1_54.2.2.2.2.2.2.2.2.2.2.1
theorem dX1_act_22 : decode cX1_act 22 = .ok (.aload_n 0, 1) := db1_54.2.2.2.2.2.2.2.2.2.2.2.1
theorem dX1_act_23 : decode cX1_act 23 = .ok (.iload_n 2, 1) := db1_54.2.2.2.2.2.2.2.2.2.2.2.2.1
theorem dX1_act_24 : decode cX1_act 24 = .ok (.invokevirtual 92, 3) := db1_54.2.2.2.2.2.2.2.2.2.2.2.2.2.1
theorem dX1_act_27 : decode cX1_act 27 = .ok (.imul, 1) := db1_54.2.2.2.2.2.2.2.2.2.2.2.2.2.2.1
theorem dX1_act_28 : decode cX1_act 28 = .ok (.istore 6, 2) := db1_54.2.2.2.2.2.2.2.2.2.2.2.2.2.2.2
theorem db1_55 : (decode cX1_act 30 = .ok (.iload 5, 2)) ∧ (decode cX1_act 32 = .ok (.aload_n 0, 1)) ∧ (decode cX1_act 33 = .ok (.getfield 19, 3)) ∧ (decode cX1_act 36 = .ok (.iload_n 2, 1)) ∧ (decode cX1_act 37 = .ok (.iaload, 1)) ∧ (decode cX1_act 38 = .ok (.imul, 1)) ∧ (decode cX1_act 39 = .ok (.istore 7, 2)) ∧ (decode cX1_act 41 = .ok (.iload_n 3, 1)) ∧ (decode cX1_act 42 = .ok (.ifCond .eq 19, 3)) ∧ (decode cX1_act 45 = .ok (.aload_n 0, 1)) ∧ (decode cX1_act 46 = .ok (.getfield 9, 3)) ∧ (decode cX1_act 49 = .ok (.iload_n 1, 1)) ∧ (decode cX1_act 50 = .ok (.iaload, 1)) ∧ (decode cX1_act 51 = .ok (.iload 6, 2)) ∧ (decode cX1_act 53 = .ok (.iload 7, 2)) ∧ (decode cX1_act 55 = .ok (.invokestatic 95, 3)) := by decide +kernel
theorem dX1_act_30 : decode cX1_act 30 = .ok (.iload 5, 2) := db1_55.1
theorem dX1_act_32 : decode cX1_act 32 = .ok (.aload_n 0, 1) := db1_55.2.1
theorem dX1_act_33 : decode cX1_act 33 = .ok (.getfield 19, 3) := db1_55.2.2.1
theorem dX1_act_36 : decode cX1_act 36 = .ok (.iload_n 2, 1) := db1_55.2.2.2.1
theorem dX1_act_37 : decode cX1_act 37 = .ok (.iaload, 1) := db1_55.2.2.2.2.1
theorem dX1_act_38 : decode cX1_act 38 = .ok (.imul, 1) := db1_55.2.2.2.2.2.1
theorem dX1_act_39 : decode cX1_act 39 = .ok (.istore 7, 2) := db1_55.2.2.2.2.2.2.1
theorem dX1_act_41 : decode cX1_act 41 = .ok (.iload_n 3, 1) := db1_55.2.2.2.2.2.2.2.1
theorem dX1_act_42 : decode cX1_act 42 = .ok (.ifCond .eq 19, 3) := db1_55.2.2.2.2.2.2.2.2.1
theorem dX1_act_45 : decode cX1_act 45 = .ok (.aload_n 0, 1) := db1_55.2.2.2.2.2.2.2.2.2.1
theorem dX1_act_46 : decode cX1_act 46 = .ok (.getfield 9, 3) := db1_55.2.2.2.2.2.2.2.2.2.2.1
theorem dX1_act_49 : decode cX1_act 49 = .ok (.iload_n 1, 1) := db1_55.2.2.2.2.2.2.2.2.2.2.2.1
theorem dX1_act_50 : decode cX1_act 50 = .ok (.iaload, 1) := db1_55.2.2.2.2.2.2.2.2.2.2.2.2.1
theorem dX1_act_51 : decode cX1_act 51 = .ok (.iload 6, 2) := db1_55.2.2.2.2.2.2.2.2.2.2.2.2.2.1
theorem dX1_act_53 : decode cX1_act 53 = .ok (.iload 7, 2) := db1_55.2.2.2.2.2.2.2.2.2.2.2.2.2.2.1
theorem dX1_act_55 : decode cX1_act 55 = .ok (.invokestatic 95, 3) := db1_55.2.2.2.2.2.2.2.2.2.2.2.2.2.2.2
theorem db1_56 : (decode cX1_act 58 = .ok (.goto 16, 3)) ∧ (decode cX1_act 61 = .ok (.aload_n 0, 1)) ∧ (decode cX1_act 62 = .ok (.getfield 9, 3)) ∧ (decode cX1_act 65 = .ok (.iload_n 1, 1)) ∧ (decode cX1_act 66 = .ok (.iaload, 1)) ∧ (decode cX1_act 67 = .ok (.iload 6, 2)) ∧ (decode cX1_act 69 = .ok (.iload 7, 2)) ∧ (decode cX1_act 71 = .ok (.invokestatic 99, 3)) ∧ (decode cX1_act 74 = .ok (.istore 8, 2)) ∧ (decode cX1_act 76 = .ok (.iload 8, 2)) ∧ (decode cX1_act 78 = .ok (.invokestatic 84, 3)) ∧ (decode cX1_act 81 = .ok (.aload_n 0, 1)) ∧ (decode cX1_act 82 = .ok (.iload_n 1, 1)) ∧ (decode cX1_act 83 = .ok (.iload 8, 2)) ∧ (decode cX1_act 85 = .ok (.invokevirtual 57, 3)) ∧ (decode cX1_act 88 = .ok (.ireturn, 1)) := by decide +kernel
theorem dX1_act_58 : decode cX1_act 58 = .ok (.goto 16, 3) := db1_56.1
theorem dX1_act_61 : decode cX1_act 61 = .ok (.aload_n 0, 1) := db1_56.2.1
theorem dX1_act_62 : decode cX1_act 62 = .ok (.getfield 9, 3) := db1_56.2.2.1
theorem dX1_act_65 : decode cX1_act 65 = .ok (.iload_n 1, 1) := db1_56.2.2.2.1
theorem dX1_act_66 : decode cX1_act 66 = .ok (.iaload, 1) := db1_56.2.2.2.2.1
theorem dX1_act_67 : decode cX1_act 67 = .ok (.iload 6, 2) := db1_56.2.2.2.2.2.1
theorem dX1_act_69 : decode cX1_act 69 = .ok (.iload 7, 2) := db1_56.2.2.2.2.2.2.1
theorem dX1_act_71 : decode cX1_act 71 = .ok (.invokestatic 99, 3) := db1_56.2.2.2.2.2.2.2.1
theorem dX1_act_74 : decode cX1_act 74 = .ok (.istore 8, 2) := db1_56.2.2.2.2.2.2.2.2.1
theorem dX1_act_76 : decode cX1_act 76 = .ok (.iload 8, 2) := db1_56.2.2.2.2.2.2.2.2.2.1
theorem dX1_act_78 : decode cX1_act 78 = .ok (.invokestatic 84, 3) := db1_56.2.2.2.2.2.2.2.2.2.2.1
theorem dX1_act_81 : decode cX1_act 81 = .ok (.aload_n 0, 1) := db1_56.2.2.2.2.2.2.2.2.2.2.2.1
theorem dX1_act_82 : decode cX1_act 82 = .ok (.iload_n 1, 1) := db1_56.2.2.2.2.2.2.2.2.2.2.2.2.1
theorem dX1_act_83 : decode cX1_act 83 = .ok (.iload 8, 2) := db1_56.2.2.2.2.2.2.2.2.2.2.2.2.2.1
theorem dX1_act_85 : decode cX1_act 85 = .ok (.invokevirtual 57, 3) := db1_56.2.2.2.2.2.2.2.2.2.2.2.2.2.2.1
theorem dX1_act_88 : decode cX1_act 88 = .ok (.ireturn, 1) := db1_56.2.2.2.2.2.2.2.2.2.2.2.2.2.2.2
theorem db1_57 : (decode cX1_actOften 0 = .ok (.iload_n 1, 1)) ∧ (decode cX1_actOften 1 = .ok (.invokestatic 39, 3)) ∧ (decode cX1_actOften 4 = .ok (.iload_n 2, 1)) ∧ (decode cX1_actOften 5 = .ok (.invokestatic 89, 3)) ∧ (decode cX1_actOften 8 = .ok (.iload_n 3, 1)) ∧ (decode cX1_actOften 9 = .ok (.iconst 0, 1)) ∧ (decode cX1_actOften 10 = .ok (.bipush 24, 2)) ∧ (decode cX1_actOften 12 = .ok (.invokestatic 43, 3)) ∧ (decode cX1_actOften 15 = .ok (.aload_n 0, 1)) ∧ (decode cX1_actOften 16 = .ok (.iload_n 2, 1)) ∧ (decode cX1_actOften 17 = .ok (.invokevirtual 92, 3)) ∧ (decode cX1_actOften 20 = .ok (.istore 4, 2)) ∧ (decode cX1_actOften 22 = .ok (.aload_n 0, 1)) ∧ (decode cX1_actOften 23 = .ok (.getfield 9, 3)) ∧ (decode cX1_actOften 26 = .ok (.iload_n 1, 1)) ∧ (decode cX1_actOften 27 = .ok (.iaload, 1)) := by decide +kernel
theorem dX1_actOften_0 : decode cX1_actOften 0 = .ok (.iload_n 1, 1) := db1_57.1
theorem dX1_actOften_1 : decode cX1_actOften 1 = .ok (.invokestatic 39, 3) := db1_57.2.1
theorem dX1_actOften_4 : decode cX1_actOften 4 = .ok (.iload_n 2, 1) := db1_57.2.2.1
theorem dX1_actOften_5 : decode cX1_actOften 5 = .ok (.invokestatic 89, 3) := db1_57.2.2.2.1
theorem dX1_actOften_8 : decode cX1_actOften 8 = .ok (.iload_n 3, 1) := db1_57.2.2.2.2.1
theorem dX1_actOften_9 : decode cX1_actOften 9 = .ok (.iconst 0, 1) := db1_57.2.2.2.2.2.1
theorem dX1_actOften_10 : decode cX1_actOften 10 = .ok (.bipush 24, 2) := db1_57.2.2.2.2.2.2.1
theorem dX1_actOften_12 : decode cX1_actOften 12 = .ok (.invokestatic 43, 3) := db1_57.2.2.2.2.2.2.2.1
theorem dX1_actOften_15 : decode cX1_actOften 15 = .ok (.aload_n 0, 1) := db1_57.2.2.2.2.2.2.2.2.1
theorem dX1_actOften_16 : decode cX1_actOften 16 = .ok (.iload_n 2, 1) := db1_57.2.2.2.2.2.2.2.2.2.1
theorem dX1_actOften_17 : decode cX1_actOften 17 = .ok (.invokevirtual 92, 3) := db1_57.2.2.2.2.2.2.2.2.2.2.1
theorem dX1_actOften_20 : decode cX1_actOften 20 = .ok (.istore 4, 2) := db1_57.2.2.2.2.2.2.2.2.2.2.2.1
theorem dX1_actOften_22 : decode cX1_actOften 22 = .ok (.aload_n 0, 1) := db1_57.2.2.2.2.2.2.2.2.2.2.2.2.1
theorem dX1_actOften_23 : decode cX1_actOften 23 = .ok (.getfield 9, 3) := db1_57.2.2.2.2.2.2.2.2.2.2.2.2.2.1
theorem dX1_actOften_26 : decode cX1_actOften 26 = .ok (.iload_n 1, 1) := db1_57.2.2.2.2.2.2.2.2.2.2.2.2.2.2.1
theorem dX1_actOften_27 : decode cX1_actOften 27 = .ok (.iaload, 1) := db1_57.2.2.2.2.2.2.2.2.2.2.2.2.2.2.2
theorem db1_58 : (decode cX1_actOften 28 = .ok (.istore 5, 2)) ∧ (decode cX1_actOften 30 = .ok (.iconst 0, 1)) ∧ (decode cX1_actOften 31 = .ok (.istore 6, 2)) ∧ (decode cX1_actOften 33 = .ok (.iload 6, 2)) ∧ (decode cX1_actOften 35 = .ok (.iload_n 3, 1)) ∧ (decode cX1_actOften 36 = .ok (.if_icmp .ge 24, 3)) ∧ (decode cX1_actOften 39 = .ok (.iload 5, 2)) ∧ (decode cX1_actOften 41 = .ok (.iload 4, 2)) ∧ (decode cX1_actOften 43 = .ok (.aload_n 0, 1)) ∧ (decode cX1_actOften 44 = .ok (.getfield 19, 3)) ∧ (decode cX1_actOften 47 = .ok (.iload_n 2, 1)) ∧ (decode cX1_actOften 48 = .ok (.iaload, 1)) ∧ (decode cX1_actOften 49 = .ok (.invokestatic 99, 3)) ∧ (decode cX1_actOften 52 = .ok (.istore 5, 2)) ∧ (decode cX1_actOften 54 = .ok (.iinc 6 1, 3)) ∧ (decode cX1_actOften 57 = .ok (.goto (-24), 3)) := by decide +kernel
theorem dX1_actOften_28 : decode cX1_actOften 28 = .ok (.istore 5, 2) := db1_58.1
theorem dX1_actOften_30 : decode cX1_actOften 30 = .ok (.iconst 0, 1) := db1_58.2.1
theorem dX1_actOften_31 : decode cX1_actOften 31 = .ok (.istore 6, 2) := db1_58.2.2.1
theorem dX1_actOften_33 : decode cX1_actOften 33 = .ok (.iload 6, 2) := db1_58.2.2.2.1
theorem dX1_actOften_35 : decode cX1_actOften 35 = .ok (.iload_n 3, 1) := db1_58.2.2.2.2.1
theorem dX1_actOften_36 : decode cX1_actOften 36 = .ok (.if_icmp .ge 24, 3) := db1_58.2.2.2.2.2.1
theorem dX1_actOften_39 : decode cX1_actOften 39 = .ok (.iload 5, 2) := db1_58.2.2.2.2.2.2.1
theorem dX1_actOften_41 : decode cX1_actOften 41 = .ok (.iload 4, 2) := db1_58.2.2.2.2.2.2.2.1
theorem dX1_actOften_43 : decode cX1_actOften 43 = .ok (.aload_n 0, 1) := db1_58.2.2.2.2.2.2.2.2.1
theorem dX1_actOften_44 : decode cX1_actOften 44 = .ok (.getfield 19, 3) := db1_58.2.2.2.2.2.2.2.2.2.1
theorem dX1_actOften_47 : decode cX1_actOften 47 = .ok (.iload_n 2, 1) := db1_58.2.2.2.2.2.2.2.2.2.2.1
theorem dX1_actOften_48 : decode cX1_actOften 48 = .ok (.iaload, 1) := db1_58.2.2.2.2.2.2.2.2.2.2.2.1
theorem dX1_actOften_49 : decode cX1_actOften 49 = .ok (.invokestatic 99, 3) := db1_58.2.2.2.2.2.2.2.2.2.2.2.2.1
theorem dX1_actOften_52 : decode cX1_actOften 52 = .ok (.istore 5, 2) := db1_58.2.2.2.2.2.2.2.2.2.2.2.2.2.1
theorem dX1_actOften_54 : decode cX1_actOften 54 = .ok (.iinc 6 1, 3) := db1_58.2.2.2.2.2.2.2.2.2.2.2.2.2.2.1
theorem dX1_actOften_57 : decode cX1_actOften 57 = .ok (.goto (-24), 3) := db1_58.2.2.2.2.2.2.2.2.2.2.2.2.2.2.2
theorem db1_59 : (decode cX1_actOften 60 = .ok (.iload 5, 2)) ∧ (decode cX1_actOften 62 = .ok (.invokestatic 84, 3)) ∧ (decode cX1_actOften 65 = .ok (.aload_n 0, 1)) ∧ (decode cX1_actOften 66 = .ok (.iload_n 1, 1)) ∧ (decode cX1_actOften 67 = .ok (.iload 5, 2)) ∧ (decode cX1_actOften 69 = .ok (.invokevirtual 57, 3)) ∧ (decode cX1_actOften 72 = .ok (.ireturn, 1)) := by decide +kernel
theorem dX1_actOften_60 : decode cX1_actOften 60 = .ok (.iload 5, 2) := db1_59.1
theorem dX1_actOften_62 : decode cX1_actOften 62 = .ok (.invokestatic 84, 3) := db1_59.2.1
theorem dX1_actOften_65 : decode cX1_actOften 65 = .ok (.aload_n 0, 1) := db1_59.2.2.1
theorem dX1_actOften_66 : decode cX1_actOften 66 = .ok (.iload_n 1, 1) := db1_59.2.2.2.1
theorem dX1_actOften_67 : decode cX1_actOften 67 = .ok (.iload 5, 2) := db1_59.2.2.2.2.1
theorem dX1_actOften_69 : decode cX1_actOften 69 = .ok (.invokevirtual 57, 3) := db1_59.2.2.2.2.2.1
theorem dX1_actOften_72 : decode cX1_actOften 72 = .ok (.ireturn, 1) := db1_59.2.2.2.2.2.2
theorem db1_60 : (decode cX1_span 0 = .ok (.iload_n 1, 1)) ∧ (decode cX1_span 1 = .ok (.invokestatic 89, 3)) ∧ (decode cX1_span 4 = .ok (.iload_n 2, 1)) ∧ (decode cX1_span 5 = .ok (.sipush (-20000), 3)) ∧ (decode cX1_span 8 = .ok (.sipush 20000, 3)) ∧ (decode cX1_span 11 = .ok (.invokestatic 43, 3)) ∧ (decode cX1_span 14 = .ok (.iload_n 3, 1)) ∧ (decode cX1_span 15 = .ok (.invokestatic 78, 3)) ∧ (decode cX1_span 18 = .ok (.iload 4, 2)) ∧ (decode cX1_span 20 = .ok (.ldc 102, 2)) ∧ (decode cX1_span 22 = .ok (.ldc 103, 2)) ∧ (decode cX1_span 24 = .ok (.invokestatic 43, 3)) ∧ (decode cX1_span 27 = .ok (.aload_n 0, 1)) ∧ (decode cX1_span 28 = .ok (.iload_n 1, 1)) ∧ (decode cX1_span 29 = .ok (.iload_n 2, 1)) ∧ (decode cX1_span 30 = .ok (.iload_n 3, 1)) := by decide +kernel
theorem dX1_span_0 : decode cX1_span 0 = .ok (.iload_n 1, 1) := db1_60.1
theorem dX1_span_1 : decode cX1_span 1 = .ok (.invokestatic 89, 3) := db1_60.2.1
theorem dX1_span_4 : decode cX1_span 4 = .ok (.iload_n 2, 1) := db1_60.2.2.1
theorem dX1_span_5 : decode cX1_span 5 = .ok (.sipush (-20000), 3) := db1_60.2.2.2.1
theorem dX1_span_8 : decode cX1_span 8 = .ok (.sipush 20000, 3) := db1_60.2.2.2.2.1
theorem dX1_span_11 : decode cX1_span 11 = .ok (.invokestatic 43, 3) := db1_60.2.2.2.2.2.1
theorem dX1_span_14 : decode cX1_span 14 = .ok (.iload_n 3, 1) := db1_60.2.2.2.2.2.2.1
theorem dX1_span_15 : decode cX1_span 15 = .ok (.invokestatic 78, 3) := db1_60.2.2.2.2.2.2.2.1
theorem dX1_span_18 : decode cX1_span 18 = .ok (.iload 4, 2) := db1_60.2.2.2.2.2.2.2.2.1
theorem dX1_span_20 : decode cX1_span 20 = .ok (.ldc 102, 2) := db1_60.2.2.2.2.2.2.2.2.2.1
theorem dX1_span_22 : decode cX1_span 22 = .ok (.ldc 103, 2) := db1_60.2.2.2.2.2.2.2.2.2.2.1
theorem dX1_span_24 : decode cX1_span 24 = .ok (.invokestatic 43, 3) := db1_60.2.2.2.2.2.2.2.2.2.2.2.1
theorem dX1_span_27 : decode cX1_span 27 = .ok (.aload_n 0, 1) := db1_60.2.2.2.2.2.2.2.2.2.2.2.2.1
theorem dX1_span_28 : decode cX1_span 28 = .ok (.iload_n 1, 1) := db1_60.2.2.2.2.2.2.2.2.2.2.2.2.2.1
theorem dX1_span_29 : decode cX1_span 29 = .ok (.iload_n 2, 1) := db1_60.2.2.2.2.2.2.2.2.2.2.2.2.2.2.1
theorem dX1_span_30 : decode cX1_span 30 = .ok (.iload_n 3, 1) := db1_60.2.2.2.2.2.2.2.2.2.2.2.2.2.2.2
theorem db1_61 : (decode cX1_span 31 = .ok (.iload 4, 2)) ∧ (decode cX1_span 33 = .ok (.invokevirtual 104, 3)) ∧ (decode cX1_span 36 = .ok (.aload_n 0, 1)) ∧ (decode cX1_span 37 = .ok (.iload_n 1, 1)) ∧ (decode cX1_span 38 = .ok (.invokevirtual 92, 3)) ∧ (decode cX1_span 41 = .ok (.ireturn, 1)) := by decide +kernel
theorem dX1_span_31 : decode cX1_span 31 = .ok (.iload 4, 2) := db1_61.1
theorem dX1_span_33 : decode cX1_span 33 = .ok (.invokevirtual 104, 3) := db1_61.2.1
theorem dX1_span_36 : decode cX1_span 36 = .ok (.aload_n 0, 1) := db1_61.2.2.1
theorem dX1_span_37 : decode cX1_span 37 = .ok (.iload_n 1, 1) := db1_61.2.2.2.1
theorem dX1_span_38 : decode cX1_span 38 = .ok (.invokevirtual 92, 3) := db1_61.2.2.2.2.1
theorem dX1_span_41 : decode cX1_span 41 = .ok (.ireturn, 1) := db1_61.2.2.2.2.2
theorem db1_62 : (decode cX1_until 0 = .ok (.iload_n 1, 1)) ∧ (decode cX1_until 1 = .ok (.invokestatic 89, 3)) ∧ (decode cX1_until 4 = .ok (.iload_n 2, 1)) ∧ (decode cX1_until 5 = .ok (.invokestatic 39, 3)) ∧ (decode cX1_until 8 = .ok (.iload_n 3, 1)) ∧ (decode cX1_until 9 = .ok (.invokestatic 39, 3)) ∧ (decode cX1_until 12 = .ok (.aload_n 0, 1)) ∧ (decode cX1_until 13 = .ok (.getfield 9, 3)) ∧ (decode cX1_until 16 = .ok (.iload_n 3, 1)) ∧ (decode cX1_until 17 = .ok (.iaload, 1)) ∧ (decode cX1_until 18 = .ok (.aload_n 0, 1)) ∧ (decode cX1_until 19 = .ok (.getfield 9, 3)) ∧ (decode cX1_until 22 = .ok (.iload_n 2, 1)) ∧ (decode cX1_until 23 = .ok (.iaload, 1)) ∧ (decode cX1_until 24 = .ok (.invokestatic 108, 3)) ∧ (decode cX1_until 27 = .ok (.aload_n 0, 1)) := by decide +kernel
theorem dX1_until_0 : decode cX1_until 0 = .ok (.iload_n 1, 1) := db1_62.1
theorem dX1_until_1 : decode cX1_until 1 = .ok (.invokestatic 89, 3) := db1_62.2.1
theorem dX1_until_4 : decode cX1_until 4 = .ok (.iload_n 2, 1) := db1_62.2.2.1
theorem dX1_until_5 : decode cX1_until 5 = .ok (.invokestatic 39, 3) := db1_62.2.2.2.1
theorem dX1_until_8 : decode cX1_until 8 = .ok (.iload_n 3, 1) := db1_62.2.2.2.2.1
theorem dX1_until_9 : decode cX1_until 9 = .ok (.invokestatic 39, 3) := db1_62.2.2.2.2.2.1
theorem dX1_until_12 : decode cX1_until 12 = .ok (.aload_n 0, 1) := db1_62.2.2.2.2.2.2.1
theorem dX1_until_13 : decode cX1_until 13 = .ok (.getfield 9, 3) := db1_62.2.2.2.2.2.2.2.1
theorem dX1_until_16 : decode cX1_until 16 = .ok (.iload_n 3, 1) := db1_62.2.2.2.2.2.2.2.2.1
theorem dX1_until_17 : decode cX1_until 17 = .ok (.iaload, 1) := db1_62.2.2.2.2.2.2.2.2.2.1
theorem dX1_until_18 : decode cX1_until 18 = .ok (.aload_n 0, 1) := db1_62.2.2.2.2.2.2.2.2.2.2.1
theorem dX1_until_19 : decode cX1_until 19 = .ok (.getfield 9, 3) := db1_62.2.2.2.2.2.2.2.2.2.2.2.1
theorem dX1_until_22 : decode cX1_until 22 = .ok (.iload_n 2, 1) := db1_62.2.2.2.2.2.2.2.2.2.2.2.2.1
theorem dX1_until_23 : decode cX1_until 23 = .ok (.iaload, 1) := db1_62.2.2.2.2.2.2.2.2.2.2.2.2.2.1
theorem dX1_until_24 : decode cX1_until 24 = .ok (.invokestatic 108, 3) := db1_62.2.2.2.2.2.2.2.2.2.2.2.2.2.2.1
theorem dX1_until_27 : decode cX1_until 27 = .ok (.aload_n 0, 1) := db1_62.2.2.2.2.2.2.2.2.2.2.2.2.2.2.2
theorem db1_63 : (decode cX1_until 28 = .ok (.getfield 9, 3)) ∧ (decode cX1_until 31 = .ok (.iload_n 2, 1)) ∧ (decode cX1_until 32 = .ok (.iaload, 1)) ∧ (decode cX1_until 33 = .ok (.aload_n 0, 1)) ∧ (decode cX1_until 34 = .ok (.getfield 9, 3)) ∧ (decode cX1_until 37 = .ok (.iload_n 3, 1)) ∧ (decode cX1_until 38 = .ok (.iaload, 1)) ∧ (decode cX1_until 39 = .ok (.invokestatic 111, 3)) ∧ (decode cX1_until 42 = .ok (.istore 4, 2)) ∧ (decode cX1_until 44 = .ok (.aload_n 0, 1)) ∧ (decode cX1_until 45 = .ok (.iload_n 1, 1)) ∧ (decode cX1_until 46 = .ok (.iload 4, 2)) ∧ (decode cX1_until 48 = .ok (.bipush 12, 2)) ∧ (decode cX1_until 50 = .ok (.idiv, 1)) ∧ (decode cX1_until 51 = .ok (.iload 4, 2)) ∧ (decode cX1_until 53 = .ok (.bipush 12, 2)) := by decide +kernel
theorem dX1_until_28 : decode cX1_until 28 = .ok (.getfield 9, 3) := db1_63.1
theorem dX1_until_31 : decode cX1_until 31 = .ok (.iload_n 2, 1) := db1_63.2.1
theorem dX1_until_32 : decode cX1_until 32 = .ok (.iaload, 1) := db1_63.2.2.1
theorem dX1_until_33 : decode cX1_until 33 = .ok (.aload_n 0, 1) := db1_63.2.2.2.1
theorem dX1_until_34 : decode cX1_until 34 = .ok (.getfield 9, 3) := db1_63.2.2.2.2.1
theorem dX1_until_37 : decode cX1_until 37 = .ok (.iload_n 3, 1) := db1_63.2.2.2.2.2.1
theorem dX1_until_38 : decode cX1_until 38 = .ok (.iaload, 1) := db1_63.2.2.2.2.2.2.1
theorem dX1_until_39 : decode cX1_until 39 = .ok (.invokestatic 111, 3) := db1_63.2.2.2.2.2.2.2.1
theorem dX1_until_42 : decode cX1_until 42 = .ok (.istore 4, 2) := db1_63.2.2.2.2.2.2.2.2.1
theorem dX1_until_44 : decode cX1_until 44 = .ok (.aload_n 0, 1) := db1_63.2.2.2.2.2.2.2.2.2.1
theorem dX1_until_45 : decode cX1_until 45 = .ok (.iload_n 1, 1) := db1_63.2.2.2.2.2.2.2.2.2.2.1
theorem dX1_until_46 : decode cX1_until 46 = .ok (.iload 4, 2) := db1_63.2.2.2.2.2.2.2.2.2.2.2.1
theorem dX1_until_48 : decode cX1_until 48 = .ok (.bipush 12, 2) := db1_63.2.2.2.2.2.2.2.2.2.2.2.2.1
theorem dX1_until_50 : decode cX1_until 50 = .ok (.idiv, 1) := db1_63.2.2.2.2.2.2.2.2.2.2.2.2.2.1
theorem dX1_until_51 : decode cX1_until 51 = .ok (.iload 4, 2) := db1_63.2.2.2.2.2.2.2.2.2.2.2.2.2.2.1
theorem dX1_until_53 : decode cX1_until 53 = .ok (.bipush 12, 2) := db1_63.2.2.2.2.2.2.2.2.2.2.2.2.2.2.2
theorem db1_64 : (decode cX1_until 55 = .ok (.irem, 1)) ∧ (decode cX1_until 56 = .ok (.aload_n 0, 1)) ∧ (decode cX1_until 57 = .ok (.getfield 9, 3)) ∧ (decode cX1_until 60 = .ok (.iload_n 3, 1)) ∧ (decode cX1_until 61 = .ok (.iaload, 1)) ∧ (decode cX1_until 62 = .ok (.aload_n 0, 1)) ∧ (decode cX1_until 63 = .ok (.getfield 9, 3)) ∧ (decode cX1_until 66 = .ok (.iload_n 2, 1)) ∧ (decode cX1_until 67 = .ok (.iaload, 1)) ∧ (decode cX1_until 68 = .ok (.iload 4, 2)) ∧ (decode cX1_until 70 = .ok (.invokestatic 81, 3)) ∧ (decode cX1_until 73 = .ok (.isub, 1)) ∧ (decode cX1_until 74 = .ok (.invokevirtual 104, 3)) ∧ (decode cX1_until 77 = .ok (.aload_n 0, 1)) ∧ (decode cX1_until 78 = .ok (.getfield 19, 3)) ∧ (decode cX1_until 81 = .ok (.iload_n 1, 1)) := by decide +kernel
theorem dX1_until_55 : decode cX1_until 55 = .ok (.irem, 1) := db1_64.1
theorem dX1_until_56 : decode cX1_until 56 = .ok (.aload_n 0, 1) := db1_64.2.1
theorem dX1_until_57 : decode cX1_until 57 = .ok (.getfield 9, 3) := db1_64.2.2.1
theorem dX1_until_60 : decode cX1_until 60 = .ok (.iload_n 3, 1) := db1_64.2.2.2.1
theorem dX1_until_61 : decode cX1_until 61 = .ok (.iaload, 1) := db1_64.2.2.2.2.1
theorem dX1_until_62 : decode cX1_until 62 = .ok (.aload_n 0, 1) := db1_64.2.2.2.2.2.1
theorem dX1_until_63 : decode cX1_until 63 = .ok (.getfield 9, 3) := db1_64.2.2.2.2.2.2.1
theorem dX1_until_66 : decode cX1_until 66 = .ok (.iload_n 2, 1) := db1_64.2.2.2.2.2.2.2.1
theorem dX1_until_67 : decode cX1_until 67 = .ok (.iaload, 1) := db1_64.2.2.2.2.2.2.2.2.1
theorem dX1_until_68 : decode cX1_until 68 = .ok (.iload 4, 2) := db1_64.2.2.2.2.2.2.2.2.2.1
theorem dX1_until_70 : decode cX1_until 70 = .ok (.invokestatic 81, 3) := db1_64.2.2.2.2.2.2.2.2.2.2.1
theorem dX1_until_73 : decode cX1_until 73 = .ok (.isub, 1) := db1_64.2.2.2.2.2.2.2.2.2.2.2.1
theorem dX1_until_74 : decode cX1_until 74 = .ok (.invokevirtual 104, 3) := db1_64.2.2.2.2.2.2.2.2.2.2.2.2.1
theorem dX1_until_77 : decode cX1_until 77 = .ok (.aload_n 0, 1) := db1_64.2.2.2.2.2.2.2.2.2.2.2.2.2.1
theorem dX1_until_78 : decode cX1_until 78 = .ok (.getfield 19, 3) := db1_64.2.2.2.2.2.2.2.2.2.2.2.2.2.2.1
theorem dX1_until_81 : decode cX1_until 81 = .ok (.iload_n 1, 1) := db1_64.2.2.2.2.2.2.2.2.2.2.2.2.2.2.2
theorem db1_65 : (decode cX1_until 82 = .ok (.iaload, 1)) ∧ (decode cX1_until 83 = .ok (.ireturn, 1)) := by decide +kernel
theorem dX1_until_82 : decode cX1_until 82 = .ok (.iaload, 1) := db1_65.1
theorem dX1_until_83 : decode cX1_until 83 = .ok (.ireturn, 1) := db1_65.2
theorem db1_66 : (decode cX1_addSpan 0 = .ok (.iload_n 1, 1)) ∧ (decode cX1_addSpan 1 = .ok (.invokestatic 89, 3)) ∧ (decode cX1_addSpan 4 = .ok (.iload_n 2, 1)) ∧ (decode cX1_addSpan 5 = .ok (.invokestatic 89, 3)) ∧ (decode cX1_addSpan 8 = .ok (.aload_n 0, 1)) ∧ (decode cX1_addSpan 9 = .ok (.getfield 13, 3)) ∧ (decode cX1_addSpan 12 = .ok (.iload_n 1, 1)) ∧ (decode cX1_addSpan 13 = .ok (.iaload, 1)) ∧ (decode cX1_addSpan 14 = .ok (.aload_n 0, 1)) ∧ (decode cX1_addSpan 15 = .ok (.getfield 13, 3)) ∧ (decode cX1_addSpan 18 = .ok (.iload_n 2, 1)) ∧ (decode cX1_addSpan 19 = .ok (.iaload, 1)) ∧ (decode cX1_addSpan 20 = .ok (.iadd, 1)) ∧ (decode cX1_addSpan 21 = .ok (.istore_n 3, 1)) ∧ (decode cX1_addSpan 22 = .ok (.aload_n 0, 1)) ∧ (decode cX1_addSpan 23 = .ok (.getfield 16, 3)) := by decide +kernel
theorem dX1_addSpan_0 : decode cX1_addSpan 0 = .ok (.iload_n 1, 1) := db1_66.1
theorem dX1_addSpan_1 : decode cX1_addSpan 1 = .ok (.invokestatic 89, 3) := db1_66.2.1
theorem dX1_addSpan_4 : decode cX1_addSpan 4 = .ok (.iload_n 2, 1) := db1_66.2.2.1
theorem dX1_addSpan_5 : decode cX1_addSpan 5 = .ok (.invokestatic 89, 3) := db1_66.2.2.2.1
theorem dX1_addSpan_8 : decode cX1_addSpan 8 = .ok (.aload_n 0, 1) := db1_66.2.2.2.2.1
theorem dX1_addSpan_9 : decode cX1_addSpan 9 = .ok (.getfield 13, 3) := db1_66.2.2.2.2.2.1
theorem dX1_addSpan_12 : decode cX1_addSpan 12 = .ok (.iload_n 1, 1) := db1_66.2.2.2.2.2.2.1
theorem dX1_addSpan_13 : decode cX1_addSpan 13 = .ok (.iaload, 1) := db1_66.2.2.2.2.2.2.2.1
theorem dX1_addSpan_14 : decode cX1_addSpan 14 = .ok (.aload_n 0, 1) := db1_66.2.2.2.2.2.2.2.2.1
theorem dX1_addSpan_15 : decode cX1_addSpan 15 = .ok (.getfield 13, 3) := db1_66.2.2.2.2.2.2.2.2.2.1
theorem dX1_addSpan_18 : decode cX1_addSpan 18 = .ok (.iload_n 2, 1) := db1_66.2.2.2.2.2.2.2.2.2.2.1
theorem dX1_addSpan_19 : decode cX1_addSpan 19 = .ok (.iaload, 1) := db1_66.2.2.2.2.2.2.2.2.2.2.2.1
theorem dX1_addSpan_20 : decode cX1_addSpan 20 = .ok (.iadd, 1) := db1_66.2.2.2.2.2.2.2.2.2.2.2.2.1
theorem dX1_addSpan_21 : decode cX1_addSpan 21 = .ok (.istore_n 3, 1) := db1_66.2.2.2.2.2.2.2.2.2.2.2.2.2.1
theorem dX1_addSpan_22 : decode cX1_addSpan 22 = .ok (.aload_n 0, 1) := db1_66.2.2.2.2.2.2.2.2.2.2.2.2.2.2.1
theorem dX1_addSpan_23 : decode cX1_addSpan 23 = .ok (.getfield 16, 3) := db1_66.2.2.2.2.2.2.2.2.2.2.2.2.2.2.2
theorem db1_67 : (decode cX1_addSpan 26 = .ok (.iload_n 1, 1)) ∧ (decode cX1_addSpan 27 = .ok (.iaload, 1)) ∧ (decode cX1_addSpan 28 = .ok (.aload_n 0, 1)) ∧ (decode cX1_addSpan 29 = .ok (.getfield 16, 3)) ∧ (decode cX1_addSpan 32 = .ok (.iload_n 2, 1)) ∧ (decode cX1_addSpan 33 = .ok (.iaload, 1)) ∧ (decode cX1_addSpan 34 = .ok (.iadd, 1)) ∧ (decode cX1_addSpan 35 = .ok (.istore 4, 2)) ∧ (decode cX1_addSpan 37 = .ok (.aload_n 0, 1)) ∧ (decode cX1_addSpan 38 = .ok (.getfield 19, 3)) ∧ (decode cX1_addSpan 41 = .ok (.iload_n 1, 1)) ∧ (decode cX1_addSpan 42 = .ok (.iaload, 1)) ∧ (decode cX1_addSpan 43 = .ok (.aload_n 0, 1)) ∧ (decode cX1_addSpan 44 = .ok (.getfield 19, 3)) ∧ (decode cX1_addSpan 47 = .ok (.iload_n 2, 1)) ∧ (decode cX1_addSpan 48 = .ok (.iaload, 1)) := by decide +kernel
theorem dX1_addSpan_26 : decode cX1_addSpan 26 = .ok (.iload_n 1, 1) := db1_67.1
theorem dX1_addSpan_27 : decode cX1_addSpan 27 = .ok (.iaload, 1) := db1_67.2.1
theorem dX1_addSpan_28 : decode cX1_addSpan 28 = .ok (.aload_n 0, 1) := db1_67.2.2.1
theorem dX1_addSpan_29 : decode cX1_addSpan 29 = .ok (.getfield 16, 3) := db1_67.2.2.2.1
theorem dX1_addSpan_32 : decode cX1_addSpan 32 = .ok (.iload_n 2, 1) := db1_67.2.2.2.2.1
theorem dX1_addSpan_33 : decode cX1_addSpan 33 = .ok (.iaload, 1) := db1_67.2.2.2.2.2.1
theorem dX1_addSpan_34 : decode cX1_addSpan 34 = .ok (.iadd, 1) := db1_67.2.2.2.2.2.2.1
theorem dX1_addSpan_35 : decode cX1_addSpan 35 = .ok (.istore 4, 2) := db1_67.2.2.2.2.2.2.2.1
theorem dX1_addSpan_37 : decode cX1_addSpan 37 = .ok (.aload_n 0, 1) := db1_67.2.2.2.2.2.2.2.2.1
theorem dX1_addSpan_38 : decode cX1_addSpan 38 = .ok (.getfield 19, 3) := db1_67.2.2.2.2.2.2.2.2.2.1
theorem dX1_addSpan_41 : decode cX1_addSpan 41 = .ok (.iload_n 1, 1) := db1_67.2.2.2.2.2.2.2.2.2.2.1
theorem dX1_addSpan_42 : decode cX1_addSpan 42 = .ok (.iaload, 1) := db1_67.2.2.2.2.2.2.2.2.2.2.2.1
theorem dX1_addSpan_43 : decode cX1_addSpan 43 = .ok (.aload_n 0, 1) := db1_67.2.2.2.2.2.2.2.2.2.2.2.2.1
theorem dX1_addSpan_44 : decode cX1_addSpan 44 = .ok (.getfield 19, 3) := db1_67.2.2.2.2.2.2.2.2.2.2.2.2.2.1
theorem dX1_addSpan_47 : decode cX1_addSpan 47 = .ok (.iload_n 2, 1) := db1_67.2.2.2.2.2.2.2.2.2.2.2.2.2.2.1
theorem dX1_addSpan_48 : decode cX1_addSpan 48 = .ok (.iaload, 1) := db1_67.2.2.2.2.2.2.2.2.2.2.2.2.2.2.2
theorem db1_68 : (decode cX1_addSpan 49 = .ok (.iadd, 1)) ∧ (decode cX1_addSpan 50 = .ok (.istore 5, 2)) ∧ (decode cX1_addSpan 52 = .ok (.iload_n 3, 1)) ∧ (decode cX1_addSpan 53 = .ok (.sipush 20000, 3)) ∧ (decode cX1_addSpan 56 = .ok (.invokestatic 114, 3)) ∧ (decode cX1_addSpan 59 = .ok (.iload 4, 2)) ∧ (decode cX1_addSpan 61 = .ok (.ldc 117, 2)) ∧ (decode cX1_addSpan 63 = .ok (.invokestatic 114, 3)) ∧ (decode cX1_addSpan 66 = .ok (.iload 5, 2)) ∧ (decode cX1_addSpan 68 = .ok (.ldc 103, 2)) ∧ (decode cX1_addSpan 70 = .ok (.invokestatic 114, 3)) ∧ (decode cX1_addSpan 73 = .ok (.aload_n 0, 1)) ∧ (decode cX1_addSpan 74 = .ok (.iload_n 1, 1)) ∧ (decode cX1_addSpan 75 = .ok (.iload_n 3, 1)) ∧ (decode cX1_addSpan 76 = .ok (.iload 4, 2)) ∧ (decode cX1_addSpan 78 = .ok (.iload 5, 2)) := by decide +kernel
theorem dX1_addSpan_49 : decode cX1_addSpan 49 = .ok (.iadd, 1) := db1_68.1
theorem dX1_addSpan_50 : decode cX1_addSpan 50 = .ok (.istore 5, 2) := db1_68.2.1
theorem dX1_addSpan_52 : decode cX1_addSpan 52 = .ok (.iload_n 3, 1) := db1_68.2.2.1
theorem dX1_addSpan_53 : decode cX1_addSpan 53 = .ok (.sipush 20000, 3) := db1_68.2.2.2.1
theorem dX1_addSpan_56 : decode cX1_addSpan 56 = .ok (.invokestatic 114, 3) := db1_68.2.2.2.2.1
theorem dX1_addSpan_59 : decode cX1_addSpan 59 = .ok (.iload 4, 2) := db1_68.2.2.2.2.2.1
theorem dX1_addSpan_61 : decode cX1_addSpan 61 = .ok (.ldc 117, 2) := db1_68.2.2.2.2.2.2.1
theorem dX1_addSpan_63 : decode cX1_addSpan 63 = .ok (.invokestatic 114, 3) := db1_68.2.2.2.2.2.2.2.1
theorem dX1_addSpan_66 : decode cX1_addSpan 66 = .ok (.iload 5, 2) := db1_68.2.2.2.2.2.2.2.2.1
theorem dX1_addSpan_68 : decode cX1_addSpan 68 = .ok (.ldc 103, 2) := db1_68.2.2.2.2.2.2.2.2.2.1
theorem dX1_addSpan_70 : decode cX1_addSpan 70 = .ok (.invokestatic 114, 3) := db1_68.2.2.2.2.2.2.2.2.2.2.1
theorem dX1_addSpan_73 : decode cX1_addSpan 73 = .ok (.aload_n 0, 1) := db1_68.2.2.2.2.2.2.2.2.2.2.2.1
theorem dX1_addSpan_74 : decode cX1_addSpan 74 = .ok (.iload_n 1, 1) := db1_68.2.2.2.2.2.2.2.2.2.2.2.2.1
theorem dX1_addSpan_75 : decode cX1_addSpan 75 = .ok (.iload_n 3, 1) := db1_68.2.2.2.2.2.2.2.2.2.2.2.2.2.1
theorem dX1_addSpan_76 : decode cX1_addSpan 76 = .ok (.iload 4, 2) := db1_68.2.2.2.2.2.2.2.2.2.2.2.2.2.2.1
theorem dX1_addSpan_78 : decode cX1_addSpan 78 = .ok (.iload 5, 2) := db1_68.2.2.2.2.2.2.2.2.2.2.2.2.2.2.2
theorem db1_69 : (decode cX1_addSpan 80 = .ok (.invokevirtual 104, 3)) ∧ (decode cX1_addSpan 83 = .ok (.iload 5, 2)) ∧ (decode cX1_addSpan 85 = .ok (.ireturn, 1)) := by decide +kernel
theorem dX1_addSpan_80 : decode cX1_addSpan 80 = .ok (.invokevirtual 104, 3) := db1_69.1
theorem dX1_addSpan_83 : decode cX1_addSpan 83 = .ok (.iload 5, 2) := db1_69.2.1
theorem dX1_addSpan_85 : decode cX1_addSpan 85 = .ok (.ireturn, 1) := db1_69.2.2
theorem db1_70 : (decode cX1_turnSpan 0 = .ok (.iload_n 1, 1)) ∧ (decode cX1_turnSpan 1 = .ok (.invokestatic 89, 3)) ∧ (decode cX1_turnSpan 4 = .ok (.aload_n 0, 1)) ∧ (decode cX1_turnSpan 5 = .ok (.iload_n 1, 1)) ∧ (decode cX1_turnSpan 6 = .ok (.aload_n 0, 1)) ∧ (decode cX1_turnSpan 7 = .ok (.getfield 13, 3)) ∧ (decode cX1_turnSpan 10 = .ok (.iload_n 1, 1)) ∧ (decode cX1_turnSpan 11 = .ok (.iaload, 1)) ∧ (decode cX1_turnSpan 12 = .ok (.ineg, 1)) ∧ (decode cX1_turnSpan 13 = .ok (.aload_n 0, 1)) ∧ (decode cX1_turnSpan 14 = .ok (.getfield 16, 3)) ∧ (decode cX1_turnSpan 17 = .ok (.iload_n 1, 1)) ∧ (decode cX1_turnSpan 18 = .ok (.iaload, 1)) ∧ (decode cX1_turnSpan 19 = .ok (.ineg, 1)) ∧ (decode cX1_turnSpan 20 = .ok (.aload_n 0, 1)) ∧ (decode cX1_turnSpan 21 = .ok (.getfield 19, 3)) := by decide +kernel
theorem dX1_turnSpan_0 : decode cX1_turnSpan 0 = .ok (.iload_n 1, 1) := db1_70.1
theorem dX1_turnSpan_1 : decode cX1_turnSpan 1 = .ok (.invokestatic 89, 3) := db1_70.2.1
theorem dX1_turnSpan_4 : decode cX1_turnSpan 4 = .ok (.aload_n 0, 1) := db1_70.2.2.1
theorem dX1_turnSpan_5 : decode cX1_turnSpan 5 = .ok (.iload_n 1, 1) := db1_70.2.2.2.1
theorem dX1_turnSpan_6 : decode cX1_turnSpan 6 = .ok (.aload_n 0, 1) := db1_70.2.2.2.2.1
theorem dX1_turnSpan_7 : decode cX1_turnSpan 7 = .ok (.getfield 13, 3) := db1_70.2.2.2.2.2.1
theorem dX1_turnSpan_10 : decode cX1_turnSpan 10 = .ok (.iload_n 1, 1) := db1_70.2.2.2.2.2.2.1
theorem dX1_turnSpan_11 : decode cX1_turnSpan 11 = .ok (.iaload, 1) := db1_70.2.2.2.2.2.2.2.1
theorem dX1_turnSpan_12 : decode cX1_turnSpan 12 = .ok (.ineg, 1) := db1_70.2.2.2.2.2.2.2.2.1
theorem dX1_turnSpan_13 : decode cX1_turnSpan 13 = .ok (.aload_n 0, 1) := db1_70.2.2.2.2.2.2.2.2.2.1
theorem dX1_turnSpan_14 : decode cX1_turnSpan 14 = .ok (.getfield 16, 3) := db1_70.2.2.2.2.2.2.2.2.2.2.1
theorem dX1_turnSpan_17 : decode cX1_turnSpan 17 = .ok (.iload_n 1, 1) := db1_70.2.2.2.2.2.2.2.2.2.2.2.1
theorem dX1_turnSpan_18 : decode cX1_turnSpan 18 = .ok (.iaload, 1) := db1_70.2.2.2.2.2.2.2.2.2.2.2.2.1
theorem dX1_turnSpan_19 : decode cX1_turnSpan 19 = .ok (.ineg, 1) := db1_70.2.2.2.2.2.2.2.2.2.2.2.2.2.1
theorem dX1_turnSpan_20 : decode cX1_turnSpan 20 = .ok (.aload_n 0, 1) := db1_70.2.2.2.2.2.2.2.2.2.2.2.2.2.2.1
theorem dX1_turnSpan_21 : decode cX1_turnSpan 21 = .ok (.getfield 19, 3) := db1_70.2.2.2.2.2.2.2.2.2.2.2.2.2.2.2
theorem db1_71 : (decode cX1_turnSpan 24 = .ok (.iload_n 1, 1)) ∧ (decode cX1_turnSpan 25 = .ok (.iaload, 1)) ∧ (decode cX1_turnSpan 26 = .ok (.ineg, 1)) ∧ (decode cX1_turnSpan 27 = .ok (.invokevirtual 104, 3)) ∧ (decode cX1_turnSpan 30 = .ok (.aload_n 0, 1)) ∧ (decode cX1_turnSpan 31 = .ok (.iload_n 1, 1)) ∧ (decode cX1_turnSpan 32 = .ok (.invokevirtual 92, 3)) ∧ (decode cX1_turnSpan 35 = .ok (.ireturn, 1)) := by decide +kernel
theorem dX1_turnSpan_24 : decode cX1_turnSpan 24 = .ok (.iload_n 1, 1) := db1_71.1
theorem dX1_turnSpan_25 : decode cX1_turnSpan 25 = .ok (.iaload, 1) := db1_71.2.1
theorem dX1_turnSpan_26 : decode cX1_turnSpan 26 = .ok (.ineg, 1) := db1_71.2.2.1
theorem dX1_turnSpan_27 : decode cX1_turnSpan 27 = .ok (.invokevirtual 104, 3) := db1_71.2.2.2.1
theorem dX1_turnSpan_30 : decode cX1_turnSpan 30 = .ok (.aload_n 0, 1) := db1_71.2.2.2.2.1
theorem dX1_turnSpan_31 : decode cX1_turnSpan 31 = .ok (.iload_n 1, 1) := db1_71.2.2.2.2.2.1
theorem dX1_turnSpan_32 : decode cX1_turnSpan 32 = .ok (.invokevirtual 92, 3) := db1_71.2.2.2.2.2.2.1
theorem dX1_turnSpan_35 : decode cX1_turnSpan 35 = .ok (.ireturn, 1) := db1_71.2.2.2.2.2.2.2
theorem db1_72 : (decode cX1_ofSpan 0 = .ok (.iload_n 1, 1)) ∧ (decode cX1_ofSpan 1 = .ok (.invokestatic 89, 3)) ∧ (decode cX1_ofSpan 4 = .ok (.iload_n 2, 1)) ∧ (decode cX1_ofSpan 5 = .ok (.iconst 0, 1)) ∧ (decode cX1_ofSpan 6 = .ok (.iconst 3, 1)) ∧ (decode cX1_ofSpan 7 = .ok (.invokestatic 43, 3)) ∧ (decode cX1_ofSpan 10 = .ok (.iload_n 2, 1)) ∧ (decode cX1_ofSpan 11 = .ok (.tableswitch 46 0 2 #[25, 32, 39], 25)) ∧ (decode cX1_ofSpan 36 = .ok (.aload_n 0, 1)) ∧ (decode cX1_ofSpan 37 = .ok (.getfield 13, 3)) ∧ (decode cX1_ofSpan 40 = .ok (.iload_n 1, 1)) ∧ (decode cX1_ofSpan 41 = .ok (.iaload, 1)) ∧ (decode cX1_ofSpan 42 = .ok (.ireturn, 1)) ∧ (decode cX1_ofSpan 43 = .ok (.aload_n 0, 1)) ∧ (decode cX1_ofSpan 44 = .ok (.getfield 16, 3)) ∧ (decode cX1_ofSpan 47 = .ok (.iload_n 1, 1)) := by decide +kernel
theorem dX1_ofSpan_0 : decode cX1_ofSpan 0 = .ok (.iload_n 1, 1) := db1_72.1
theorem dX1_ofSpan_1 : decode cX1_ofSpan 1 = .ok (.invokestatic 89, 3) := db1_72.2.1
theorem dX1_ofSpan_4 : decode cX1_ofSpan 4 = .ok (.iload_n 2, 1) := db1_72.2.2.1
theorem dX1_ofSpan_5 : decode cX1_ofSpan 5 = .ok (.iconst 0, 1) := db1_72.2.2.2.1
theorem dX1_ofSpan_6 : decode cX1_ofSpan 6 = .ok (.iconst 3, 1) := db1_72.2.2.2.2.1
theorem dX1_ofSpan_7 : decode cX1_ofSpan 7 = .ok (.invokestatic 43, 3) := db1_72.2.2.2.2.2.1
theorem dX1_ofSpan_10 : decode cX1_ofSpan 10 = .ok (.iload_n 2, 1) := db1_72.2.2.2.2.2.2.1
theorem dX1_ofSpan_11 : decode cX1_ofSpan 11 = .ok (.tableswitch 46 0 2 #[25, 32, 39], 25) := db1_72.2.2.2.2.2.2.2.1
theorem dX1_ofSpan_36 : decode cX1_ofSpan 36 = .ok (.aload_n 0, 1) := db1_72.2.2.2.2.2.2.2.2.1
theorem dX1_ofSpan_37 : decode cX1_ofSpan 37 = .ok (.getfield 13, 3) := db1_72.2.2.2.2.2.2.2.2.2.1
theorem dX1_ofSpan_40 : decode cX1_ofSpan 40 = .ok (.iload_n 1, 1) := db1_72.2.2.2.2.2.2.2.2.2.2.1
theorem dX1_ofSpan_41 : decode cX1_ofSpan 41 = .ok (.iaload, 1) := db1_72.2.2.2.2.2.2.2.2.2.2.2.1
theorem dX1_ofSpan_42 : decode cX1_ofSpan 42 = .ok (.ireturn, 1) := db1_72.2.2.2.2.2.2.2.2.2.2.2.2.1
theorem dX1_ofSpan_43 : decode cX1_ofSpan 43 = .ok (.aload_n 0, 1) := db1_72.2.2.2.2.2.2.2.2.2.2.2.2.2.1
theorem dX1_ofSpan_44 : decode cX1_ofSpan 44 = .ok (.getfield 16, 3) := db1_72.2.2.2.2.2.2.2.2.2.2.2.2.2.2.1
theorem dX1_ofSpan_47 : decode cX1_ofSpan 47 = .ok (.iload_n 1, 1) := db1_72.2.2.2.2.2.2.2.2.2.2.2.2.2.2.2
theorem db1_73 : (decode cX1_ofSpan 48 = .ok (.iaload, 1)) ∧ (decode cX1_ofSpan 49 = .ok (.ireturn, 1)) ∧ (decode cX1_ofSpan 50 = .ok (.aload_n 0, 1)) ∧ (decode cX1_ofSpan 51 = .ok (.getfield 19, 3)) ∧ (decode cX1_ofSpan 54 = .ok (.iload_n 1, 1)) ∧ (decode cX1_ofSpan 55 = .ok (.iaload, 1)) ∧ (decode cX1_ofSpan 56 = .ok (.ireturn, 1)) ∧ (decode cX1_ofSpan 57 = .ok (.aload_n 0, 1)) ∧ (decode cX1_ofSpan 58 = .ok (.iload_n 1, 1)) ∧ (decode cX1_ofSpan 59 = .ok (.invokevirtual 92, 3)) ∧ (decode cX1_ofSpan 62 = .ok (.ireturn, 1)) := by decide +kernel
theorem dX1_ofSpan_48 : decode cX1_ofSpan 48 = .ok (.iaload, 1) := db1_73.1
theorem dX1_ofSpan_49 : decode cX1_ofSpan 49 = .ok (.ireturn, 1) := db1_73.2.1
theorem dX1_ofSpan_50 : decode cX1_ofSpan 50 = .ok (.aload_n 0, 1) := db1_73.2.2.1
theorem dX1_ofSpan_51 : decode cX1_ofSpan 51 = .ok (.getfield 19, 3) := db1_73.2.2.2.1
theorem dX1_ofSpan_54 : decode cX1_ofSpan 54 = .ok (.iload_n 1, 1) := db1_73.2.2.2.2.1
theorem dX1_ofSpan_55 : decode cX1_ofSpan 55 = .ok (.iaload, 1) := db1_73.2.2.2.2.2.1
theorem dX1_ofSpan_56 : decode cX1_ofSpan 56 = .ok (.ireturn, 1) := db1_73.2.2.2.2.2.2.1
theorem dX1_ofSpan_57 : decode cX1_ofSpan 57 = .ok (.aload_n 0, 1) := db1_73.2.2.2.2.2.2.2.1
theorem dX1_ofSpan_58 : decode cX1_ofSpan 58 = .ok (.iload_n 1, 1) := db1_73.2.2.2.2.2.2.2.2.1
theorem dX1_ofSpan_59 : decode cX1_ofSpan 59 = .ok (.invokevirtual 92, 3) := db1_73.2.2.2.2.2.2.2.2.2.1
theorem dX1_ofSpan_62 : decode cX1_ofSpan 62 = .ok (.ireturn, 1) := db1_73.2.2.2.2.2.2.2.2.2.2
theorem db1_74 : (decode cX1_isKept 0 = .ok (.iload_n 1, 1)) ∧ (decode cX1_isKept 1 = .ok (.invokestatic 39, 3)) ∧ (decode cX1_isKept 4 = .ok (.iload_n 2, 1)) ∧ (decode cX1_isKept 5 = .ok (.invokestatic 78, 3)) ∧ (decode cX1_isKept 8 = .ok (.aload_n 0, 1)) ∧ (decode cX1_isKept 9 = .ok (.getfield 9, 3)) ∧ (decode cX1_isKept 12 = .ok (.iload_n 1, 1)) ∧ (decode cX1_isKept 13 = .ok (.iaload, 1)) ∧ (decode cX1_isKept 14 = .ok (.iload_n 2, 1)) ∧ (decode cX1_isKept 15 = .ok (.invokestatic 118, 3)) ∧ (decode cX1_isKept 18 = .ok (.ifCond .ne 7, 3)) ∧ (decode cX1_isKept 21 = .ok (.iconst 1, 1)) ∧ (decode cX1_isKept 22 = .ok (.goto 4, 3)) ∧ (decode cX1_isKept 25 = .ok (.iconst 0, 1)) ∧ (decode cX1_isKept 26 = .ok (.ireturn, 1)) := by decide +kernel
theorem dX1_isKept_0 : decode cX1_isKept 0 = .ok (.iload_n 1, 1) := db1_74.1
theorem dX1_isKept_1 : decode cX1_isKept 1 = .ok (.invokestatic 39, 3) := db1_74.2.1
theorem dX1_isKept_4 : decode cX1_isKept 4 = .ok (.iload_n 2, 1) := db1_74.2.2.1
theorem dX1_isKept_5 : decode cX1_isKept 5 = .ok (.invokestatic 78, 3) := db1_74.2.2.2.1
theorem dX1_isKept_8 : decode cX1_isKept 8 = .ok (.aload_n 0, 1) := db1_74.2.2.2.2.1
theorem dX1_isKept_9 : decode cX1_isKept 9 = .ok (.getfield 9, 3) := db1_74.2.2.2.2.2.1
theorem dX1_isKept_12 : decode cX1_isKept 12 = .ok (.iload_n 1, 1) := db1_74.2.2.2.2.2.2.1
theorem dX1_isKept_13 : decode cX1_isKept 13 = .ok (.iaload, 1) := db1_74.2.2.2.2.2.2.2.1
theorem dX1_isKept_14 : decode cX1_isKept 14 = .ok (.iload_n 2, 1) := db1_74.2.2.2.2.2.2.2.2.1
theorem dX1_isKept_15 : decode cX1_isKept 15 = .ok (.invokestatic 118, 3) := db1_74.2.2.2.2.2.2.2.2.2.1
theorem dX1_isKept_18 : decode cX1_isKept 18 = .ok (.ifCond .ne 7, 3) := db1_74.2.2.2.2.2.2.2.2.2.2.1
theorem dX1_isKept_21 : decode cX1_isKept 21 = .ok (.iconst 1, 1) := db1_74.2.2.2.2.2.2.2.2.2.2.2.1
theorem dX1_isKept_22 : decode cX1_isKept 22 = .ok (.goto 4, 3) := db1_74.2.2.2.2.2.2.2.2.2.2.2.2.1
theorem dX1_isKept_25 : decode cX1_isKept 25 = .ok (.iconst 0, 1) := db1_74.2.2.2.2.2.2.2.2.2.2.2.2.2.1
theorem dX1_isKept_26 : decode cX1_isKept 26 = .ok (.ireturn, 1) := db1_74.2.2.2.2.2.2.2.2.2.2.2.2.2.2
theorem db1_75 : (decode cX1_loss 0 = .ok (.iload_n 1, 1)) ∧ (decode cX1_loss 1 = .ok (.invokestatic 39, 3)) ∧ (decode cX1_loss 4 = .ok (.iload_n 2, 1)) ∧ (decode cX1_loss 5 = .ok (.invokestatic 78, 3)) ∧ (decode cX1_loss 8 = .ok (.aload_n 0, 1)) ∧ (decode cX1_loss 9 = .ok (.getfield 9, 3)) ∧ (decode cX1_loss 12 = .ok (.iload_n 1, 1)) ∧ (decode cX1_loss 13 = .ok (.iaload, 1)) ∧ (decode cX1_loss 14 = .ok (.iload_n 2, 1)) ∧ (decode cX1_loss 15 = .ok (.invokestatic 118, 3)) ∧ (decode cX1_loss 18 = .ok (.ireturn, 1)) := by decide +kernel
theorem dX1_loss_0 : decode cX1_loss 0 = .ok (.iload_n 1, 1) := db1_75.1
theorem dX1_loss_1 : decode cX1_loss 1 = .ok (.invokestatic 39, 3) := db1_75.2.1
theorem dX1_loss_4 : decode cX1_loss 4 = .ok (.iload_n 2, 1) := db1_75.2.2.1
theorem dX1_loss_5 : decode cX1_loss 5 = .ok (.invokestatic 78, 3) := db1_75.2.2.2.1
theorem dX1_loss_8 : decode cX1_loss 8 = .ok (.aload_n 0, 1) := db1_75.2.2.2.2.1
theorem dX1_loss_9 : decode cX1_loss 9 = .ok (.getfield 9, 3) := db1_75.2.2.2.2.2.1
theorem dX1_loss_12 : decode cX1_loss 12 = .ok (.iload_n 1, 1) := db1_75.2.2.2.2.2.2.1
theorem dX1_loss_13 : decode cX1_loss 13 = .ok (.iaload, 1) := db1_75.2.2.2.2.2.2.2.1
theorem dX1_loss_14 : decode cX1_loss 14 = .ok (.iload_n 2, 1) := db1_75.2.2.2.2.2.2.2.2.1
theorem dX1_loss_15 : decode cX1_loss 15 = .ok (.invokestatic 118, 3) := db1_75.2.2.2.2.2.2.2.2.2.1
theorem dX1_loss_18 : decode cX1_loss 18 = .ok (.ireturn, 1) := db1_75.2.2.2.2.2.2.2.2.2.2
theorem db1_76 : (decode cX1_leadsBack 0 = .ok (.iload_n 1, 1)) ∧ (decode cX1_leadsBack 1 = .ok (.invokestatic 39, 3)) ∧ (decode cX1_leadsBack 4 = .ok (.iload_n 2, 1)) ∧ (decode cX1_leadsBack 5 = .ok (.invokestatic 78, 3)) ∧ (decode cX1_leadsBack 8 = .ok (.aload_n 0, 1)) ∧ (decode cX1_leadsBack 9 = .ok (.getfield 9, 3)) ∧ (decode cX1_leadsBack 12 = .ok (.iload_n 1, 1)) ∧ (decode cX1_leadsBack 13 = .ok (.iaload, 1)) ∧ (decode cX1_leadsBack 14 = .ok (.iload_n 2, 1)) ∧ (decode cX1_leadsBack 15 = .ok (.invokestatic 121, 3)) ∧ (decode cX1_leadsBack 18 = .ok (.ireturn, 1)) := by decide +kernel
theorem dX1_leadsBack_0 : decode cX1_leadsBack 0 = .ok (.iload_n 1, 1) := db1_76.1
theorem dX1_leadsBack_1 : decode cX1_leadsBack 1 = .ok (.invokestatic 39, 3) := db1_76.2.1
theorem dX1_leadsBack_4 : decode cX1_leadsBack 4 = .ok (.iload_n 2, 1) := db1_76.2.2.1
theorem dX1_leadsBack_5 : decode cX1_leadsBack 5 = .ok (.invokestatic 78, 3) := db1_76.2.2.2.1
theorem dX1_leadsBack_8 : decode cX1_leadsBack 8 = .ok (.aload_n 0, 1) := db1_76.2.2.2.2.1
theorem dX1_leadsBack_9 : decode cX1_leadsBack 9 = .ok (.getfield 9, 3) := db1_76.2.2.2.2.2.1
theorem dX1_leadsBack_12 : decode cX1_leadsBack 12 = .ok (.iload_n 1, 1) := db1_76.2.2.2.2.2.2.1
theorem dX1_leadsBack_13 : decode cX1_leadsBack 13 = .ok (.iaload, 1) := db1_76.2.2.2.2.2.2.2.1
theorem dX1_leadsBack_14 : decode cX1_leadsBack 14 = .ok (.iload_n 2, 1) := db1_76.2.2.2.2.2.2.2.2.1
theorem dX1_leadsBack_15 : decode cX1_leadsBack 15 = .ok (.invokestatic 121, 3) := db1_76.2.2.2.2.2.2.2.2.2.1
theorem dX1_leadsBack_18 : decode cX1_leadsBack 18 = .ok (.ireturn, 1) := db1_76.2.2.2.2.2.2.2.2.2.2
theorem db1_77 : (decode cX1_twice 0 = .ok (.iload_n 1, 1)) ∧ (decode cX1_twice 1 = .ok (.invokestatic 39, 3)) ∧ (decode cX1_twice 4 = .ok (.iload_n 2, 1)) ∧ (decode cX1_twice 5 = .ok (.invokestatic 78, 3)) ∧ (decode cX1_twice 8 = .ok (.iload_n 3, 1)) ∧ (decode cX1_twice 9 = .ok (.invokestatic 78, 3)) ∧ (decode cX1_twice 12 = .ok (.aload_n 0, 1)) ∧ (decode cX1_twice 13 = .ok (.getfield 9, 3)) ∧ (decode cX1_twice 16 = .ok (.iload_n 1, 1)) ∧ (decode cX1_twice 17 = .ok (.iaload, 1)) ∧ (decode cX1_twice 18 = .ok (.istore 4, 2)) ∧ (decode cX1_twice 20 = .ok (.iload 4, 2)) ∧ (decode cX1_twice 22 = .ok (.iload_n 2, 1)) ∧ (decode cX1_twice 23 = .ok (.iload_n 3, 1)) ∧ (decode cX1_twice 24 = .ok (.iadd, 1)) ∧ (decode cX1_twice 25 = .ok (.invokestatic 81, 3)) := by decide +kernel
theorem dX1_twice_0 : decode cX1_twice 0 = .ok (.iload_n 1, 1) := db1_77.1
theorem dX1_twice_1 : decode cX1_twice 1 = .ok (.invokestatic 39, 3) := db1_77.2.1
theorem dX1_twice_4 : decode cX1_twice 4 = .ok (.iload_n 2, 1) := db1_77.2.2.1
theorem dX1_twice_5 : decode cX1_twice 5 = .ok (.invokestatic 78, 3) := db1_77.2.2.2.1
theorem dX1_twice_8 : decode cX1_twice 8 = .ok (.iload_n 3, 1) := db1_77.2.2.2.2.1
theorem dX1_twice_9 : decode cX1_twice 9 = .ok (.invokestatic 78, 3) := db1_77.2.2.2.2.2.1
theorem dX1_twice_12 : decode cX1_twice 12 = .ok (.aload_n 0, 1) := db1_77.2.2.2.2.2.2.1
theorem dX1_twice_13 : decode cX1_twice 13 = .ok (.getfield 9, 3) := db1_77.2.2.2.2.2.2.2.1
theorem dX1_twice_16 : decode cX1_twice 16 = .ok (.iload_n 1, 1) := db1_77.2.2.2.2.2.2.2.2.1
theorem dX1_twice_17 : decode cX1_twice 17 = .ok (.iaload, 1) := db1_77.2.2.2.2.2.2.2.2.2.1
theorem dX1_twice_18 : decode cX1_twice 18 = .ok (.istore 4, 2) := db1_77.2.2.2.2.2.2.2.2.2.2.1
theorem dX1_twice_20 : decode cX1_twice 20 = .ok (.iload 4, 2) := db1_77.2.2.2.2.2.2.2.2.2.2.2.1
theorem dX1_twice_22 : decode cX1_twice 22 = .ok (.iload_n 2, 1) := db1_77.2.2.2.2.2.2.2.2.2.2.2.2.1
theorem dX1_twice_23 : decode cX1_twice 23 = .ok (.iload_n 3, 1) := db1_77.2.2.2.2.2.2.2.2.2.2.2.2.2.1
theorem dX1_twice_24 : decode cX1_twice 24 = .ok (.iadd, 1) := db1_77.2.2.2.2.2.2.2.2.2.2.2.2.2.2.1
theorem dX1_twice_25 : decode cX1_twice 25 = .ok (.invokestatic 81, 3) := db1_77.2.2.2.2.2.2.2.2.2.2.2.2.2.2.2
theorem db1_78 : (decode cX1_twice 28 = .ok (.istore 5, 2)) ∧ (decode cX1_twice 30 = .ok (.iload 5, 2)) ∧ (decode cX1_twice 32 = .ok (.iload 4, 2)) ∧ (decode cX1_twice 34 = .ok (.iload_n 2, 1)) ∧ (decode cX1_twice 35 = .ok (.invokestatic 81, 3)) ∧ (decode cX1_twice 38 = .ok (.iload_n 3, 1)) ∧ (decode cX1_twice 39 = .ok (.invokestatic 81, 3)) ∧ (decode cX1_twice 42 = .ok (.isub, 1)) ∧ (decode cX1_twice 43 = .ok (.ireturn, 1)) := by decide +kernel
theorem dX1_twice_28 : decode cX1_twice 28 = .ok (.istore 5, 2) := db1_78.1
theorem dX1_twice_30 : decode cX1_twice 30 = .ok (.iload 5, 2) := db1_78.2.1
theorem dX1_twice_32 : decode cX1_twice 32 = .ok (.iload 4, 2) := db1_78.2.2.1
theorem dX1_twice_34 : decode cX1_twice 34 = .ok (.iload_n 2, 1) := db1_78.2.2.2.1
theorem dX1_twice_35 : decode cX1_twice 35 = .ok (.invokestatic 81, 3) := db1_78.2.2.2.2.1
theorem dX1_twice_38 : decode cX1_twice 38 = .ok (.iload_n 3, 1) := db1_78.2.2.2.2.2.1
theorem dX1_twice_39 : decode cX1_twice 39 = .ok (.invokestatic 81, 3) := db1_78.2.2.2.2.2.2.1
theorem dX1_twice_42 : decode cX1_twice 42 = .ok (.isub, 1) := db1_78.2.2.2.2.2.2.2.1
theorem dX1_twice_43 : decode cX1_twice 43 = .ok (.ireturn, 1) := db1_78.2.2.2.2.2.2.2.2
theorem db1_79 : (decode cX1_gap 0 = .ok (.iload_n 1, 1)) ∧ (decode cX1_gap 1 = .ok (.invokestatic 39, 3)) ∧ (decode cX1_gap 4 = .ok (.iload_n 2, 1)) ∧ (decode cX1_gap 5 = .ok (.invokestatic 78, 3)) ∧ (decode cX1_gap 8 = .ok (.iload_n 3, 1)) ∧ (decode cX1_gap 9 = .ok (.ldc 102, 2)) ∧ (decode cX1_gap 11 = .ok (.ldc 103, 2)) ∧ (decode cX1_gap 13 = .ok (.invokestatic 43, 3)) ∧ (decode cX1_gap 16 = .ok (.aload_n 0, 1)) ∧ (decode cX1_gap 17 = .ok (.getfield 9, 3)) ∧ (decode cX1_gap 20 = .ok (.iload_n 1, 1)) ∧ (decode cX1_gap 21 = .ok (.iaload, 1)) ∧ (decode cX1_gap 22 = .ok (.istore 4, 2)) ∧ (decode cX1_gap 24 = .ok (.iload 4, 2)) ∧ (decode cX1_gap 26 = .ok (.iload_n 2, 1)) ∧ (decode cX1_gap 27 = .ok (.iload_n 3, 1)) := by decide +kernel
theorem dX1_gap_0 : decode cX1_gap 0 = .ok (.iload_n 1, 1) := db1_79.1
theorem dX1_gap_1 : decode cX1_gap 1 = .ok (.invokestatic 39, 3) := db1_79.2.1
theorem dX1_gap_4 : decode cX1_gap 4 = .ok (.iload_n 2, 1) := db1_79.2.2.1
theorem dX1_gap_5 : decode cX1_gap 5 = .ok (.invokestatic 78, 3) := db1_79.2.2.2.1
theorem dX1_gap_8 : decode cX1_gap 8 = .ok (.iload_n 3, 1) := db1_79.2.2.2.2.1
theorem dX1_gap_9 : decode cX1_gap 9 = .ok (.ldc 102, 2) := db1_79.2.2.2.2.2.1
theorem dX1_gap_11 : decode cX1_gap 11 = .ok (.ldc 103, 2) := db1_79.2.2.2.2.2.2.1
theorem dX1_gap_13 : decode cX1_gap 13 = .ok (.invokestatic 43, 3) := db1_79.2.2.2.2.2.2.2.1
theorem dX1_gap_16 : decode cX1_gap 16 = .ok (.aload_n 0, 1) := db1_79.2.2.2.2.2.2.2.2.1
theorem dX1_gap_17 : decode cX1_gap 17 = .ok (.getfield 9, 3) := db1_79.2.2.2.2.2.2.2.2.2.1
theorem dX1_gap_20 : decode cX1_gap 20 = .ok (.iload_n 1, 1) := db1_79.2.2.2.2.2.2.2.2.2.2.1
theorem dX1_gap_21 : decode cX1_gap 21 = .ok (.iaload, 1) := db1_79.2.2.2.2.2.2.2.2.2.2.2.1
theorem dX1_gap_22 : decode cX1_gap 22 = .ok (.istore 4, 2) := db1_79.2.2.2.2.2.2.2.2.2.2.2.2.1
theorem dX1_gap_24 : decode cX1_gap 24 = .ok (.iload 4, 2) := db1_79.2.2.2.2.2.2.2.2.2.2.2.2.2.1
theorem dX1_gap_26 : decode cX1_gap 26 = .ok (.iload_n 2, 1) := db1_79.2.2.2.2.2.2.2.2.2.2.2.2.2.2.1
theorem dX1_gap_27 : decode cX1_gap 27 = .ok (.iload_n 3, 1) := db1_79.2.2.2.2.2.2.2.2.2.2.2.2.2.2.2
theorem db1_80 : (decode cX1_gap 28 = .ok (.invokestatic 95, 3)) ∧ (decode cX1_gap 31 = .ok (.iload 4, 2)) ∧ (decode cX1_gap 33 = .ok (.iload_n 2, 1)) ∧ (decode cX1_gap 34 = .ok (.iload_n 3, 1)) ∧ (decode cX1_gap 35 = .ok (.invokestatic 99, 3)) ∧ (decode cX1_gap 38 = .ok (.isub, 1)) ∧ (decode cX1_gap 39 = .ok (.ireturn, 1)) := by decide +kernel
theorem dX1_gap_28 : decode cX1_gap 28 = .ok (.invokestatic 95, 3) := db1_80.1
theorem dX1_gap_31 : decode cX1_gap 31 = .ok (.iload 4, 2) := db1_80.2.1
theorem dX1_gap_33 : decode cX1_gap 33 = .ok (.iload_n 2, 1) := db1_80.2.2.1
theorem dX1_gap_34 : decode cX1_gap 34 = .ok (.iload_n 3, 1) := db1_80.2.2.2.1
theorem dX1_gap_35 : decode cX1_gap 35 = .ok (.invokestatic 99, 3) := db1_80.2.2.2.2.1
theorem dX1_gap_38 : decode cX1_gap 38 = .ok (.isub, 1) := db1_80.2.2.2.2.2.1
theorem dX1_gap_39 : decode cX1_gap 39 = .ok (.ireturn, 1) := db1_80.2.2.2.2.2.2
theorem db1_81 : (decode cX1_lowest 0 = .ok (.iload_n 1, 1)) ∧ (decode cX1_lowest 1 = .ok (.invokestatic 39, 3)) ∧ (decode cX1_lowest 4 = .ok (.iload_n 2, 1)) ∧ (decode cX1_lowest 5 = .ok (.sipush (-1200), 3)) ∧ (decode cX1_lowest 8 = .ok (.sipush 1200, 3)) ∧ (decode cX1_lowest 11 = .ok (.invokestatic 43, 3)) ∧ (decode cX1_lowest 14 = .ok (.iload_n 3, 1)) ∧ (decode cX1_lowest 15 = .ok (.iconst 0, 1)) ∧ (decode cX1_lowest 16 = .ok (.bipush 48, 2)) ∧ (decode cX1_lowest 18 = .ok (.invokestatic 43, 3)) ∧ (decode cX1_lowest 21 = .ok (.aload_n 0, 1)) ∧ (decode cX1_lowest 22 = .ok (.getfield 9, 3)) ∧ (decode cX1_lowest 25 = .ok (.iload_n 1, 1)) ∧ (decode cX1_lowest 26 = .ok (.iaload, 1)) ∧ (decode cX1_lowest 27 = .ok (.istore 4, 2)) ∧ (decode cX1_lowest 29 = .ok (.iconst 0, 1)) := by decide +kernel
theorem dX1_lowest_0 : decode cX1_lowest 0 = .ok (.iload_n 1, 1) := db1_81.1
theorem dX1_lowest_1 : decode cX1_lowest 1 = .ok (.invokestatic 39, 3) := db1_81.2.1
theorem dX1_lowest_4 : decode cX1_lowest 4 = .ok (.iload_n 2, 1) := db1_81.2.2.1
theorem dX1_lowest_5 : decode cX1_lowest 5 = .ok (.sipush (-1200), 3) := db1_81.2.2.2.1
theorem dX1_lowest_8 : decode cX1_lowest 8 = .ok (.sipush 1200, 3) := db1_81.2.2.2.2.1
theorem dX1_lowest_11 : decode cX1_lowest 11 = .ok (.invokestatic 43, 3) := db1_81.2.2.2.2.2.1
theorem dX1_lowest_14 : decode cX1_lowest 14 = .ok (.iload_n 3, 1) := db1_81.2.2.2.2.2.2.1
theorem dX1_lowest_15 : decode cX1_lowest 15 = .ok (.iconst 0, 1) := db1_81.2.2.2.2.2.2.2.1
theorem dX1_lowest_16 : decode cX1_lowest 16 = .ok (.bipush 48, 2) := db1_81.2.2.2.2.2.2.2.2.1
theorem dX1_lowest_18 : decode cX1_lowest 18 = .ok (.invokestatic 43, 3) := db1_81.2.2.2.2.2.2.2.2.2.1
theorem dX1_lowest_21 : decode cX1_lowest 21 = .ok (.aload_n 0, 1) := db1_81.2.2.2.2.2.2.2.2.2.2.1
theorem dX1_lowest_22 : decode cX1_lowest 22 = .ok (.getfield 9, 3) := db1_81.2.2.2.2.2.2.2.2.2.2.2.1
theorem dX1_lowest_25 : decode cX1_lowest 25 = .ok (.iload_n 1, 1) := db1_81.2.2.2.2.2.2.2.2.2.2.2.2.1
theorem dX1_lowest_26 : decode cX1_lowest 26 = .ok (.iaload, 1) := db1_81.2.2.2.2.2.2.2.2.2.2.2.2.2.1
theorem dX1_lowest_27 : decode cX1_lowest 27 = .ok (.istore 4, 2) := db1_81.2.2.2.2.2.2.2.2.2.2.2.2.2.2.1
theorem dX1_lowest_29 : decode cX1_lowest 29 = .ok (.iconst 0, 1) := db1_81.2.2.2.2.2.2.2.2.2.2.2.2.2.2.2
theorem db1_82 : (decode cX1_lowest 30 = .ok (.istore 5, 2)) ∧ (decode cX1_lowest 32 = .ok (.iload 5, 2)) ∧ (decode cX1_lowest 34 = .ok (.iload_n 3, 1)) ∧ (decode cX1_lowest 35 = .ok (.if_icmp .ge 17, 3)) ∧ (decode cX1_lowest 38 = .ok (.iload 4, 2)) ∧ (decode cX1_lowest 40 = .ok (.iload_n 2, 1)) ∧ (decode cX1_lowest 41 = .ok (.invokestatic 81, 3)) ∧ (decode cX1_lowest 44 = .ok (.istore 4, 2)) ∧ (decode cX1_lowest 46 = .ok (.iinc 5 1, 3)) ∧ (decode cX1_lowest 49 = .ok (.goto (-17), 3)) ∧ (decode cX1_lowest 52 = .ok (.iload 4, 2)) ∧ (decode cX1_lowest 54 = .ok (.invokestatic 69, 3)) ∧ (decode cX1_lowest 57 = .ok (.ireturn, 1)) := by decide +kernel
theorem dX1_lowest_30 : decode cX1_lowest 30 = .ok (.istore 5, 2) := db1_82.1
theorem dX1_lowest_32 : decode cX1_lowest 32 = .ok (.iload 5, 2) := db1_82.2.1
theorem dX1_lowest_34 : decode cX1_lowest 34 = .ok (.iload_n 3, 1) := db1_82.2.2.1
theorem dX1_lowest_35 : decode cX1_lowest 35 = .ok (.if_icmp .ge 17, 3) := db1_82.2.2.2.1
theorem dX1_lowest_38 : decode cX1_lowest 38 = .ok (.iload 4, 2) := db1_82.2.2.2.2.1
theorem dX1_lowest_40 : decode cX1_lowest 40 = .ok (.iload_n 2, 1) := db1_82.2.2.2.2.2.1
theorem dX1_lowest_41 : decode cX1_lowest 41 = .ok (.invokestatic 81, 3) := db1_82.2.2.2.2.2.2.1
theorem dX1_lowest_44 : decode cX1_lowest 44 = .ok (.istore 4, 2) := db1_82.2.2.2.2.2.2.2.1
theorem dX1_lowest_46 : decode cX1_lowest 46 = .ok (.iinc 5 1, 3) := db1_82.2.2.2.2.2.2.2.2.1
theorem dX1_lowest_49 : decode cX1_lowest 49 = .ok (.goto (-17), 3) := db1_82.2.2.2.2.2.2.2.2.2.1
theorem dX1_lowest_52 : decode cX1_lowest 52 = .ok (.iload 4, 2) := db1_82.2.2.2.2.2.2.2.2.2.2.1
theorem dX1_lowest_54 : decode cX1_lowest 54 = .ok (.invokestatic 69, 3) := db1_82.2.2.2.2.2.2.2.2.2.2.2.1
theorem dX1_lowest_57 : decode cX1_lowest 57 = .ok (.ireturn, 1) := db1_82.2.2.2.2.2.2.2.2.2.2.2.2
theorem db1_83 : (decode cX1_met 0 = .ok (.iload_n 1, 1)) ∧ (decode cX1_met 1 = .ok (.invokestatic 39, 3)) ∧ (decode cX1_met 4 = .ok (.iload_n 2, 1)) ∧ (decode cX1_met 5 = .ok (.sipush (-1200), 3)) ∧ (decode cX1_met 8 = .ok (.sipush 1200, 3)) ∧ (decode cX1_met 11 = .ok (.invokestatic 43, 3)) ∧ (decode cX1_met 14 = .ok (.iload_n 3, 1)) ∧ (decode cX1_met 15 = .ok (.iconst 0, 1)) ∧ (decode cX1_met 16 = .ok (.bipush 48, 2)) ∧ (decode cX1_met 18 = .ok (.invokestatic 43, 3)) ∧ (decode cX1_met 21 = .ok (.aload_n 0, 1)) ∧ (decode cX1_met 22 = .ok (.getfield 9, 3)) ∧ (decode cX1_met 25 = .ok (.iload_n 1, 1)) ∧ (decode cX1_met 26 = .ok (.iaload, 1)) ∧ (decode cX1_met 27 = .ok (.istore 4, 2)) ∧ (decode cX1_met 29 = .ok (.iload 4, 2)) := by decide +kernel
theorem dX1_met_0 : decode cX1_met 0 = .ok (.iload_n 1, 1) := db1_83.1
theorem dX1_met_1 : decode cX1_met 1 = .ok (.invokestatic 39, 3) := db1_83.2.1
theorem dX1_met_4 : decode cX1_met 4 = .ok (.iload_n 2, 1) := db1_83.2.2.1
theorem dX1_met_5 : decode cX1_met 5 = .ok (.sipush (-1200), 3) := db1_83.2.2.2.1
theorem dX1_met_8 : decode cX1_met 8 = .ok (.sipush 1200, 3) := db1_83.2.2.2.2.1
theorem dX1_met_11 : decode cX1_met 11 = .ok (.invokestatic 43, 3) := db1_83.2.2.2.2.2.1
theorem dX1_met_14 : decode cX1_met 14 = .ok (.iload_n 3, 1) := db1_83.2.2.2.2.2.2.1
theorem dX1_met_15 : decode cX1_met 15 = .ok (.iconst 0, 1) := db1_83.2.2.2.2.2.2.2.1
theorem dX1_met_16 : decode cX1_met 16 = .ok (.bipush 48, 2) := db1_83.2.2.2.2.2.2.2.2.1
theorem dX1_met_18 : decode cX1_met 18 = .ok (.invokestatic 43, 3) := db1_83.2.2.2.2.2.2.2.2.2.1
theorem dX1_met_21 : decode cX1_met 21 = .ok (.aload_n 0, 1) := db1_83.2.2.2.2.2.2.2.2.2.2.1
theorem dX1_met_22 : decode cX1_met 22 = .ok (.getfield 9, 3) := db1_83.2.2.2.2.2.2.2.2.2.2.2.1
theorem dX1_met_25 : decode cX1_met 25 = .ok (.iload_n 1, 1) := db1_83.2.2.2.2.2.2.2.2.2.2.2.2.1
theorem dX1_met_26 : decode cX1_met 26 = .ok (.iaload, 1) := db1_83.2.2.2.2.2.2.2.2.2.2.2.2.2.1
theorem dX1_met_27 : decode cX1_met 27 = .ok (.istore 4, 2) := db1_83.2.2.2.2.2.2.2.2.2.2.2.2.2.2.1
theorem dX1_met_29 : decode cX1_met 29 = .ok (.iload 4, 2) := db1_83.2.2.2.2.2.2.2.2.2.2.2.2.2.2.2
theorem db1_84 : (decode cX1_met 31 = .ok (.invokestatic 69, 3)) ∧ (decode cX1_met 34 = .ok (.istore 5, 2)) ∧ (decode cX1_met 36 = .ok (.aload_n 0, 1)) ∧ (decode cX1_met 37 = .ok (.getfield 25, 3)) ∧ (decode cX1_met 40 = .ok (.iconst 0, 1)) ∧ (decode cX1_met 41 = .ok (.invokevirtual 125, 3)) ∧ (decode cX1_met 44 = .ok (.aload_n 0, 1)) ∧ (decode cX1_met 45 = .ok (.getfield 25, 3)) ∧ (decode cX1_met 48 = .ok (.iload 5, 2)) ∧ (decode cX1_met 50 = .ok (.invokevirtual 128, 3)) ∧ (decode cX1_met 53 = .ok (.pop, 1)) ∧ (decode cX1_met 54 = .ok (.iconst 0, 1)) ∧ (decode cX1_met 55 = .ok (.istore 6, 2)) ∧ (decode cX1_met 57 = .ok (.iload 6, 2)) ∧ (decode cX1_met 59 = .ok (.iload_n 3, 1)) ∧ (decode cX1_met 60 = .ok (.if_icmp .ge 50, 3)) := by decide +kernel
theorem dX1_met_31 : decode cX1_met 31 = .ok (.invokestatic 69, 3) := db1_84.1
theorem dX1_met_34 : decode cX1_met 34 = .ok (.istore 5, 2) := db1_84.2.1
theorem dX1_met_36 : decode cX1_met 36 = .ok (.aload_n 0, 1) := db1_84.2.2.1
theorem dX1_met_37 : decode cX1_met 37 = .ok (.getfield 25, 3) := db1_84.2.2.2.1
theorem dX1_met_40 : decode cX1_met 40 = .ok (.iconst 0, 1) := db1_84.2.2.2.2.1
theorem dX1_met_41 : decode cX1_met 41 = .ok (.invokevirtual 125, 3) := db1_84.2.2.2.2.2.1
theorem dX1_met_44 : decode cX1_met 44 = .ok (.aload_n 0, 1) := db1_84.2.2.2.2.2.2.1
theorem dX1_met_45 : decode cX1_met 45 = .ok (.getfield 25, 3) := db1_84.2.2.2.2.2.2.2.1
theorem dX1_met_48 : decode cX1_met 48 = .ok (.iload 5, 2) := db1_84.2.2.2.2.2.2.2.2.1
theorem dX1_met_50 : decode cX1_met 50 = .ok (.invokevirtual 128, 3) := db1_84.2.2.2.2.2.2.2.2.2.1
theorem dX1_met_53 : decode cX1_met 53 = .ok (.pop, 1) := db1_84.2.2.2.2.2.2.2.2.2.2.1
theorem dX1_met_54 : decode cX1_met 54 = .ok (.iconst 0, 1) := db1_84.2.2.2.2.2.2.2.2.2.2.2.1
theorem dX1_met_55 : decode cX1_met 55 = .ok (.istore 6, 2) := db1_84.2.2.2.2.2.2.2.2.2.2.2.2.1
theorem dX1_met_57 : decode cX1_met 57 = .ok (.iload 6, 2) := db1_84.2.2.2.2.2.2.2.2.2.2.2.2.2.1
theorem dX1_met_59 : decode cX1_met 59 = .ok (.iload_n 3, 1) := db1_84.2.2.2.2.2.2.2.2.2.2.2.2.2.2.1
theorem dX1_met_60 : decode cX1_met 60 = .ok (.if_icmp .ge 50, 3) := db1_84.2.2.2.2.2.2.2.2.2.2.2.2.2.2.2
theorem db1_85 : (decode cX1_met 63 = .ok (.iload 4, 2)) ∧ (decode cX1_met 65 = .ok (.iload_n 2, 1)) ∧ (decode cX1_met 66 = .ok (.invokestatic 81, 3)) ∧ (decode cX1_met 69 = .ok (.istore 4, 2)) ∧ (decode cX1_met 71 = .ok (.iload 4, 2)) ∧ (decode cX1_met 73 = .ok (.invokestatic 69, 3)) ∧ (decode cX1_met 76 = .ok (.istore 7, 2)) ∧ (decode cX1_met 78 = .ok (.iload 7, 2)) ∧ (decode cX1_met 80 = .ok (.iload 5, 2)) ∧ (decode cX1_met 82 = .ok (.if_icmp .eq 22, 3)) ∧ (decode cX1_met 85 = .ok (.aload_n 0, 1)) ∧ (decode cX1_met 86 = .ok (.getfield 25, 3)) ∧ (decode cX1_met 89 = .ok (.bipush 32, 2)) ∧ (decode cX1_met 91 = .ok (.invokevirtual 132, 3)) ∧ (decode cX1_met 94 = .ok (.iload 7, 2)) ∧ (decode cX1_met 96 = .ok (.invokevirtual 128, 3)) := by decide +kernel
theorem dX1_met_63 : decode cX1_met 63 = .ok (.iload 4, 2) := db1_85.1
theorem dX1_met_65 : decode cX1_met 65 = .ok (.iload_n 2, 1) := db1_85.2.1
theorem dX1_met_66 : decode cX1_met 66 = .ok (.invokestatic 81, 3) := db1_85.2.2.1
theorem dX1_met_69 : decode cX1_met 69 = .ok (.istore 4, 2) := db1_85.2.2.2.1
theorem dX1_met_71 : decode cX1_met 71 = .ok (.iload 4, 2) := db1_85.2.2.2.2.1
theorem dX1_met_73 : decode cX1_met 73 = .ok (.invokestatic 69, 3) := db1_85.2.2.2.2.2.1
theorem dX1_met_76 : decode cX1_met 76 = .ok (.istore 7, 2) := db1_85.2.2.2.2.2.2.1
theorem dX1_met_78 : decode cX1_met 78 = .ok (.iload 7, 2) := db1_85.2.2.2.2.2.2.2.1
theorem dX1_met_80 : decode cX1_met 80 = .ok (.iload 5, 2) := db1_85.2.2.2.2.2.2.2.2.1
theorem dX1_met_82 : decode cX1_met 82 = .ok (.if_icmp .eq 22, 3) := db1_85.2.2.2.2.2.2.2.2.2.1
theorem dX1_met_85 : decode cX1_met 85 = .ok (.aload_n 0, 1) := db1_85.2.2.2.2.2.2.2.2.2.2.1
theorem dX1_met_86 : decode cX1_met 86 = .ok (.getfield 25, 3) := db1_85.2.2.2.2.2.2.2.2.2.2.2.1
theorem dX1_met_89 : decode cX1_met 89 = .ok (.bipush 32, 2) := db1_85.2.2.2.2.2.2.2.2.2.2.2.2.1
theorem dX1_met_91 : decode cX1_met 91 = .ok (.invokevirtual 132, 3) := db1_85.2.2.2.2.2.2.2.2.2.2.2.2.2.1
theorem dX1_met_94 : decode cX1_met 94 = .ok (.iload 7, 2) := db1_85.2.2.2.2.2.2.2.2.2.2.2.2.2.2.1
theorem dX1_met_96 : decode cX1_met 96 = .ok (.invokevirtual 128, 3) := db1_85.2.2.2.2.2.2.2.2.2.2.2.2.2.2.2
theorem db1_86 : (decode cX1_met 99 = .ok (.pop, 1)) ∧ (decode cX1_met 100 = .ok (.iload 7, 2)) ∧ (decode cX1_met 102 = .ok (.istore 5, 2)) ∧ (decode cX1_met 104 = .ok (.iinc 6 1, 3)) ∧ (decode cX1_met 107 = .ok (.goto (-50), 3)) ∧ (decode cX1_met 110 = .ok (.aload_n 0, 1)) ∧ (decode cX1_met 111 = .ok (.getfield 25, 3)) ∧ (decode cX1_met 114 = .ok (.invokevirtual 135, 3)) ∧ (decode cX1_met 117 = .ok (.areturn, 1)) := by decide +kernel
theorem dX1_met_99 : decode cX1_met 99 = .ok (.pop, 1) := db1_86.1
theorem dX1_met_100 : decode cX1_met 100 = .ok (.iload 7, 2) := db1_86.2.1
theorem dX1_met_102 : decode cX1_met 102 = .ok (.istore 5, 2) := db1_86.2.2.1
theorem dX1_met_104 : decode cX1_met 104 = .ok (.iinc 6 1, 3) := db1_86.2.2.2.1
theorem dX1_met_107 : decode cX1_met 107 = .ok (.goto (-50), 3) := db1_86.2.2.2.2.1
theorem dX1_met_110 : decode cX1_met 110 = .ok (.aload_n 0, 1) := db1_86.2.2.2.2.2.1
theorem dX1_met_111 : decode cX1_met 111 = .ok (.getfield 25, 3) := db1_86.2.2.2.2.2.2.1
theorem dX1_met_114 : decode cX1_met 114 = .ok (.invokevirtual 135, 3) := db1_86.2.2.2.2.2.2.2.1
theorem dX1_met_117 : decode cX1_met 117 = .ok (.areturn, 1) := db1_86.2.2.2.2.2.2.2.2
theorem db1_87 : (decode cX1_keeps 0 = .ok (.iload_n 1, 1)) ∧ (decode cX1_keeps 1 = .ok (.invokestatic 39, 3)) ∧ (decode cX1_keeps 4 = .ok (.iload_n 2, 1)) ∧ (decode cX1_keeps 5 = .ok (.sipush (-1200), 3)) ∧ (decode cX1_keeps 8 = .ok (.sipush 1200, 3)) ∧ (decode cX1_keeps 11 = .ok (.invokestatic 43, 3)) ∧ (decode cX1_keeps 14 = .ok (.aload_n 0, 1)) ∧ (decode cX1_keeps 15 = .ok (.getfield 9, 3)) ∧ (decode cX1_keeps 18 = .ok (.iload_n 1, 1)) ∧ (decode cX1_keeps 19 = .ok (.iaload, 1)) ∧ (decode cX1_keeps 20 = .ok (.istore_n 3, 1)) ∧ (decode cX1_keeps 21 = .ok (.iconst 1, 1)) ∧ (decode cX1_keeps 22 = .ok (.istore 4, 2)) ∧ (decode cX1_keeps 24 = .ok (.iload 4, 2)) ∧ (decode cX1_keeps 26 = .ok (.bipush 48, 2)) ∧ (decode cX1_keeps 28 = .ok (.if_icmp .gt 26, 3)) := by decide +kernel
theorem dX1_keeps_0 : decode cX1_keeps 0 = .ok (.iload_n 1, 1) := db1_87.1
theorem dX1_keeps_1 : decode cX1_keeps 1 = .ok (.invokestatic 39, 3) := db1_87.2.1
theorem dX1_keeps_4 : decode cX1_keeps 4 = .ok (.iload_n 2, 1) := db1_87.2.2.1
theorem dX1_keeps_5 : decode cX1_keeps 5 = .ok (.sipush (-1200), 3) := db1_87.2.2.2.1
theorem dX1_keeps_8 : decode cX1_keeps 8 = .ok (.sipush 1200, 3) := db1_87.2.2.2.2.1
theorem dX1_keeps_11 : decode cX1_keeps 11 = .ok (.invokestatic 43, 3) := db1_87.2.2.2.2.2.1
theorem dX1_keeps_14 : decode cX1_keeps 14 = .ok (.aload_n 0, 1) := db1_87.2.2.2.2.2.2.1
theorem dX1_keeps_15 : decode cX1_keeps 15 = .ok (.getfield 9, 3) := db1_87.2.2.2.2.2.2.2.1
theorem dX1_keeps_18 : decode cX1_keeps 18 = .ok (.iload_n 1, 1) := db1_87.2.2.2.2.2.2.2.2.1
theorem dX1_keeps_19 : decode cX1_keeps 19 = .ok (.iaload, 1) := db1_87.2.2.2.2.2.2.2.2.2.1
theorem dX1_keeps_20 : decode cX1_keeps 20 = .ok (.istore_n 3, 1) := db1_87.2.2.2.2.2.2.2.2.2.2.1
theorem dX1_keeps_21 : decode cX1_keeps 21 = .ok (.iconst 1, 1) := db1_87.2.2.2.2.2.2.2.2.2.2.2.1
theorem dX1_keeps_22 : decode cX1_keeps 22 = .ok (.istore 4, 2) := db1_87.2.2.2.2.2.2.2.2.2.2.2.2.1
theorem dX1_keeps_24 : decode cX1_keeps 24 = .ok (.iload 4, 2) := db1_87.2.2.2.2.2.2.2.2.2.2.2.2.2.1
theorem dX1_keeps_26 : decode cX1_keeps 26 = .ok (.bipush 48, 2) := db1_87.2.2.2.2.2.2.2.2.2.2.2.2.2.2.1
theorem dX1_keeps_28 : decode cX1_keeps 28 = .ok (.if_icmp .gt 26, 3) := db1_87.2.2.2.2.2.2.2.2.2.2.2.2.2.2.2
theorem db1_88 : (decode cX1_keeps 31 = .ok (.iload_n 3, 1)) ∧ (decode cX1_keeps 32 = .ok (.iload_n 2, 1)) ∧ (decode cX1_keeps 33 = .ok (.invokestatic 118, 3)) ∧ (decode cX1_keeps 36 = .ok (.ifCond .le 6, 3)) ∧ (decode cX1_keeps 39 = .ok (.iload 4, 2)) ∧ (decode cX1_keeps 41 = .ok (.ireturn, 1)) ∧ (decode cX1_keeps 42 = .ok (.iload_n 3, 1)) ∧ (decode cX1_keeps 43 = .ok (.iload_n 2, 1)) ∧ (decode cX1_keeps 44 = .ok (.invokestatic 81, 3)) ∧ (decode cX1_keeps 47 = .ok (.istore_n 3, 1)) ∧ (decode cX1_keeps 48 = .ok (.iinc 4 1, 3)) ∧ (decode cX1_keeps 51 = .ok (.goto (-27), 3)) ∧ (decode cX1_keeps 54 = .ok (.iconst (-1), 1)) ∧ (decode cX1_keeps 55 = .ok (.ireturn, 1)) := by decide +kernel
theorem dX1_keeps_31 : decode cX1_keeps 31 = .ok (.iload_n 3, 1) := db1_88.1
theorem dX1_keeps_32 : decode cX1_keeps 32 = .ok (.iload_n 2, 1) := db1_88.2.1
theorem dX1_keeps_33 : decode cX1_keeps 33 = .ok (.invokestatic 118, 3) := db1_88.2.2.1
theorem dX1_keeps_36 : decode cX1_keeps 36 = .ok (.ifCond .le 6, 3) := db1_88.2.2.2.1
theorem dX1_keeps_39 : decode cX1_keeps 39 = .ok (.iload 4, 2) := db1_88.2.2.2.2.1
theorem dX1_keeps_41 : decode cX1_keeps 41 = .ok (.ireturn, 1) := db1_88.2.2.2.2.2.1
theorem dX1_keeps_42 : decode cX1_keeps 42 = .ok (.iload_n 3, 1) := db1_88.2.2.2.2.2.2.1
theorem dX1_keeps_43 : decode cX1_keeps 43 = .ok (.iload_n 2, 1) := db1_88.2.2.2.2.2.2.2.1
theorem dX1_keeps_44 : decode cX1_keeps 44 = .ok (.invokestatic 81, 3) := db1_88.2.2.2.2.2.2.2.2.1
theorem dX1_keeps_47 : decode cX1_keeps 47 = .ok (.istore_n 3, 1) := db1_88.2.2.2.2.2.2.2.2.2.1
theorem dX1_keeps_48 : decode cX1_keeps 48 = .ok (.iinc 4 1, 3) := db1_88.2.2.2.2.2.2.2.2.2.2.1
theorem dX1_keeps_51 : decode cX1_keeps 51 = .ok (.goto (-27), 3) := db1_88.2.2.2.2.2.2.2.2.2.2.2.1
theorem dX1_keeps_54 : decode cX1_keeps 54 = .ok (.iconst (-1), 1) := db1_88.2.2.2.2.2.2.2.2.2.2.2.2.1
theorem dX1_keeps_55 : decode cX1_keeps 55 = .ok (.ireturn, 1) := db1_88.2.2.2.2.2.2.2.2.2.2.2.2.2
theorem db1_89 : (decode cX1_month 0 = .ok (.iload_n 1, 1)) ∧ (decode cX1_month 1 = .ok (.invokestatic 39, 3)) ∧ (decode cX1_month 4 = .ok (.aload_n 0, 1)) ∧ (decode cX1_month 5 = .ok (.getfield 9, 3)) ∧ (decode cX1_month 8 = .ok (.iload_n 1, 1)) ∧ (decode cX1_month 9 = .ok (.iaload, 1)) ∧ (decode cX1_month 10 = .ok (.invokestatic 72, 3)) ∧ (decode cX1_month 13 = .ok (.ireturn, 1)) := by decide +kernel
theorem dX1_month_0 : decode cX1_month 0 = .ok (.iload_n 1, 1) := db1_89.1
theorem dX1_month_1 : decode cX1_month 1 = .ok (.invokestatic 39, 3) := db1_89.2.1
theorem dX1_month_4 : decode cX1_month 4 = .ok (.aload_n 0, 1) := db1_89.2.2.1
theorem dX1_month_5 : decode cX1_month 5 = .ok (.getfield 9, 3) := db1_89.2.2.2.1
theorem dX1_month_8 : decode cX1_month 8 = .ok (.iload_n 1, 1) := db1_89.2.2.2.2.1
theorem dX1_month_9 : decode cX1_month 9 = .ok (.iaload, 1) := db1_89.2.2.2.2.2.1
theorem dX1_month_10 : decode cX1_month 10 = .ok (.invokestatic 72, 3) := db1_89.2.2.2.2.2.2.1
theorem dX1_month_13 : decode cX1_month 13 = .ok (.ireturn, 1) := db1_89.2.2.2.2.2.2.2
theorem db1_90 : (decode cX1_ofMonthNumber 0 = .ok (.iload_n 1, 1)) ∧ (decode cX1_ofMonthNumber 1 = .ok (.invokestatic 66, 3)) ∧ (decode cX1_ofMonthNumber 4 = .ok (.iload_n 2, 1)) ∧ (decode cX1_ofMonthNumber 5 = .ok (.iconst 0, 1)) ∧ (decode cX1_ofMonthNumber 6 = .ok (.iconst 3, 1)) ∧ (decode cX1_ofMonthNumber 7 = .ok (.invokestatic 43, 3)) ∧ (decode cX1_ofMonthNumber 10 = .ok (.iload_n 2, 1)) ∧ (decode cX1_ofMonthNumber 11 = .ok (.tableswitch 40 0 2 #[25, 30, 35], 25)) ∧ (decode cX1_ofMonthNumber 36 = .ok (.iload_n 1, 1)) ∧ (decode cX1_ofMonthNumber 37 = .ok (.invokestatic 139, 3)) ∧ (decode cX1_ofMonthNumber 40 = .ok (.ireturn, 1)) ∧ (decode cX1_ofMonthNumber 41 = .ok (.iload_n 1, 1)) ∧ (decode cX1_ofMonthNumber 42 = .ok (.invokestatic 142, 3)) ∧ (decode cX1_ofMonthNumber 45 = .ok (.ireturn, 1)) ∧ (decode cX1_ofMonthNumber 46 = .ok (.iload_n 1, 1)) ∧ (decode cX1_ofMonthNumber 47 = .ok (.invokestatic 145, 3)) := by decide +kernel
theorem dX1_ofMonthNumber_0 : decode cX1_ofMonthNumber 0 = .ok (.iload_n 1, 1) := db1_90.1
theorem dX1_ofMonthNumber_1 : decode cX1_ofMonthNumber 1 = .ok (.invokestatic 66, 3) := db1_90.2.1
theorem dX1_ofMonthNumber_4 : decode cX1_ofMonthNumber 4 = .ok (.iload_n 2, 1) := db1_90.2.2.1
theorem dX1_ofMonthNumber_5 : decode cX1_ofMonthNumber 5 = .ok (.iconst 0, 1) := db1_90.2.2.2.1
theorem dX1_ofMonthNumber_6 : decode cX1_ofMonthNumber 6 = .ok (.iconst 3, 1) := db1_90.2.2.2.2.1
theorem dX1_ofMonthNumber_7 : decode cX1_ofMonthNumber 7 = .ok (.invokestatic 43, 3) := db1_90.2.2.2.2.2.1
theorem dX1_ofMonthNumber_10 : decode cX1_ofMonthNumber 10 = .ok (.iload_n 2, 1) := db1_90.2.2.2.2.2.2.1
theorem dX1_ofMonthNumber_11 : decode cX1_ofMonthNumber 11 = .ok (.tableswitch 40 0 2 #[25, 30, 35], 25) := db1_90.2.2.2.2.2.2.2.1
theorem dX1_ofMonthNumber_36 : decode cX1_ofMonthNumber 36 = .ok (.iload_n 1, 1) := db1_90.2.2.2.2.2.2.2.2.1
theorem dX1_ofMonthNumber_37 : decode cX1_ofMonthNumber 37 = .ok (.invokestatic 139, 3) := db1_90.2.2.2.2.2.2.2.2.2.1
theorem dX1_ofMonthNumber_40 : decode cX1_ofMonthNumber 40 = .ok (.ireturn, 1) := db1_90.2.2.2.2.2.2.2.2.2.2.1
theorem dX1_ofMonthNumber_41 : decode cX1_ofMonthNumber 41 = .ok (.iload_n 1, 1) := db1_90.2.2.2.2.2.2.2.2.2.2.2.1
theorem dX1_ofMonthNumber_42 : decode cX1_ofMonthNumber 42 = .ok (.invokestatic 142, 3) := db1_90.2.2.2.2.2.2.2.2.2.2.2.2.1
theorem dX1_ofMonthNumber_45 : decode cX1_ofMonthNumber 45 = .ok (.ireturn, 1) := db1_90.2.2.2.2.2.2.2.2.2.2.2.2.2.1
theorem dX1_ofMonthNumber_46 : decode cX1_ofMonthNumber 46 = .ok (.iload_n 1, 1) := db1_90.2.2.2.2.2.2.2.2.2.2.2.2.2.2.1
theorem dX1_ofMonthNumber_47 : decode cX1_ofMonthNumber 47 = .ok (.invokestatic 145, 3) := db1_90.2.2.2.2.2.2.2.2.2.2.2.2.2.2.2
theorem db1_91 : (decode cX1_ofMonthNumber 50 = .ok (.ireturn, 1)) ∧ (decode cX1_ofMonthNumber 51 = .ok (.iload_n 1, 1)) ∧ (decode cX1_ofMonthNumber 52 = .ok (.invokestatic 75, 3)) ∧ (decode cX1_ofMonthNumber 55 = .ok (.ireturn, 1)) := by decide +kernel
theorem dX1_ofMonthNumber_50 : decode cX1_ofMonthNumber 50 = .ok (.ireturn, 1) := db1_91.1
theorem dX1_ofMonthNumber_51 : decode cX1_ofMonthNumber 51 = .ok (.iload_n 1, 1) := db1_91.2.1
theorem dX1_ofMonthNumber_52 : decode cX1_ofMonthNumber 52 = .ok (.invokestatic 75, 3) := db1_91.2.2.1
theorem dX1_ofMonthNumber_55 : decode cX1_ofMonthNumber 55 = .ok (.ireturn, 1) := db1_91.2.2.2
theorem db1_92 : (decode cX1_lengths 0 = .ok (.iload_n 1, 1)) ∧ (decode cX1_lengths 1 = .ok (.invokestatic 66, 3)) ∧ (decode cX1_lengths 4 = .ok (.iload_n 2, 1)) ∧ (decode cX1_lengths 5 = .ok (.iconst 0, 1)) ∧ (decode cX1_lengths 6 = .ok (.bipush 48, 2)) ∧ (decode cX1_lengths 8 = .ok (.invokestatic 43, 3)) ∧ (decode cX1_lengths 11 = .ok (.iload_n 1, 1)) ∧ (decode cX1_lengths 12 = .ok (.iload_n 2, 1)) ∧ (decode cX1_lengths 13 = .ok (.iadd, 1)) ∧ (decode cX1_lengths 14 = .ok (.invokestatic 75, 3)) ∧ (decode cX1_lengths 17 = .ok (.iload_n 1, 1)) ∧ (decode cX1_lengths 18 = .ok (.invokestatic 75, 3)) ∧ (decode cX1_lengths 21 = .ok (.isub, 1)) ∧ (decode cX1_lengths 22 = .ok (.ireturn, 1)) := by decide +kernel
theorem dX1_lengths_0 : decode cX1_lengths 0 = .ok (.iload_n 1, 1) := db1_92.1
theorem dX1_lengths_1 : decode cX1_lengths 1 = .ok (.invokestatic 66, 3) := db1_92.2.1
theorem dX1_lengths_4 : decode cX1_lengths 4 = .ok (.iload_n 2, 1) := db1_92.2.2.1
theorem dX1_lengths_5 : decode cX1_lengths 5 = .ok (.iconst 0, 1) := db1_92.2.2.2.1
theorem dX1_lengths_6 : decode cX1_lengths 6 = .ok (.bipush 48, 2) := db1_92.2.2.2.2.1
theorem dX1_lengths_8 : decode cX1_lengths 8 = .ok (.invokestatic 43, 3) := db1_92.2.2.2.2.2.1
theorem dX1_lengths_11 : decode cX1_lengths 11 = .ok (.iload_n 1, 1) := db1_92.2.2.2.2.2.2.1
theorem dX1_lengths_12 : decode cX1_lengths 12 = .ok (.iload_n 2, 1) := db1_92.2.2.2.2.2.2.2.1
theorem dX1_lengths_13 : decode cX1_lengths 13 = .ok (.iadd, 1) := db1_92.2.2.2.2.2.2.2.2.1
theorem dX1_lengths_14 : decode cX1_lengths 14 = .ok (.invokestatic 75, 3) := db1_92.2.2.2.2.2.2.2.2.2.1
theorem dX1_lengths_17 : decode cX1_lengths 17 = .ok (.iload_n 1, 1) := db1_92.2.2.2.2.2.2.2.2.2.2.1
theorem dX1_lengths_18 : decode cX1_lengths 18 = .ok (.invokestatic 75, 3) := db1_92.2.2.2.2.2.2.2.2.2.2.2.1
theorem dX1_lengths_21 : decode cX1_lengths 21 = .ok (.isub, 1) := db1_92.2.2.2.2.2.2.2.2.2.2.2.2.1
theorem dX1_lengths_22 : decode cX1_lengths 22 = .ok (.ireturn, 1) := db1_92.2.2.2.2.2.2.2.2.2.2.2.2.2
theorem db1_93 : (decode cX1_weekday 0 = .ok (.iload_n 1, 1)) ∧ (decode cX1_weekday 1 = .ok (.invokestatic 39, 3)) ∧ (decode cX1_weekday 4 = .ok (.aload_n 0, 1)) ∧ (decode cX1_weekday 5 = .ok (.getfield 9, 3)) ∧ (decode cX1_weekday 8 = .ok (.iload_n 1, 1)) ∧ (decode cX1_weekday 9 = .ok (.iaload, 1)) ∧ (decode cX1_weekday 10 = .ok (.invokestatic 62, 3)) ∧ (decode cX1_weekday 13 = .ok (.ireturn, 1)) := by decide +kernel
theorem dX1_weekday_0 : decode cX1_weekday 0 = .ok (.iload_n 1, 1) := db1_93.1
theorem dX1_weekday_1 : decode cX1_weekday 1 = .ok (.invokestatic 39, 3) := db1_93.2.1
theorem dX1_weekday_4 : decode cX1_weekday 4 = .ok (.aload_n 0, 1) := db1_93.2.2.1
theorem dX1_weekday_5 : decode cX1_weekday 5 = .ok (.getfield 9, 3) := db1_93.2.2.2.1
theorem dX1_weekday_8 : decode cX1_weekday 8 = .ok (.iload_n 1, 1) := db1_93.2.2.2.2.1
theorem dX1_weekday_9 : decode cX1_weekday 9 = .ok (.iaload, 1) := db1_93.2.2.2.2.2.1
theorem dX1_weekday_10 : decode cX1_weekday 10 = .ok (.invokestatic 62, 3) := db1_93.2.2.2.2.2.2.1
theorem dX1_weekday_13 : decode cX1_weekday 13 = .ok (.ireturn, 1) := db1_93.2.2.2.2.2.2.2
theorem db1_94 : (decode cX1_nth 0 = .ok (.iload_n 1, 1)) ∧ (decode cX1_nth 1 = .ok (.invokestatic 66, 3)) ∧ (decode cX1_nth 4 = .ok (.iload_n 2, 1)) ∧ (decode cX1_nth 5 = .ok (.iconst 1, 1)) ∧ (decode cX1_nth 6 = .ok (.bipush 7, 2)) ∧ (decode cX1_nth 8 = .ok (.invokestatic 43, 3)) ∧ (decode cX1_nth 11 = .ok (.iload_n 3, 1)) ∧ (decode cX1_nth 12 = .ok (.iconst 1, 1)) ∧ (decode cX1_nth 13 = .ok (.iconst 5, 1)) ∧ (decode cX1_nth 14 = .ok (.invokestatic 43, 3)) ∧ (decode cX1_nth 17 = .ok (.iload_n 2, 1)) ∧ (decode cX1_nth 18 = .ok (.iload_n 1, 1)) ∧ (decode cX1_nth 19 = .ok (.invokestatic 75, 3)) ∧ (decode cX1_nth 22 = .ok (.invokestatic 62, 3)) ∧ (decode cX1_nth 25 = .ok (.isub, 1)) ∧ (decode cX1_nth 26 = .ok (.bipush 7, 2)) := by decide +kernel
theorem dX1_nth_0 : decode cX1_nth 0 = .ok (.iload_n 1, 1) := db1_94.1
theorem dX1_nth_1 : decode cX1_nth 1 = .ok (.invokestatic 66, 3) := db1_94.2.1
theorem dX1_nth_4 : decode cX1_nth 4 = .ok (.iload_n 2, 1) := db1_94.2.2.1
theorem dX1_nth_5 : decode cX1_nth 5 = .ok (.iconst 1, 1) := db1_94.2.2.2.1
theorem dX1_nth_6 : decode cX1_nth 6 = .ok (.bipush 7, 2) := db1_94.2.2.2.2.1
theorem dX1_nth_8 : decode cX1_nth 8 = .ok (.invokestatic 43, 3) := db1_94.2.2.2.2.2.1
theorem dX1_nth_11 : decode cX1_nth 11 = .ok (.iload_n 3, 1) := db1_94.2.2.2.2.2.2.1
theorem dX1_nth_12 : decode cX1_nth 12 = .ok (.iconst 1, 1) := db1_94.2.2.2.2.2.2.2.1
theorem dX1_nth_13 : decode cX1_nth 13 = .ok (.iconst 5, 1) := db1_94.2.2.2.2.2.2.2.2.1
theorem dX1_nth_14 : decode cX1_nth 14 = .ok (.invokestatic 43, 3) := db1_94.2.2.2.2.2.2.2.2.2.1
theorem dX1_nth_17 : decode cX1_nth 17 = .ok (.iload_n 2, 1) := db1_94.2.2.2.2.2.2.2.2.2.2.1
theorem dX1_nth_18 : decode cX1_nth 18 = .ok (.iload_n 1, 1) := db1_94.2.2.2.2.2.2.2.2.2.2.2.1
theorem dX1_nth_19 : decode cX1_nth 19 = .ok (.invokestatic 75, 3) := db1_94.2.2.2.2.2.2.2.2.2.2.2.2.1
theorem dX1_nth_22 : decode cX1_nth 22 = .ok (.invokestatic 62, 3) := db1_94.2.2.2.2.2.2.2.2.2.2.2.2.2.1
theorem dX1_nth_25 : decode cX1_nth 25 = .ok (.isub, 1) := db1_94.2.2.2.2.2.2.2.2.2.2.2.2.2.2.1
theorem dX1_nth_26 : decode cX1_nth 26 = .ok (.bipush 7, 2) := db1_94.2.2.2.2.2.2.2.2.2.2.2.2.2.2.2
theorem db1_95 : (decode cX1_nth 28 = .ok (.invokestatic 148, 3)) ∧ (decode cX1_nth 31 = .ok (.istore 4, 2)) ∧ (decode cX1_nth 33 = .ok (.iconst 1, 1)) ∧ (decode cX1_nth 34 = .ok (.iload 4, 2)) ∧ (decode cX1_nth 36 = .ok (.iadd, 1)) ∧ (decode cX1_nth 37 = .ok (.bipush 7, 2)) ∧ (decode cX1_nth 39 = .ok (.iload_n 3, 1)) ∧ (decode cX1_nth 40 = .ok (.iconst 1, 1)) ∧ (decode cX1_nth 41 = .ok (.isub, 1)) ∧ (decode cX1_nth 42 = .ok (.imul, 1)) ∧ (decode cX1_nth 43 = .ok (.iadd, 1)) ∧ (decode cX1_nth 44 = .ok (.istore 5, 2)) ∧ (decode cX1_nth 46 = .ok (.iload 5, 2)) ∧ (decode cX1_nth 48 = .ok (.iload_n 1, 1)) ∧ (decode cX1_nth 49 = .ok (.invokestatic 145, 3)) ∧ (decode cX1_nth 52 = .ok (.if_icmp .gt 8, 3)) := by decide +kernel
theorem dX1_nth_28 : decode cX1_nth 28 = .ok (.invokestatic 148, 3) := db1_95.1
theorem dX1_nth_31 : decode cX1_nth 31 = .ok (.istore 4, 2) := db1_95.2.1
theorem dX1_nth_33 : decode cX1_nth 33 = .ok (.iconst 1, 1) := db1_95.2.2.1
theorem dX1_nth_34 : decode cX1_nth 34 = .ok (.iload 4, 2) := db1_95.2.2.2.1
theorem dX1_nth_36 : decode cX1_nth 36 = .ok (.iadd, 1) := db1_95.2.2.2.2.1
theorem dX1_nth_37 : decode cX1_nth 37 = .ok (.bipush 7, 2) := db1_95.2.2.2.2.2.1
theorem dX1_nth_39 : decode cX1_nth 39 = .ok (.iload_n 3, 1) := db1_95.2.2.2.2.2.2.1
theorem dX1_nth_40 : decode cX1_nth 40 = .ok (.iconst 1, 1) := db1_95.2.2.2.2.2.2.2.1
theorem dX1_nth_41 : decode cX1_nth 41 = .ok (.isub, 1) := db1_95.2.2.2.2.2.2.2.2.1
theorem dX1_nth_42 : decode cX1_nth 42 = .ok (.imul, 1) := db1_95.2.2.2.2.2.2.2.2.2.1
theorem dX1_nth_43 : decode cX1_nth 43 = .ok (.iadd, 1) := db1_95.2.2.2.2.2.2.2.2.2.2.1
theorem dX1_nth_44 : decode cX1_nth 44 = .ok (.istore 5, 2) := db1_95.2.2.2.2.2.2.2.2.2.2.2.1
theorem dX1_nth_46 : decode cX1_nth 46 = .ok (.iload 5, 2) := db1_95.2.2.2.2.2.2.2.2.2.2.2.2.1
theorem dX1_nth_48 : decode cX1_nth 48 = .ok (.iload_n 1, 1) := db1_95.2.2.2.2.2.2.2.2.2.2.2.2.2.1
theorem dX1_nth_49 : decode cX1_nth 49 = .ok (.invokestatic 145, 3) := db1_95.2.2.2.2.2.2.2.2.2.2.2.2.2.2.1
theorem dX1_nth_52 : decode cX1_nth 52 = .ok (.if_icmp .gt 8, 3) := db1_95.2.2.2.2.2.2.2.2.2.2.2.2.2.2.2
theorem db1_96 : (decode cX1_nth 55 = .ok (.iload 5, 2)) ∧ (decode cX1_nth 57 = .ok (.goto 4, 3)) ∧ (decode cX1_nth 60 = .ok (.iconst (-1), 1)) ∧ (decode cX1_nth 61 = .ok (.ireturn, 1)) := by decide +kernel
theorem dX1_nth_55 : decode cX1_nth 55 = .ok (.iload 5, 2) := db1_96.1
theorem dX1_nth_57 : decode cX1_nth 57 = .ok (.goto 4, 3) := db1_96.2.1
theorem dX1_nth_60 : decode cX1_nth 60 = .ok (.iconst (-1), 1) := db1_96.2.2.1
theorem dX1_nth_61 : decode cX1_nth 61 = .ok (.ireturn, 1) := db1_96.2.2.2
theorem db1_97 : (decode cX1_inYear 0 = .ok (.iload_n 1, 1)) ∧ (decode cX1_inYear 1 = .ok (.sipush (-9999), 3)) ∧ (decode cX1_inYear 4 = .ok (.sipush 9999, 3)) ∧ (decode cX1_inYear 7 = .ok (.invokestatic 43, 3)) ∧ (decode cX1_inYear 10 = .ok (.iload_n 2, 1)) ∧ (decode cX1_inYear 11 = .ok (.iconst 1, 1)) ∧ (decode cX1_inYear 12 = .ok (.bipush 31, 2)) ∧ (decode cX1_inYear 14 = .ok (.invokestatic 43, 3)) ∧ (decode cX1_inYear 17 = .ok (.iload_n 3, 1)) ∧ (decode cX1_inYear 18 = .ok (.iconst 1, 1)) ∧ (decode cX1_inYear 19 = .ok (.bipush 7, 2)) ∧ (decode cX1_inYear 21 = .ok (.invokestatic 43, 3)) ∧ (decode cX1_inYear 24 = .ok (.bipush 12, 2)) ∧ (decode cX1_inYear 26 = .ok (.iload_n 1, 1)) ∧ (decode cX1_inYear 27 = .ok (.imul, 1)) ∧ (decode cX1_inYear 28 = .ok (.istore 4, 2)) := by decide +kernel
theorem dX1_inYear_0 : decode cX1_inYear 0 = .ok (.iload_n 1, 1) := db1_97.1
theorem dX1_inYear_1 : decode cX1_inYear 1 = .ok (.sipush (-9999), 3) := db1_97.2.1
theorem dX1_inYear_4 : decode cX1_inYear 4 = .ok (.sipush 9999, 3) := db1_97.2.2.1
theorem dX1_inYear_7 : decode cX1_inYear 7 = .ok (.invokestatic 43, 3) := db1_97.2.2.2.1
theorem dX1_inYear_10 : decode cX1_inYear 10 = .ok (.iload_n 2, 1) := db1_97.2.2.2.2.1
theorem dX1_inYear_11 : decode cX1_inYear 11 = .ok (.iconst 1, 1) := db1_97.2.2.2.2.2.1
theorem dX1_inYear_12 : decode cX1_inYear 12 = .ok (.bipush 31, 2) := db1_97.2.2.2.2.2.2.1
theorem dX1_inYear_14 : decode cX1_inYear 14 = .ok (.invokestatic 43, 3) := db1_97.2.2.2.2.2.2.2.1
theorem dX1_inYear_17 : decode cX1_inYear 17 = .ok (.iload_n 3, 1) := db1_97.2.2.2.2.2.2.2.2.1
theorem dX1_inYear_18 : decode cX1_inYear 18 = .ok (.iconst 1, 1) := db1_97.2.2.2.2.2.2.2.2.2.1
theorem dX1_inYear_19 : decode cX1_inYear 19 = .ok (.bipush 7, 2) := db1_97.2.2.2.2.2.2.2.2.2.2.1
theorem dX1_inYear_21 : decode cX1_inYear 21 = .ok (.invokestatic 43, 3) := db1_97.2.2.2.2.2.2.2.2.2.2.2.1
theorem dX1_inYear_24 : decode cX1_inYear 24 = .ok (.bipush 12, 2) := db1_97.2.2.2.2.2.2.2.2.2.2.2.2.1
theorem dX1_inYear_26 : decode cX1_inYear 26 = .ok (.iload_n 1, 1) := db1_97.2.2.2.2.2.2.2.2.2.2.2.2.2.1
theorem dX1_inYear_27 : decode cX1_inYear 27 = .ok (.imul, 1) := db1_97.2.2.2.2.2.2.2.2.2.2.2.2.2.2.1
theorem dX1_inYear_28 : decode cX1_inYear 28 = .ok (.istore 4, 2) := db1_97.2.2.2.2.2.2.2.2.2.2.2.2.2.2.2
theorem db1_98 : (decode cX1_inYear 30 = .ok (.iconst 0, 1)) ∧ (decode cX1_inYear 31 = .ok (.istore 5, 2)) ∧ (decode cX1_inYear 33 = .ok (.iload 4, 2)) ∧ (decode cX1_inYear 35 = .ok (.istore 6, 2)) ∧ (decode cX1_inYear 37 = .ok (.iload 6, 2)) ∧ (decode cX1_inYear 39 = .ok (.iload 4, 2)) ∧ (decode cX1_inYear 41 = .ok (.bipush 12, 2)) ∧ (decode cX1_inYear 43 = .ok (.iadd, 1)) ∧ (decode cX1_inYear 44 = .ok (.if_icmp .ge 34, 3)) ∧ (decode cX1_inYear 47 = .ok (.iload_n 2, 1)) ∧ (decode cX1_inYear 48 = .ok (.iload 6, 2)) ∧ (decode cX1_inYear 50 = .ok (.invokestatic 145, 3)) ∧ (decode cX1_inYear 53 = .ok (.if_icmp .gt 19, 3)) ∧ (decode cX1_inYear 56 = .ok (.iload 6, 2)) ∧ (decode cX1_inYear 58 = .ok (.iload_n 2, 1)) ∧ (decode cX1_inYear 59 = .ok (.invokestatic 53, 3)) := by decide +kernel
theorem dX1_inYear_30 : decode cX1_inYear 30 = .ok (.iconst 0, 1) := db1_98.1
theorem dX1_inYear_31 : decode cX1_inYear 31 = .ok (.istore 5, 2) := db1_98.2.1
theorem dX1_inYear_33 : decode cX1_inYear 33 = .ok (.iload 4, 2) := db1_98.2.2.1
theorem dX1_inYear_35 : decode cX1_inYear 35 = .ok (.istore 6, 2) := db1_98.2.2.2.1
theorem dX1_inYear_37 : decode cX1_inYear 37 = .ok (.iload 6, 2) := db1_98.2.2.2.2.1
theorem dX1_inYear_39 : decode cX1_inYear 39 = .ok (.iload 4, 2) := db1_98.2.2.2.2.2.1
theorem dX1_inYear_41 : decode cX1_inYear 41 = .ok (.bipush 12, 2) := db1_98.2.2.2.2.2.2.1
theorem dX1_inYear_43 : decode cX1_inYear 43 = .ok (.iadd, 1) := db1_98.2.2.2.2.2.2.2.1
theorem dX1_inYear_44 : decode cX1_inYear 44 = .ok (.if_icmp .ge 34, 3) := db1_98.2.2.2.2.2.2.2.2.1
theorem dX1_inYear_47 : decode cX1_inYear 47 = .ok (.iload_n 2, 1) := db1_98.2.2.2.2.2.2.2.2.2.1
theorem dX1_inYear_48 : decode cX1_inYear 48 = .ok (.iload 6, 2) := db1_98.2.2.2.2.2.2.2.2.2.2.1
theorem dX1_inYear_50 : decode cX1_inYear 50 = .ok (.invokestatic 145, 3) := db1_98.2.2.2.2.2.2.2.2.2.2.2.1
theorem dX1_inYear_53 : decode cX1_inYear 53 = .ok (.if_icmp .gt 19, 3) := db1_98.2.2.2.2.2.2.2.2.2.2.2.2.1
theorem dX1_inYear_56 : decode cX1_inYear 56 = .ok (.iload 6, 2) := db1_98.2.2.2.2.2.2.2.2.2.2.2.2.2.1
theorem dX1_inYear_58 : decode cX1_inYear 58 = .ok (.iload_n 2, 1) := db1_98.2.2.2.2.2.2.2.2.2.2.2.2.2.2.1
theorem dX1_inYear_59 : decode cX1_inYear 59 = .ok (.invokestatic 53, 3) := db1_98.2.2.2.2.2.2.2.2.2.2.2.2.2.2.2
theorem db1_99 : (decode cX1_inYear 62 = .ok (.invokestatic 62, 3)) ∧ (decode cX1_inYear 65 = .ok (.iload_n 3, 1)) ∧ (decode cX1_inYear 66 = .ok (.if_icmp .ne 6, 3)) ∧ (decode cX1_inYear 69 = .ok (.iinc 5 1, 3)) ∧ (decode cX1_inYear 72 = .ok (.iinc 6 1, 3)) ∧ (decode cX1_inYear 75 = .ok (.goto (-38), 3)) ∧ (decode cX1_inYear 78 = .ok (.iload 5, 2)) ∧ (decode cX1_inYear 80 = .ok (.ireturn, 1)) := by decide +kernel
theorem dX1_inYear_62 : decode cX1_inYear 62 = .ok (.invokestatic 62, 3) := db1_99.1
theorem dX1_inYear_65 : decode cX1_inYear 65 = .ok (.iload_n 3, 1) := db1_99.2.1
theorem dX1_inYear_66 : decode cX1_inYear 66 = .ok (.if_icmp .ne 6, 3) := db1_99.2.2.1
theorem dX1_inYear_69 : decode cX1_inYear 69 = .ok (.iinc 5 1, 3) := db1_99.2.2.2.1
theorem dX1_inYear_72 : decode cX1_inYear 72 = .ok (.iinc 6 1, 3) := db1_99.2.2.2.2.1
theorem dX1_inYear_75 : decode cX1_inYear 75 = .ok (.goto (-38), 3) := db1_99.2.2.2.2.2.1
theorem dX1_inYear_78 : decode cX1_inYear 78 = .ok (.iload 5, 2) := db1_99.2.2.2.2.2.2.1
theorem dX1_inYear_80 : decode cX1_inYear 80 = .ok (.ireturn, 1) := db1_99.2.2.2.2.2.2.2
theorem db1_100 : (decode cX1_recurs 0 = .ok (.iload_n 1, 1)) ∧ (decode cX1_recurs 1 = .ok (.invokestatic 39, 3)) ∧ (decode cX1_recurs 4 = .ok (.iload_n 2, 1)) ∧ (decode cX1_recurs 5 = .ok (.iconst 1, 1)) ∧ (decode cX1_recurs 6 = .ok (.bipush 7, 2)) ∧ (decode cX1_recurs 8 = .ok (.invokestatic 43, 3)) ∧ (decode cX1_recurs 11 = .ok (.iload_n 3, 1)) ∧ (decode cX1_recurs 12 = .ok (.iconst 0, 1)) ∧ (decode cX1_recurs 13 = .ok (.bipush 48, 2)) ∧ (decode cX1_recurs 15 = .ok (.invokestatic 43, 3)) ∧ (decode cX1_recurs 18 = .ok (.iconst 0, 1)) ∧ (decode cX1_recurs 19 = .ok (.istore 4, 2)) ∧ (decode cX1_recurs 21 = .ok (.iconst 1, 1)) ∧ (decode cX1_recurs 22 = .ok (.istore 5, 2)) ∧ (decode cX1_recurs 24 = .ok (.iload 5, 2)) ∧ (decode cX1_recurs 26 = .ok (.iload_n 3, 1)) := by decide +kernel
theorem dX1_recurs_0 : decode cX1_recurs 0 = .ok (.iload_n 1, 1) := db1_100.1
theorem dX1_recurs_1 : decode cX1_recurs 1 = .ok (.invokestatic 39, 3) := db1_100.2.1
theorem dX1_recurs_4 : decode cX1_recurs 4 = .ok (.iload_n 2, 1) := db1_100.2.2.1
theorem dX1_recurs_5 : decode cX1_recurs 5 = .ok (.iconst 1, 1) := db1_100.2.2.2.1
theorem dX1_recurs_6 : decode cX1_recurs 6 = .ok (.bipush 7, 2) := db1_100.2.2.2.2.1
theorem dX1_recurs_8 : decode cX1_recurs 8 = .ok (.invokestatic 43, 3) := db1_100.2.2.2.2.2.1
theorem dX1_recurs_11 : decode cX1_recurs 11 = .ok (.iload_n 3, 1) := db1_100.2.2.2.2.2.2.1
theorem dX1_recurs_12 : decode cX1_recurs 12 = .ok (.iconst 0, 1) := db1_100.2.2.2.2.2.2.2.1
theorem dX1_recurs_13 : decode cX1_recurs 13 = .ok (.bipush 48, 2) := db1_100.2.2.2.2.2.2.2.2.1
theorem dX1_recurs_15 : decode cX1_recurs 15 = .ok (.invokestatic 43, 3) := db1_100.2.2.2.2.2.2.2.2.2.1
theorem dX1_recurs_18 : decode cX1_recurs 18 = .ok (.iconst 0, 1) := db1_100.2.2.2.2.2.2.2.2.2.2.1
theorem dX1_recurs_19 : decode cX1_recurs 19 = .ok (.istore 4, 2) := db1_100.2.2.2.2.2.2.2.2.2.2.2.1
theorem dX1_recurs_21 : decode cX1_recurs 21 = .ok (.iconst 1, 1) := db1_100.2.2.2.2.2.2.2.2.2.2.2.2.1
theorem dX1_recurs_22 : decode cX1_recurs 22 = .ok (.istore 5, 2) := db1_100.2.2.2.2.2.2.2.2.2.2.2.2.2.1
theorem dX1_recurs_24 : decode cX1_recurs 24 = .ok (.iload 5, 2) := db1_100.2.2.2.2.2.2.2.2.2.2.2.2.2.2.1
theorem dX1_recurs_26 : decode cX1_recurs 26 = .ok (.iload_n 3, 1) := db1_100.2.2.2.2.2.2.2.2.2.2.2.2.2.2.2
theorem db1_101 : (decode cX1_recurs 27 = .ok (.if_icmp .gt 37, 3)) ∧ (decode cX1_recurs 30 = .ok (.aload_n 0, 1)) ∧ (decode cX1_recurs 31 = .ok (.getfield 9, 3)) ∧ (decode cX1_recurs 34 = .ok (.iload_n 1, 1)) ∧ (decode cX1_recurs 35 = .ok (.iaload, 1)) ∧ (decode cX1_recurs 36 = .ok (.bipush 12, 2)) ∧ (decode cX1_recurs 38 = .ok (.iload 5, 2)) ∧ (decode cX1_recurs 40 = .ok (.imul, 1)) ∧ (decode cX1_recurs 41 = .ok (.invokestatic 81, 3)) ∧ (decode cX1_recurs 44 = .ok (.istore 6, 2)) ∧ (decode cX1_recurs 46 = .ok (.iload 6, 2)) ∧ (decode cX1_recurs 48 = .ok (.invokestatic 62, 3)) ∧ (decode cX1_recurs 51 = .ok (.iload_n 2, 1)) ∧ (decode cX1_recurs 52 = .ok (.if_icmp .ne 6, 3)) ∧ (decode cX1_recurs 55 = .ok (.iinc 4 1, 3)) ∧ (decode cX1_recurs 58 = .ok (.iinc 5 1, 3)) := by decide +kernel
theorem dX1_recurs_27 : decode cX1_recurs 27 = .ok (.if_icmp .gt 37, 3) := db1_101.1
theorem dX1_recurs_30 : decode cX1_recurs 30 = .ok (.aload_n 0, 1) := db1_101.2.1
theorem dX1_recurs_31 : decode cX1_recurs 31 = .ok (.getfield 9, 3) := db1_101.2.2.1
theorem dX1_recurs_34 : decode cX1_recurs 34 = .ok (.iload_n 1, 1) := db1_101.2.2.2.1
theorem dX1_recurs_35 : decode cX1_recurs 35 = .ok (.iaload, 1) := db1_101.2.2.2.2.1
theorem dX1_recurs_36 : decode cX1_recurs 36 = .ok (.bipush 12, 2) := db1_101.2.2.2.2.2.1
theorem dX1_recurs_38 : decode cX1_recurs 38 = .ok (.iload 5, 2) := db1_101.2.2.2.2.2.2.1
theorem dX1_recurs_40 : decode cX1_recurs 40 = .ok (.imul, 1) := db1_101.2.2.2.2.2.2.2.1
theorem dX1_recurs_41 : decode cX1_recurs 41 = .ok (.invokestatic 81, 3) := db1_101.2.2.2.2.2.2.2.2.1
theorem dX1_recurs_44 : decode cX1_recurs 44 = .ok (.istore 6, 2) := db1_101.2.2.2.2.2.2.2.2.2.1
theorem dX1_recurs_46 : decode cX1_recurs 46 = .ok (.iload 6, 2) := db1_101.2.2.2.2.2.2.2.2.2.2.1
theorem dX1_recurs_48 : decode cX1_recurs 48 = .ok (.invokestatic 62, 3) := db1_101.2.2.2.2.2.2.2.2.2.2.2.1
theorem dX1_recurs_51 : decode cX1_recurs 51 = .ok (.iload_n 2, 1) := db1_101.2.2.2.2.2.2.2.2.2.2.2.2.1
theorem dX1_recurs_52 : decode cX1_recurs 52 = .ok (.if_icmp .ne 6, 3) := db1_101.2.2.2.2.2.2.2.2.2.2.2.2.2.1
theorem dX1_recurs_55 : decode cX1_recurs 55 = .ok (.iinc 4 1, 3) := db1_101.2.2.2.2.2.2.2.2.2.2.2.2.2.2.1
theorem dX1_recurs_58 : decode cX1_recurs 58 = .ok (.iinc 5 1, 3) := db1_101.2.2.2.2.2.2.2.2.2.2.2.2.2.2.2
theorem db1_102 : (decode cX1_recurs 61 = .ok (.goto (-37), 3)) ∧ (decode cX1_recurs 64 = .ok (.iload 4, 2)) ∧ (decode cX1_recurs 66 = .ok (.ireturn, 1)) := by decide +kernel
theorem dX1_recurs_61 : decode cX1_recurs 61 = .ok (.goto (-37), 3) := db1_102.1
theorem dX1_recurs_64 : decode cX1_recurs 64 = .ok (.iload 4, 2) := db1_102.2.1
theorem dX1_recurs_66 : decode cX1_recurs 66 = .ok (.ireturn, 1) := db1_102.2.2
theorem db1_103 : (decode cX1_age 0 = .ok (.iload_n 1, 1)) ∧ (decode cX1_age 1 = .ok (.invokestatic 39, 3)) ∧ (decode cX1_age 4 = .ok (.iload_n 2, 1)) ∧ (decode cX1_age 5 = .ok (.invokestatic 39, 3)) ∧ (decode cX1_age 8 = .ok (.aload_n 0, 1)) ∧ (decode cX1_age 9 = .ok (.getfield 9, 3)) ∧ (decode cX1_age 12 = .ok (.iload_n 2, 1)) ∧ (decode cX1_age 13 = .ok (.iaload, 1)) ∧ (decode cX1_age 14 = .ok (.aload_n 0, 1)) ∧ (decode cX1_age 15 = .ok (.getfield 9, 3)) ∧ (decode cX1_age 18 = .ok (.iload_n 1, 1)) ∧ (decode cX1_age 19 = .ok (.iaload, 1)) ∧ (decode cX1_age 20 = .ok (.invokestatic 108, 3)) ∧ (decode cX1_age 23 = .ok (.aload_n 0, 1)) ∧ (decode cX1_age 24 = .ok (.getfield 9, 3)) ∧ (decode cX1_age 27 = .ok (.iload_n 1, 1)) := by decide +kernel
theorem dX1_age_0 : decode cX1_age 0 = .ok (.iload_n 1, 1) := db1_103.1
theorem dX1_age_1 : decode cX1_age 1 = .ok (.invokestatic 39, 3) := db1_103.2.1
theorem dX1_age_4 : decode cX1_age 4 = .ok (.iload_n 2, 1) := db1_103.2.2.1
theorem dX1_age_5 : decode cX1_age 5 = .ok (.invokestatic 39, 3) := db1_103.2.2.2.1
theorem dX1_age_8 : decode cX1_age 8 = .ok (.aload_n 0, 1) := db1_103.2.2.2.2.1
theorem dX1_age_9 : decode cX1_age 9 = .ok (.getfield 9, 3) := db1_103.2.2.2.2.2.1
theorem dX1_age_12 : decode cX1_age 12 = .ok (.iload_n 2, 1) := db1_103.2.2.2.2.2.2.1
theorem dX1_age_13 : decode cX1_age 13 = .ok (.iaload, 1) := db1_103.2.2.2.2.2.2.2.1
theorem dX1_age_14 : decode cX1_age 14 = .ok (.aload_n 0, 1) := db1_103.2.2.2.2.2.2.2.2.1
theorem dX1_age_15 : decode cX1_age 15 = .ok (.getfield 9, 3) := db1_103.2.2.2.2.2.2.2.2.2.1
theorem dX1_age_18 : decode cX1_age 18 = .ok (.iload_n 1, 1) := db1_103.2.2.2.2.2.2.2.2.2.2.1
theorem dX1_age_19 : decode cX1_age 19 = .ok (.iaload, 1) := db1_103.2.2.2.2.2.2.2.2.2.2.2.1
theorem dX1_age_20 : decode cX1_age 20 = .ok (.invokestatic 108, 3) := db1_103.2.2.2.2.2.2.2.2.2.2.2.2.1
theorem dX1_age_23 : decode cX1_age 23 = .ok (.aload_n 0, 1) := db1_103.2.2.2.2.2.2.2.2.2.2.2.2.2.1
theorem dX1_age_24 : decode cX1_age 24 = .ok (.getfield 9, 3) := db1_103.2.2.2.2.2.2.2.2.2.2.2.2.2.2.1
theorem dX1_age_27 : decode cX1_age 27 = .ok (.iload_n 1, 1) := db1_103.2.2.2.2.2.2.2.2.2.2.2.2.2.2.2
theorem db1_104 : (decode cX1_age 28 = .ok (.iaload, 1)) ∧ (decode cX1_age 29 = .ok (.aload_n 0, 1)) ∧ (decode cX1_age 30 = .ok (.getfield 9, 3)) ∧ (decode cX1_age 33 = .ok (.iload_n 2, 1)) ∧ (decode cX1_age 34 = .ok (.iaload, 1)) ∧ (decode cX1_age 35 = .ok (.invokestatic 111, 3)) ∧ (decode cX1_age 38 = .ok (.bipush 12, 2)) ∧ (decode cX1_age 40 = .ok (.idiv, 1)) ∧ (decode cX1_age 41 = .ok (.ireturn, 1)) := by decide +kernel
theorem dX1_age_28 : decode cX1_age 28 = .ok (.iaload, 1) := db1_104.1
theorem dX1_age_29 : decode cX1_age 29 = .ok (.aload_n 0, 1) := db1_104.2.1
theorem dX1_age_30 : decode cX1_age 30 = .ok (.getfield 9, 3) := db1_104.2.2.1
theorem dX1_age_33 : decode cX1_age 33 = .ok (.iload_n 2, 1) := db1_104.2.2.2.1
theorem dX1_age_34 : decode cX1_age 34 = .ok (.iaload, 1) := db1_104.2.2.2.2.1
theorem dX1_age_35 : decode cX1_age 35 = .ok (.invokestatic 111, 3) := db1_104.2.2.2.2.2.1
theorem dX1_age_38 : decode cX1_age 38 = .ok (.bipush 12, 2) := db1_104.2.2.2.2.2.2.1
theorem dX1_age_40 : decode cX1_age 40 = .ok (.idiv, 1) := db1_104.2.2.2.2.2.2.2.1
theorem dX1_age_41 : decode cX1_age 41 = .ok (.ireturn, 1) := db1_104.2.2.2.2.2.2.2.2
theorem db1_105 : (decode cX1_anniversaries 0 = .ok (.iload_n 1, 1)) ∧ (decode cX1_anniversaries 1 = .ok (.invokestatic 39, 3)) ∧ (decode cX1_anniversaries 4 = .ok (.iload_n 2, 1)) ∧ (decode cX1_anniversaries 5 = .ok (.invokestatic 39, 3)) ∧ (decode cX1_anniversaries 8 = .ok (.aload_n 0, 1)) ∧ (decode cX1_anniversaries 9 = .ok (.getfield 9, 3)) ∧ (decode cX1_anniversaries 12 = .ok (.iload_n 1, 1)) ∧ (decode cX1_anniversaries 13 = .ok (.iaload, 1)) ∧ (decode cX1_anniversaries 14 = .ok (.aload_n 0, 1)) ∧ (decode cX1_anniversaries 15 = .ok (.getfield 9, 3)) ∧ (decode cX1_anniversaries 18 = .ok (.iload_n 2, 1)) ∧ (decode cX1_anniversaries 19 = .ok (.iaload, 1)) ∧ (decode cX1_anniversaries 20 = .ok (.invokestatic 153, 3)) ∧ (decode cX1_anniversaries 23 = .ok (.ifCond .eq 8, 3)) ∧ (decode cX1_anniversaries 26 = .ok (.aload_n 0, 1)) ∧ (decode cX1_anniversaries 27 = .ok (.invokevirtual 156, 3)) := by decide +kernel
theorem dX1_anniversaries_0 : decode cX1_anniversaries 0 = .ok (.iload_n 1, 1) := db1_105.1
theorem dX1_anniversaries_1 : decode cX1_anniversaries 1 = .ok (.invokestatic 39, 3) := db1_105.2.1
theorem dX1_anniversaries_4 : decode cX1_anniversaries 4 = .ok (.iload_n 2, 1) := db1_105.2.2.1
theorem dX1_anniversaries_5 : decode cX1_anniversaries 5 = .ok (.invokestatic 39, 3) := db1_105.2.2.2.1
theorem dX1_anniversaries_8 : decode cX1_anniversaries 8 = .ok (.aload_n 0, 1) := db1_105.2.2.2.2.1
theorem dX1_anniversaries_9 : decode cX1_anniversaries 9 = .ok (.getfield 9, 3) := db1_105.2.2.2.2.2.1
theorem dX1_anniversaries_12 : decode cX1_anniversaries 12 = .ok (.iload_n 1, 1) := db1_105.2.2.2.2.2.2.1
theorem dX1_anniversaries_13 : decode cX1_anniversaries 13 = .ok (.iaload, 1) := db1_105.2.2.2.2.2.2.2.1
theorem dX1_anniversaries_14 : decode cX1_anniversaries 14 = .ok (.aload_n 0, 1) := db1_105.2.2.2.2.2.2.2.2.1
theorem dX1_anniversaries_15 : decode cX1_anniversaries 15 = .ok (.getfield 9, 3) := db1_105.2.2.2.2.2.2.2.2.2.1
theorem dX1_anniversaries_18 : decode cX1_anniversaries 18 = .ok (.iload_n 2, 1) := db1_105.2.2.2.2.2.2.2.2.2.2.1
theorem dX1_anniversaries_19 : decode cX1_anniversaries 19 = .ok (.iaload, 1) := db1_105.2.2.2.2.2.2.2.2.2.2.2.1
theorem dX1_anniversaries_20 : decode cX1_anniversaries 20 = .ok (.invokestatic 153, 3) := db1_105.2.2.2.2.2.2.2.2.2.2.2.2.1
theorem dX1_anniversaries_23 : decode cX1_anniversaries 23 = .ok (.ifCond .eq 8, 3) := db1_105.2.2.2.2.2.2.2.2.2.2.2.2.2.1
theorem dX1_anniversaries_26 : decode cX1_anniversaries 26 = .ok (.aload_n 0, 1) := db1_105.2.2.2.2.2.2.2.2.2.2.2.2.2.2.1
theorem dX1_anniversaries_27 : decode cX1_anniversaries 27 = .ok (.invokevirtual 156, 3) := db1_105.2.2.2.2.2.2.2.2.2.2.2.2.2.2.2
theorem db1_106 : (decode cX1_anniversaries 30 = .ok (.ireturn, 1)) ∧ (decode cX1_anniversaries 31 = .ok (.aload_n 0, 1)) ∧ (decode cX1_anniversaries 32 = .ok (.getfield 9, 3)) ∧ (decode cX1_anniversaries 35 = .ok (.iload_n 1, 1)) ∧ (decode cX1_anniversaries 36 = .ok (.iaload, 1)) ∧ (decode cX1_anniversaries 37 = .ok (.aload_n 0, 1)) ∧ (decode cX1_anniversaries 38 = .ok (.getfield 9, 3)) ∧ (decode cX1_anniversaries 41 = .ok (.iload_n 2, 1)) ∧ (decode cX1_anniversaries 42 = .ok (.iaload, 1)) ∧ (decode cX1_anniversaries 43 = .ok (.iload_n 3, 1)) ∧ (decode cX1_anniversaries 44 = .ok (.invokestatic 160, 3)) ∧ (decode cX1_anniversaries 47 = .ok (.ireturn, 1)) := by decide +kernel
theorem dX1_anniversaries_30 : decode cX1_anniversaries 30 = .ok (.ireturn, 1) := db1_106.1
theorem dX1_anniversaries_31 : decode cX1_anniversaries 31 = .ok (.aload_n 0, 1) := db1_106.2.1
theorem dX1_anniversaries_32 : decode cX1_anniversaries 32 = .ok (.getfield 9, 3) := db1_106.2.2.1
theorem dX1_anniversaries_35 : decode cX1_anniversaries 35 = .ok (.iload_n 1, 1) := db1_106.2.2.2.1
theorem dX1_anniversaries_36 : decode cX1_anniversaries 36 = .ok (.iaload, 1) := db1_106.2.2.2.2.1
theorem dX1_anniversaries_37 : decode cX1_anniversaries 37 = .ok (.aload_n 0, 1) := db1_106.2.2.2.2.2.1
theorem dX1_anniversaries_38 : decode cX1_anniversaries 38 = .ok (.getfield 9, 3) := db1_106.2.2.2.2.2.2.1
theorem dX1_anniversaries_41 : decode cX1_anniversaries 41 = .ok (.iload_n 2, 1) := db1_106.2.2.2.2.2.2.2.1
theorem dX1_anniversaries_42 : decode cX1_anniversaries 42 = .ok (.iaload, 1) := db1_106.2.2.2.2.2.2.2.2.1
theorem dX1_anniversaries_43 : decode cX1_anniversaries 43 = .ok (.iload_n 3, 1) := db1_106.2.2.2.2.2.2.2.2.2.1
theorem dX1_anniversaries_44 : decode cX1_anniversaries 44 = .ok (.invokestatic 160, 3) := db1_106.2.2.2.2.2.2.2.2.2.2.1
theorem dX1_anniversaries_47 : decode cX1_anniversaries 47 = .ok (.ireturn, 1) := db1_106.2.2.2.2.2.2.2.2.2.2.2
theorem db1_107 : (decode cX1_toNext 0 = .ok (.iload_n 1, 1)) ∧ (decode cX1_toNext 1 = .ok (.invokestatic 39, 3)) ∧ (decode cX1_toNext 4 = .ok (.iload_n 2, 1)) ∧ (decode cX1_toNext 5 = .ok (.invokestatic 39, 3)) ∧ (decode cX1_toNext 8 = .ok (.aload_n 0, 1)) ∧ (decode cX1_toNext 9 = .ok (.getfield 9, 3)) ∧ (decode cX1_toNext 12 = .ok (.iload_n 1, 1)) ∧ (decode cX1_toNext 13 = .ok (.iaload, 1)) ∧ (decode cX1_toNext 14 = .ok (.aload_n 0, 1)) ∧ (decode cX1_toNext 15 = .ok (.getfield 9, 3)) ∧ (decode cX1_toNext 18 = .ok (.iload_n 2, 1)) ∧ (decode cX1_toNext 19 = .ok (.iaload, 1)) ∧ (decode cX1_toNext 20 = .ok (.invokestatic 153, 3)) ∧ (decode cX1_toNext 23 = .ok (.ifCond .eq 8, 3)) ∧ (decode cX1_toNext 26 = .ok (.aload_n 0, 1)) ∧ (decode cX1_toNext 27 = .ok (.invokevirtual 156, 3)) := by decide +kernel
theorem dX1_toNext_0 : decode cX1_toNext 0 = .ok (.iload_n 1, 1) := db1_107.1
theorem dX1_toNext_1 : decode cX1_toNext 1 = .ok (.invokestatic 39, 3) := db1_107.2.1
theorem dX1_toNext_4 : decode cX1_toNext 4 = .ok (.iload_n 2, 1) := db1_107.2.2.1
theorem dX1_toNext_5 : decode cX1_toNext 5 = .ok (.invokestatic 39, 3) := db1_107.2.2.2.1
theorem dX1_toNext_8 : decode cX1_toNext 8 = .ok (.aload_n 0, 1) := db1_107.2.2.2.2.1
theorem dX1_toNext_9 : decode cX1_toNext 9 = .ok (.getfield 9, 3) := db1_107.2.2.2.2.2.1
theorem dX1_toNext_12 : decode cX1_toNext 12 = .ok (.iload_n 1, 1) := db1_107.2.2.2.2.2.2.1
theorem dX1_toNext_13 : decode cX1_toNext 13 = .ok (.iaload, 1) := db1_107.2.2.2.2.2.2.2.1
theorem dX1_toNext_14 : decode cX1_toNext 14 = .ok (.aload_n 0, 1) := db1_107.2.2.2.2.2.2.2.2.1
theorem dX1_toNext_15 : decode cX1_toNext 15 = .ok (.getfield 9, 3) := db1_107.2.2.2.2.2.2.2.2.2.1
theorem dX1_toNext_18 : decode cX1_toNext 18 = .ok (.iload_n 2, 1) := db1_107.2.2.2.2.2.2.2.2.2.2.1
theorem dX1_toNext_19 : decode cX1_toNext 19 = .ok (.iaload, 1) := db1_107.2.2.2.2.2.2.2.2.2.2.2.1
theorem dX1_toNext_20 : decode cX1_toNext 20 = .ok (.invokestatic 153, 3) := db1_107.2.2.2.2.2.2.2.2.2.2.2.2.1
theorem dX1_toNext_23 : decode cX1_toNext 23 = .ok (.ifCond .eq 8, 3) := db1_107.2.2.2.2.2.2.2.2.2.2.2.2.2.1
theorem dX1_toNext_26 : decode cX1_toNext 26 = .ok (.aload_n 0, 1) := db1_107.2.2.2.2.2.2.2.2.2.2.2.2.2.2.1
theorem dX1_toNext_27 : decode cX1_toNext 27 = .ok (.invokevirtual 156, 3) := db1_107.2.2.2.2.2.2.2.2.2.2.2.2.2.2.2
theorem db1_108 : (decode cX1_toNext 30 = .ok (.ireturn, 1)) ∧ (decode cX1_toNext 31 = .ok (.aload_n 0, 1)) ∧ (decode cX1_toNext 32 = .ok (.getfield 9, 3)) ∧ (decode cX1_toNext 35 = .ok (.iload_n 1, 1)) ∧ (decode cX1_toNext 36 = .ok (.iaload, 1)) ∧ (decode cX1_toNext 37 = .ok (.aload_n 0, 1)) ∧ (decode cX1_toNext 38 = .ok (.getfield 9, 3)) ∧ (decode cX1_toNext 41 = .ok (.iload_n 2, 1)) ∧ (decode cX1_toNext 42 = .ok (.iaload, 1)) ∧ (decode cX1_toNext 43 = .ok (.iload_n 3, 1)) ∧ (decode cX1_toNext 44 = .ok (.invokestatic 160, 3)) ∧ (decode cX1_toNext 47 = .ok (.iconst 1, 1)) ∧ (decode cX1_toNext 48 = .ok (.iadd, 1)) ∧ (decode cX1_toNext 49 = .ok (.istore 4, 2)) ∧ (decode cX1_toNext 51 = .ok (.aload_n 0, 1)) ∧ (decode cX1_toNext 52 = .ok (.getfield 9, 3)) := by decide +kernel
theorem dX1_toNext_30 : decode cX1_toNext 30 = .ok (.ireturn, 1) := db1_108.1
theorem dX1_toNext_31 : decode cX1_toNext 31 = .ok (.aload_n 0, 1) := db1_108.2.1
theorem dX1_toNext_32 : decode cX1_toNext 32 = .ok (.getfield 9, 3) := db1_108.2.2.1
theorem dX1_toNext_35 : decode cX1_toNext 35 = .ok (.iload_n 1, 1) := db1_108.2.2.2.1
theorem dX1_toNext_36 : decode cX1_toNext 36 = .ok (.iaload, 1) := db1_108.2.2.2.2.1
theorem dX1_toNext_37 : decode cX1_toNext 37 = .ok (.aload_n 0, 1) := db1_108.2.2.2.2.2.1
theorem dX1_toNext_38 : decode cX1_toNext 38 = .ok (.getfield 9, 3) := db1_108.2.2.2.2.2.2.1
theorem dX1_toNext_41 : decode cX1_toNext 41 = .ok (.iload_n 2, 1) := db1_108.2.2.2.2.2.2.2.1
theorem dX1_toNext_42 : decode cX1_toNext 42 = .ok (.iaload, 1) := db1_108.2.2.2.2.2.2.2.2.1
theorem dX1_toNext_43 : decode cX1_toNext 43 = .ok (.iload_n 3, 1) := db1_108.2.2.2.2.2.2.2.2.2.1
theorem dX1_toNext_44 : decode cX1_toNext 44 = .ok (.invokestatic 160, 3) := db1_108.2.2.2.2.2.2.2.2.2.2.1
theorem dX1_toNext_47 : decode cX1_toNext 47 = .ok (.iconst 1, 1) := db1_108.2.2.2.2.2.2.2.2.2.2.2.1
theorem dX1_toNext_48 : decode cX1_toNext 48 = .ok (.iadd, 1) := db1_108.2.2.2.2.2.2.2.2.2.2.2.2.1
theorem dX1_toNext_49 : decode cX1_toNext 49 = .ok (.istore 4, 2) := db1_108.2.2.2.2.2.2.2.2.2.2.2.2.2.1
theorem dX1_toNext_51 : decode cX1_toNext 51 = .ok (.aload_n 0, 1) := db1_108.2.2.2.2.2.2.2.2.2.2.2.2.2.2.1
theorem dX1_toNext_52 : decode cX1_toNext 52 = .ok (.getfield 9, 3) := db1_108.2.2.2.2.2.2.2.2.2.2.2.2.2.2.2
theorem db1_109 : (decode cX1_toNext 55 = .ok (.iload_n 1, 1)) ∧ (decode cX1_toNext 56 = .ok (.iaload, 1)) ∧ (decode cX1_toNext 57 = .ok (.iload 4, 2)) ∧ (decode cX1_toNext 59 = .ok (.iload_n 3, 1)) ∧ (decode cX1_toNext 60 = .ok (.invokestatic 164, 3)) ∧ (decode cX1_toNext 63 = .ok (.aload_n 0, 1)) ∧ (decode cX1_toNext 64 = .ok (.getfield 9, 3)) ∧ (decode cX1_toNext 67 = .ok (.iload_n 2, 1)) ∧ (decode cX1_toNext 68 = .ok (.iaload, 1)) ∧ (decode cX1_toNext 69 = .ok (.isub, 1)) ∧ (decode cX1_toNext 70 = .ok (.ireturn, 1)) := by decide +kernel
theorem dX1_toNext_55 : decode cX1_toNext 55 = .ok (.iload_n 1, 1) := db1_109.1
theorem dX1_toNext_56 : decode cX1_toNext 56 = .ok (.iaload, 1) := db1_109.2.1
theorem dX1_toNext_57 : decode cX1_toNext 57 = .ok (.iload 4, 2) := db1_109.2.2.1
theorem dX1_toNext_59 : decode cX1_toNext 59 = .ok (.iload_n 3, 1) := db1_109.2.2.2.1
theorem dX1_toNext_60 : decode cX1_toNext 60 = .ok (.invokestatic 164, 3) := db1_109.2.2.2.2.1
theorem dX1_toNext_63 : decode cX1_toNext 63 = .ok (.aload_n 0, 1) := db1_109.2.2.2.2.2.1
theorem dX1_toNext_64 : decode cX1_toNext 64 = .ok (.getfield 9, 3) := db1_109.2.2.2.2.2.2.1
theorem dX1_toNext_67 : decode cX1_toNext 67 = .ok (.iload_n 2, 1) := db1_109.2.2.2.2.2.2.2.1
theorem dX1_toNext_68 : decode cX1_toNext 68 = .ok (.iaload, 1) := db1_109.2.2.2.2.2.2.2.2.1
theorem dX1_toNext_69 : decode cX1_toNext 69 = .ok (.isub, 1) := db1_109.2.2.2.2.2.2.2.2.2.1
theorem dX1_toNext_70 : decode cX1_toNext 70 = .ok (.ireturn, 1) := db1_109.2.2.2.2.2.2.2.2.2.2
theorem db1_110 : (decode cX1_wholeMonths 0 = .ok (.iload_n 1, 1)) ∧ (decode cX1_wholeMonths 1 = .ok (.invokestatic 39, 3)) ∧ (decode cX1_wholeMonths 4 = .ok (.iload_n 2, 1)) ∧ (decode cX1_wholeMonths 5 = .ok (.invokestatic 39, 3)) ∧ (decode cX1_wholeMonths 8 = .ok (.aload_n 0, 1)) ∧ (decode cX1_wholeMonths 9 = .ok (.getfield 9, 3)) ∧ (decode cX1_wholeMonths 12 = .ok (.iload_n 2, 1)) ∧ (decode cX1_wholeMonths 13 = .ok (.iaload, 1)) ∧ (decode cX1_wholeMonths 14 = .ok (.aload_n 0, 1)) ∧ (decode cX1_wholeMonths 15 = .ok (.getfield 9, 3)) ∧ (decode cX1_wholeMonths 18 = .ok (.iload_n 1, 1)) ∧ (decode cX1_wholeMonths 19 = .ok (.iaload, 1)) ∧ (decode cX1_wholeMonths 20 = .ok (.if_icmp .ge 20, 3)) ∧ (decode cX1_wholeMonths 23 = .ok (.aload_n 0, 1)) ∧ (decode cX1_wholeMonths 24 = .ok (.getfield 9, 3)) ∧ (decode cX1_wholeMonths 27 = .ok (.iload_n 2, 1)) := by decide +kernel
theorem dX1_wholeMonths_0 : decode cX1_wholeMonths 0 = .ok (.iload_n 1, 1) := db1_110.1
theorem dX1_wholeMonths_1 : decode cX1_wholeMonths 1 = .ok (.invokestatic 39, 3) := db1_110.2.1
theorem dX1_wholeMonths_4 : decode cX1_wholeMonths 4 = .ok (.iload_n 2, 1) := db1_110.2.2.1
theorem dX1_wholeMonths_5 : decode cX1_wholeMonths 5 = .ok (.invokestatic 39, 3) := db1_110.2.2.2.1
theorem dX1_wholeMonths_8 : decode cX1_wholeMonths 8 = .ok (.aload_n 0, 1) := db1_110.2.2.2.2.1
theorem dX1_wholeMonths_9 : decode cX1_wholeMonths 9 = .ok (.getfield 9, 3) := db1_110.2.2.2.2.2.1
theorem dX1_wholeMonths_12 : decode cX1_wholeMonths 12 = .ok (.iload_n 2, 1) := db1_110.2.2.2.2.2.2.1
theorem dX1_wholeMonths_13 : decode cX1_wholeMonths 13 = .ok (.iaload, 1) := db1_110.2.2.2.2.2.2.2.1
theorem dX1_wholeMonths_14 : decode cX1_wholeMonths 14 = .ok (.aload_n 0, 1) := db1_110.2.2.2.2.2.2.2.2.1
theorem dX1_wholeMonths_15 : decode cX1_wholeMonths 15 = .ok (.getfield 9, 3) := db1_110.2.2.2.2.2.2.2.2.2.1
theorem dX1_wholeMonths_18 : decode cX1_wholeMonths 18 = .ok (.iload_n 1, 1) := db1_110.2.2.2.2.2.2.2.2.2.2.1
theorem dX1_wholeMonths_19 : decode cX1_wholeMonths 19 = .ok (.iaload, 1) := db1_110.2.2.2.2.2.2.2.2.2.2.2.1
theorem dX1_wholeMonths_20 : decode cX1_wholeMonths 20 = .ok (.if_icmp .ge 20, 3) := db1_110.2.2.2.2.2.2.2.2.2.2.2.2.1
theorem dX1_wholeMonths_23 : decode cX1_wholeMonths 23 = .ok (.aload_n 0, 1) := db1_110.2.2.2.2.2.2.2.2.2.2.2.2.2.1
theorem dX1_wholeMonths_24 : decode cX1_wholeMonths 24 = .ok (.getfield 9, 3) := db1_110.2.2.2.2.2.2.2.2.2.2.2.2.2.2.1
theorem dX1_wholeMonths_27 : decode cX1_wholeMonths 27 = .ok (.iload_n 2, 1) := db1_110.2.2.2.2.2.2.2.2.2.2.2.2.2.2.2
theorem db1_111 : (decode cX1_wholeMonths 28 = .ok (.iaload, 1)) ∧ (decode cX1_wholeMonths 29 = .ok (.aload_n 0, 1)) ∧ (decode cX1_wholeMonths 30 = .ok (.getfield 9, 3)) ∧ (decode cX1_wholeMonths 33 = .ok (.iload_n 1, 1)) ∧ (decode cX1_wholeMonths 34 = .ok (.iaload, 1)) ∧ (decode cX1_wholeMonths 35 = .ok (.invokestatic 111, 3)) ∧ (decode cX1_wholeMonths 38 = .ok (.ineg, 1)) ∧ (decode cX1_wholeMonths 39 = .ok (.ireturn, 1)) ∧ (decode cX1_wholeMonths 40 = .ok (.aload_n 0, 1)) ∧ (decode cX1_wholeMonths 41 = .ok (.getfield 9, 3)) ∧ (decode cX1_wholeMonths 44 = .ok (.iload_n 1, 1)) ∧ (decode cX1_wholeMonths 45 = .ok (.iaload, 1)) ∧ (decode cX1_wholeMonths 46 = .ok (.aload_n 0, 1)) ∧ (decode cX1_wholeMonths 47 = .ok (.getfield 9, 3)) ∧ (decode cX1_wholeMonths 50 = .ok (.iload_n 2, 1)) ∧ (decode cX1_wholeMonths 51 = .ok (.iaload, 1)) := by decide +kernel
theorem dX1_wholeMonths_28 : decode cX1_wholeMonths 28 = .ok (.iaload, 1) := db1_111.1
theorem dX1_wholeMonths_29 : decode cX1_wholeMonths 29 = .ok (.aload_n 0, 1) := db1_111.2.1
theorem dX1_wholeMonths_30 : decode cX1_wholeMonths 30 = .ok (.getfield 9, 3) := db1_111.2.2.1
theorem dX1_wholeMonths_33 : decode cX1_wholeMonths 33 = .ok (.iload_n 1, 1) := db1_111.2.2.2.1
theorem dX1_wholeMonths_34 : decode cX1_wholeMonths 34 = .ok (.iaload, 1) := db1_111.2.2.2.2.1
theorem dX1_wholeMonths_35 : decode cX1_wholeMonths 35 = .ok (.invokestatic 111, 3) := db1_111.2.2.2.2.2.1
theorem dX1_wholeMonths_38 : decode cX1_wholeMonths 38 = .ok (.ineg, 1) := db1_111.2.2.2.2.2.2.1
theorem dX1_wholeMonths_39 : decode cX1_wholeMonths 39 = .ok (.ireturn, 1) := db1_111.2.2.2.2.2.2.2.1
theorem dX1_wholeMonths_40 : decode cX1_wholeMonths 40 = .ok (.aload_n 0, 1) := db1_111.2.2.2.2.2.2.2.2.1
theorem dX1_wholeMonths_41 : decode cX1_wholeMonths 41 = .ok (.getfield 9, 3) := db1_111.2.2.2.2.2.2.2.2.2.1
theorem dX1_wholeMonths_44 : decode cX1_wholeMonths 44 = .ok (.iload_n 1, 1) := db1_111.2.2.2.2.2.2.2.2.2.2.1
theorem dX1_wholeMonths_45 : decode cX1_wholeMonths 45 = .ok (.iaload, 1) := db1_111.2.2.2.2.2.2.2.2.2.2.2.1
theorem dX1_wholeMonths_46 : decode cX1_wholeMonths 46 = .ok (.aload_n 0, 1) := db1_111.2.2.2.2.2.2.2.2.2.2.2.2.1
theorem dX1_wholeMonths_47 : decode cX1_wholeMonths 47 = .ok (.getfield 9, 3) := db1_111.2.2.2.2.2.2.2.2.2.2.2.2.2.1
theorem dX1_wholeMonths_50 : decode cX1_wholeMonths 50 = .ok (.iload_n 2, 1) := db1_111.2.2.2.2.2.2.2.2.2.2.2.2.2.2.1
theorem dX1_wholeMonths_51 : decode cX1_wholeMonths 51 = .ok (.iaload, 1) := db1_111.2.2.2.2.2.2.2.2.2.2.2.2.2.2.2
theorem db1_112 : (decode cX1_wholeMonths 52 = .ok (.invokestatic 111, 3)) ∧ (decode cX1_wholeMonths 55 = .ok (.ireturn, 1)) := by decide +kernel
theorem dX1_wholeMonths_52 : decode cX1_wholeMonths 52 = .ok (.invokestatic 111, 3) := db1_112.1
theorem dX1_wholeMonths_55 : decode cX1_wholeMonths 55 = .ok (.ireturn, 1) := db1_112.2
theorem db1_113 : (decode cX1_year 0 = .ok (.iload_n 1, 1)) ∧ (decode cX1_year 1 = .ok (.invokestatic 39, 3)) ∧ (decode cX1_year 4 = .ok (.aload_n 0, 1)) ∧ (decode cX1_year 5 = .ok (.getfield 9, 3)) ∧ (decode cX1_year 8 = .ok (.iload_n 1, 1)) ∧ (decode cX1_year 9 = .ok (.iaload, 1)) ∧ (decode cX1_year 10 = .ok (.invokestatic 167, 3)) ∧ (decode cX1_year 13 = .ok (.ireturn, 1)) := by decide +kernel
theorem dX1_year_0 : decode cX1_year 0 = .ok (.iload_n 1, 1) := db1_113.1
theorem dX1_year_1 : decode cX1_year 1 = .ok (.invokestatic 39, 3) := db1_113.2.1
theorem dX1_year_4 : decode cX1_year 4 = .ok (.aload_n 0, 1) := db1_113.2.2.1
theorem dX1_year_5 : decode cX1_year 5 = .ok (.getfield 9, 3) := db1_113.2.2.2.1
theorem dX1_year_8 : decode cX1_year 8 = .ok (.iload_n 1, 1) := db1_113.2.2.2.2.1
theorem dX1_year_9 : decode cX1_year 9 = .ok (.iaload, 1) := db1_113.2.2.2.2.2.1
theorem dX1_year_10 : decode cX1_year 10 = .ok (.invokestatic 167, 3) := db1_113.2.2.2.2.2.2.1
theorem dX1_year_13 : decode cX1_year 13 = .ok (.ireturn, 1) := db1_113.2.2.2.2.2.2.2
theorem db1_114 : (decode cX1_monthOfYear 0 = .ok (.iload_n 1, 1)) ∧ (decode cX1_monthOfYear 1 = .ok (.invokestatic 39, 3)) ∧ (decode cX1_monthOfYear 4 = .ok (.aload_n 0, 1)) ∧ (decode cX1_monthOfYear 5 = .ok (.getfield 9, 3)) ∧ (decode cX1_monthOfYear 8 = .ok (.iload_n 1, 1)) ∧ (decode cX1_monthOfYear 9 = .ok (.iaload, 1)) ∧ (decode cX1_monthOfYear 10 = .ok (.invokestatic 72, 3)) ∧ (decode cX1_monthOfYear 13 = .ok (.invokestatic 142, 3)) ∧ (decode cX1_monthOfYear 16 = .ok (.ireturn, 1)) := by decide +kernel
theorem dX1_monthOfYear_0 : decode cX1_monthOfYear 0 = .ok (.iload_n 1, 1) := db1_114.1
theorem dX1_monthOfYear_1 : decode cX1_monthOfYear 1 = .ok (.invokestatic 39, 3) := db1_114.2.1
theorem dX1_monthOfYear_4 : decode cX1_monthOfYear 4 = .ok (.aload_n 0, 1) := db1_114.2.2.1
theorem dX1_monthOfYear_5 : decode cX1_monthOfYear 5 = .ok (.getfield 9, 3) := db1_114.2.2.2.1
theorem dX1_monthOfYear_8 : decode cX1_monthOfYear 8 = .ok (.iload_n 1, 1) := db1_114.2.2.2.2.1
theorem dX1_monthOfYear_9 : decode cX1_monthOfYear 9 = .ok (.iaload, 1) := db1_114.2.2.2.2.2.1
theorem dX1_monthOfYear_10 : decode cX1_monthOfYear 10 = .ok (.invokestatic 72, 3) := db1_114.2.2.2.2.2.2.1
theorem dX1_monthOfYear_13 : decode cX1_monthOfYear 13 = .ok (.invokestatic 142, 3) := db1_114.2.2.2.2.2.2.2.1
theorem dX1_monthOfYear_16 : decode cX1_monthOfYear 16 = .ok (.ireturn, 1) := db1_114.2.2.2.2.2.2.2.2
theorem db1_115 : (decode cX1_day 0 = .ok (.iload_n 1, 1)) ∧ (decode cX1_day 1 = .ok (.invokestatic 39, 3)) ∧ (decode cX1_day 4 = .ok (.aload_n 0, 1)) ∧ (decode cX1_day 5 = .ok (.getfield 9, 3)) ∧ (decode cX1_day 8 = .ok (.iload_n 1, 1)) ∧ (decode cX1_day 9 = .ok (.iaload, 1)) ∧ (decode cX1_day 10 = .ok (.invokestatic 69, 3)) ∧ (decode cX1_day 13 = .ok (.ireturn, 1)) := by decide +kernel
theorem dX1_day_0 : decode cX1_day 0 = .ok (.iload_n 1, 1) := db1_115.1
theorem dX1_day_1 : decode cX1_day 1 = .ok (.invokestatic 39, 3) := db1_115.2.1
theorem dX1_day_4 : decode cX1_day 4 = .ok (.aload_n 0, 1) := db1_115.2.2.1
theorem dX1_day_5 : decode cX1_day 5 = .ok (.getfield 9, 3) := db1_115.2.2.2.1
theorem dX1_day_8 : decode cX1_day 8 = .ok (.iload_n 1, 1) := db1_115.2.2.2.2.1
theorem dX1_day_9 : decode cX1_day 9 = .ok (.iaload, 1) := db1_115.2.2.2.2.2.1
theorem dX1_day_10 : decode cX1_day 10 = .ok (.invokestatic 69, 3) := db1_115.2.2.2.2.2.2.1
theorem dX1_day_13 : decode cX1_day 13 = .ok (.ireturn, 1) := db1_115.2.2.2.2.2.2.2
theorem db1_116 : (decode cX1_dayOfYear 0 = .ok (.iload_n 1, 1)) ∧ (decode cX1_dayOfYear 1 = .ok (.invokestatic 39, 3)) ∧ (decode cX1_dayOfYear 4 = .ok (.bipush 12, 2)) ∧ (decode cX1_dayOfYear 6 = .ok (.aload_n 0, 1)) ∧ (decode cX1_dayOfYear 7 = .ok (.getfield 9, 3)) ∧ (decode cX1_dayOfYear 10 = .ok (.iload_n 1, 1)) ∧ (decode cX1_dayOfYear 11 = .ok (.iaload, 1)) ∧ (decode cX1_dayOfYear 12 = .ok (.invokestatic 167, 3)) ∧ (decode cX1_dayOfYear 15 = .ok (.imul, 1)) ∧ (decode cX1_dayOfYear 16 = .ok (.istore_n 2, 1)) ∧ (decode cX1_dayOfYear 17 = .ok (.aload_n 0, 1)) ∧ (decode cX1_dayOfYear 18 = .ok (.getfield 9, 3)) ∧ (decode cX1_dayOfYear 21 = .ok (.iload_n 1, 1)) ∧ (decode cX1_dayOfYear 22 = .ok (.iaload, 1)) ∧ (decode cX1_dayOfYear 23 = .ok (.iload_n 2, 1)) ∧ (decode cX1_dayOfYear 24 = .ok (.invokestatic 75, 3)) := by decide +kernel
theorem dX1_dayOfYear_0 : decode cX1_dayOfYear 0 = .ok (.iload_n 1, 1) := db1_116.1
theorem dX1_dayOfYear_1 : decode cX1_dayOfYear 1 = .ok (.invokestatic 39, 3) := db1_116.2.1
theorem dX1_dayOfYear_4 : decode cX1_dayOfYear 4 = .ok (.bipush 12, 2) := db1_116.2.2.1
theorem dX1_dayOfYear_6 : decode cX1_dayOfYear 6 = .ok (.aload_n 0, 1) := db1_116.2.2.2.1
theorem dX1_dayOfYear_7 : decode cX1_dayOfYear 7 = .ok (.getfield 9, 3) := db1_116.2.2.2.2.1
theorem dX1_dayOfYear_10 : decode cX1_dayOfYear 10 = .ok (.iload_n 1, 1) := db1_116.2.2.2.2.2.1
theorem dX1_dayOfYear_11 : decode cX1_dayOfYear 11 = .ok (.iaload, 1) := db1_116.2.2.2.2.2.2.1
theorem dX1_dayOfYear_12 : decode cX1_dayOfYear 12 = .ok (.invokestatic 167, 3) := db1_116.2.2.2.2.2.2.2.1
theorem dX1_dayOfYear_15 : decode cX1_dayOfYear 15 = .ok (.imul, 1) := db1_116.2.2.2.2.2.2.2.2.1
theorem dX1_dayOfYear_16 : decode cX1_dayOfYear 16 = .ok (.istore_n 2, 1) := db1_116.2.2.2.2.2.2.2.2.2.1
theorem dX1_dayOfYear_17 : decode cX1_dayOfYear 17 = .ok (.aload_n 0, 1) := db1_116.2.2.2.2.2.2.2.2.2.2.1
theorem dX1_dayOfYear_18 : decode cX1_dayOfYear 18 = .ok (.getfield 9, 3) := db1_116.2.2.2.2.2.2.2.2.2.2.2.1
theorem dX1_dayOfYear_21 : decode cX1_dayOfYear 21 = .ok (.iload_n 1, 1) := db1_116.2.2.2.2.2.2.2.2.2.2.2.2.1
theorem dX1_dayOfYear_22 : decode cX1_dayOfYear 22 = .ok (.iaload, 1) := db1_116.2.2.2.2.2.2.2.2.2.2.2.2.2.1
theorem dX1_dayOfYear_23 : decode cX1_dayOfYear 23 = .ok (.iload_n 2, 1) := db1_116.2.2.2.2.2.2.2.2.2.2.2.2.2.2.1
theorem dX1_dayOfYear_24 : decode cX1_dayOfYear 24 = .ok (.invokestatic 75, 3) := db1_116.2.2.2.2.2.2.2.2.2.2.2.2.2.2.2
theorem db1_117 : (decode cX1_dayOfYear 27 = .ok (.isub, 1)) ∧ (decode cX1_dayOfYear 28 = .ok (.iconst 1, 1)) ∧ (decode cX1_dayOfYear 29 = .ok (.iadd, 1)) ∧ (decode cX1_dayOfYear 30 = .ok (.ireturn, 1)) := by decide +kernel
theorem dX1_dayOfYear_27 : decode cX1_dayOfYear 27 = .ok (.isub, 1) := db1_117.1
theorem dX1_dayOfYear_28 : decode cX1_dayOfYear 28 = .ok (.iconst 1, 1) := db1_117.2.1
theorem dX1_dayOfYear_29 : decode cX1_dayOfYear 29 = .ok (.iadd, 1) := db1_117.2.2.1
theorem dX1_dayOfYear_30 : decode cX1_dayOfYear 30 = .ok (.ireturn, 1) := db1_117.2.2.2
theorem db1_118 : (decode cX1_number 0 = .ok (.iload_n 1, 1)) ∧ (decode cX1_number 1 = .ok (.invokestatic 39, 3)) ∧ (decode cX1_number 4 = .ok (.aload_n 0, 1)) ∧ (decode cX1_number 5 = .ok (.getfield 9, 3)) ∧ (decode cX1_number 8 = .ok (.iload_n 1, 1)) ∧ (decode cX1_number 9 = .ok (.iaload, 1)) ∧ (decode cX1_number 10 = .ok (.ireturn, 1)) := by decide +kernel
theorem dX1_number_0 : decode cX1_number 0 = .ok (.iload_n 1, 1) := db1_118.1
theorem dX1_number_1 : decode cX1_number 1 = .ok (.invokestatic 39, 3) := db1_118.2.1
theorem dX1_number_4 : decode cX1_number 4 = .ok (.aload_n 0, 1) := db1_118.2.2.1
theorem dX1_number_5 : decode cX1_number 5 = .ok (.getfield 9, 3) := db1_118.2.2.2.1
theorem dX1_number_8 : decode cX1_number 8 = .ok (.iload_n 1, 1) := db1_118.2.2.2.2.1
theorem dX1_number_9 : decode cX1_number 9 = .ok (.iaload, 1) := db1_118.2.2.2.2.2.1
theorem dX1_number_10 : decode cX1_number 10 = .ok (.ireturn, 1) := db1_118.2.2.2.2.2.2
theorem db1_119 : (decode cX1_lengthOfMonth 0 = .ok (.iload_n 1, 1)) ∧ (decode cX1_lengthOfMonth 1 = .ok (.invokestatic 39, 3)) ∧ (decode cX1_lengthOfMonth 4 = .ok (.aload_n 0, 1)) ∧ (decode cX1_lengthOfMonth 5 = .ok (.getfield 9, 3)) ∧ (decode cX1_lengthOfMonth 8 = .ok (.iload_n 1, 1)) ∧ (decode cX1_lengthOfMonth 9 = .ok (.iaload, 1)) ∧ (decode cX1_lengthOfMonth 10 = .ok (.invokestatic 72, 3)) ∧ (decode cX1_lengthOfMonth 13 = .ok (.invokestatic 145, 3)) ∧ (decode cX1_lengthOfMonth 16 = .ok (.ireturn, 1)) := by decide +kernel
theorem dX1_lengthOfMonth_0 : decode cX1_lengthOfMonth 0 = .ok (.iload_n 1, 1) := db1_119.1
theorem dX1_lengthOfMonth_1 : decode cX1_lengthOfMonth 1 = .ok (.invokestatic 39, 3) := db1_119.2.1
theorem dX1_lengthOfMonth_4 : decode cX1_lengthOfMonth 4 = .ok (.aload_n 0, 1) := db1_119.2.2.1
theorem dX1_lengthOfMonth_5 : decode cX1_lengthOfMonth 5 = .ok (.getfield 9, 3) := db1_119.2.2.2.1
theorem dX1_lengthOfMonth_8 : decode cX1_lengthOfMonth 8 = .ok (.iload_n 1, 1) := db1_119.2.2.2.2.1
theorem dX1_lengthOfMonth_9 : decode cX1_lengthOfMonth 9 = .ok (.iaload, 1) := db1_119.2.2.2.2.2.1
theorem dX1_lengthOfMonth_10 : decode cX1_lengthOfMonth 10 = .ok (.invokestatic 72, 3) := db1_119.2.2.2.2.2.2.1
theorem dX1_lengthOfMonth_13 : decode cX1_lengthOfMonth 13 = .ok (.invokestatic 145, 3) := db1_119.2.2.2.2.2.2.2.1
theorem dX1_lengthOfMonth_16 : decode cX1_lengthOfMonth 16 = .ok (.ireturn, 1) := db1_119.2.2.2.2.2.2.2.2
theorem db1_120 : (decode cX1_isLeapYear 0 = .ok (.iload_n 1, 1)) ∧ (decode cX1_isLeapYear 1 = .ok (.invokestatic 39, 3)) ∧ (decode cX1_isLeapYear 4 = .ok (.aload_n 0, 1)) ∧ (decode cX1_isLeapYear 5 = .ok (.getfield 9, 3)) ∧ (decode cX1_isLeapYear 8 = .ok (.iload_n 1, 1)) ∧ (decode cX1_isLeapYear 9 = .ok (.iaload, 1)) ∧ (decode cX1_isLeapYear 10 = .ok (.invokestatic 167, 3)) ∧ (decode cX1_isLeapYear 13 = .ok (.invokestatic 170, 3)) ∧ (decode cX1_isLeapYear 16 = .ok (.ireturn, 1)) := by decide +kernel
theorem dX1_isLeapYear_0 : decode cX1_isLeapYear 0 = .ok (.iload_n 1, 1) := db1_120.1
theorem dX1_isLeapYear_1 : decode cX1_isLeapYear 1 = .ok (.invokestatic 39, 3) := db1_120.2.1
theorem dX1_isLeapYear_4 : decode cX1_isLeapYear 4 = .ok (.aload_n 0, 1) := db1_120.2.2.1
theorem dX1_isLeapYear_5 : decode cX1_isLeapYear 5 = .ok (.getfield 9, 3) := db1_120.2.2.2.1
theorem dX1_isLeapYear_8 : decode cX1_isLeapYear 8 = .ok (.iload_n 1, 1) := db1_120.2.2.2.2.1
theorem dX1_isLeapYear_9 : decode cX1_isLeapYear 9 = .ok (.iaload, 1) := db1_120.2.2.2.2.2.1
theorem dX1_isLeapYear_10 : decode cX1_isLeapYear 10 = .ok (.invokestatic 167, 3) := db1_120.2.2.2.2.2.2.1
theorem dX1_isLeapYear_13 : decode cX1_isLeapYear 13 = .ok (.invokestatic 170, 3) := db1_120.2.2.2.2.2.2.2.1
theorem dX1_isLeapYear_16 : decode cX1_isLeapYear 16 = .ok (.ireturn, 1) := db1_120.2.2.2.2.2.2.2.2
theorem db1_121 : (decode cX1_text 0 = .ok (.iload_n 1, 1)) ∧ (decode cX1_text 1 = .ok (.invokestatic 39, 3)) ∧ (decode cX1_text 4 = .ok (.aload_n 0, 1)) ∧ (decode cX1_text 5 = .ok (.getfield 9, 3)) ∧ (decode cX1_text 8 = .ok (.iload_n 1, 1)) ∧ (decode cX1_text 9 = .ok (.iaload, 1)) ∧ (decode cX1_text 10 = .ok (.invokestatic 72, 3)) ∧ (decode cX1_text 13 = .ok (.istore_n 2, 1)) ∧ (decode cX1_text 14 = .ok (.iload_n 2, 1)) ∧ (decode cX1_text 15 = .ok (.invokestatic 139, 3)) ∧ (decode cX1_text 18 = .ok (.istore_n 3, 1)) ∧ (decode cX1_text 19 = .ok (.aload_n 0, 1)) ∧ (decode cX1_text 20 = .ok (.getfield 25, 3)) ∧ (decode cX1_text 23 = .ok (.iconst 0, 1)) ∧ (decode cX1_text 24 = .ok (.invokevirtual 125, 3)) ∧ (decode cX1_text 27 = .ok (.iload_n 3, 1)) := by decide +kernel
theorem dX1_text_0 : decode cX1_text 0 = .ok (.iload_n 1, 1) := db1_121.1
theorem dX1_text_1 : decode cX1_text 1 = .ok (.invokestatic 39, 3) := db1_121.2.1
theorem dX1_text_4 : decode cX1_text 4 = .ok (.aload_n 0, 1) := db1_121.2.2.1
theorem dX1_text_5 : decode cX1_text 5 = .ok (.getfield 9, 3) := db1_121.2.2.2.1
theorem dX1_text_8 : decode cX1_text 8 = .ok (.iload_n 1, 1) := db1_121.2.2.2.2.1
theorem dX1_text_9 : decode cX1_text 9 = .ok (.iaload, 1) := db1_121.2.2.2.2.2.1
theorem dX1_text_10 : decode cX1_text 10 = .ok (.invokestatic 72, 3) := db1_121.2.2.2.2.2.2.1
theorem dX1_text_13 : decode cX1_text 13 = .ok (.istore_n 2, 1) := db1_121.2.2.2.2.2.2.2.1
theorem dX1_text_14 : decode cX1_text 14 = .ok (.iload_n 2, 1) := db1_121.2.2.2.2.2.2.2.2.1
theorem dX1_text_15 : decode cX1_text 15 = .ok (.invokestatic 139, 3) := db1_121.2.2.2.2.2.2.2.2.2.1
theorem dX1_text_18 : decode cX1_text 18 = .ok (.istore_n 3, 1) := db1_121.2.2.2.2.2.2.2.2.2.2.1
theorem dX1_text_19 : decode cX1_text 19 = .ok (.aload_n 0, 1) := db1_121.2.2.2.2.2.2.2.2.2.2.2.1
theorem dX1_text_20 : decode cX1_text 20 = .ok (.getfield 25, 3) := db1_121.2.2.2.2.2.2.2.2.2.2.2.2.1
theorem dX1_text_23 : decode cX1_text 23 = .ok (.iconst 0, 1) := db1_121.2.2.2.2.2.2.2.2.2.2.2.2.2.1
theorem dX1_text_24 : decode cX1_text 24 = .ok (.invokevirtual 125, 3) := db1_121.2.2.2.2.2.2.2.2.2.2.2.2.2.2.1
theorem dX1_text_27 : decode cX1_text 27 = .ok (.iload_n 3, 1) := db1_121.2.2.2.2.2.2.2.2.2.2.2.2.2.2.2
theorem db1_122 : (decode cX1_text 28 = .ok (.ifCond .ge 13, 3)) ∧ (decode cX1_text 31 = .ok (.aload_n 0, 1)) ∧ (decode cX1_text 32 = .ok (.getfield 25, 3)) ∧ (decode cX1_text 35 = .ok (.bipush 45, 2)) ∧ (decode cX1_text 37 = .ok (.invokevirtual 132, 3)) ∧ (decode cX1_text 40 = .ok (.pop, 1)) ∧ (decode cX1_text 41 = .ok (.iload_n 3, 1)) ∧ (decode cX1_text 42 = .ok (.invokestatic 174, 3)) ∧ (decode cX1_text 45 = .ok (.istore 4, 2)) ∧ (decode cX1_text 47 = .ok (.aload_n 0, 1)) ∧ (decode cX1_text 48 = .ok (.iload 4, 2)) ∧ (decode cX1_text 50 = .ok (.bipush 100, 2)) ∧ (decode cX1_text 52 = .ok (.idiv, 1)) ∧ (decode cX1_text 53 = .ok (.invokevirtual 177, 3)) ∧ (decode cX1_text 56 = .ok (.aload_n 0, 1)) ∧ (decode cX1_text 57 = .ok (.iload 4, 2)) := by decide +kernel
theorem dX1_text_28 : decode cX1_text 28 = .ok (.ifCond .ge 13, 3) := db1_122.1
theorem dX1_text_31 : decode cX1_text 31 = .ok (.aload_n 0, 1) := db1_122.2.1
theorem dX1_text_32 : decode cX1_text 32 = .ok (.getfield 25, 3) := db1_122.2.2.1
theorem dX1_text_35 : decode cX1_text 35 = .ok (.bipush 45, 2) := db1_122.2.2.2.1
theorem dX1_text_37 : decode cX1_text 37 = .ok (.invokevirtual 132, 3) := db1_122.2.2.2.2.1
theorem dX1_text_40 : decode cX1_text 40 = .ok (.pop, 1) := db1_122.2.2.2.2.2.1
theorem dX1_text_41 : decode cX1_text 41 = .ok (.iload_n 3, 1) := db1_122.2.2.2.2.2.2.1
theorem dX1_text_42 : decode cX1_text 42 = .ok (.invokestatic 174, 3) := db1_122.2.2.2.2.2.2.2.1
theorem dX1_text_45 : decode cX1_text 45 = .ok (.istore 4, 2) := db1_122.2.2.2.2.2.2.2.2.1
theorem dX1_text_47 : decode cX1_text 47 = .ok (.aload_n 0, 1) := db1_122.2.2.2.2.2.2.2.2.2.1
theorem dX1_text_48 : decode cX1_text 48 = .ok (.iload 4, 2) := db1_122.2.2.2.2.2.2.2.2.2.2.1
theorem dX1_text_50 : decode cX1_text 50 = .ok (.bipush 100, 2) := db1_122.2.2.2.2.2.2.2.2.2.2.2.1
theorem dX1_text_52 : decode cX1_text 52 = .ok (.idiv, 1) := db1_122.2.2.2.2.2.2.2.2.2.2.2.2.1
theorem dX1_text_53 : decode cX1_text 53 = .ok (.invokevirtual 177, 3) := db1_122.2.2.2.2.2.2.2.2.2.2.2.2.2.1
theorem dX1_text_56 : decode cX1_text 56 = .ok (.aload_n 0, 1) := db1_122.2.2.2.2.2.2.2.2.2.2.2.2.2.2.1
theorem dX1_text_57 : decode cX1_text 57 = .ok (.iload 4, 2) := db1_122.2.2.2.2.2.2.2.2.2.2.2.2.2.2.2
theorem db1_123 : (decode cX1_text 59 = .ok (.bipush 100, 2)) ∧ (decode cX1_text 61 = .ok (.irem, 1)) ∧ (decode cX1_text 62 = .ok (.invokevirtual 177, 3)) ∧ (decode cX1_text 65 = .ok (.aload_n 0, 1)) ∧ (decode cX1_text 66 = .ok (.getfield 25, 3)) ∧ (decode cX1_text 69 = .ok (.bipush 45, 2)) ∧ (decode cX1_text 71 = .ok (.invokevirtual 132, 3)) ∧ (decode cX1_text 74 = .ok (.pop, 1)) ∧ (decode cX1_text 75 = .ok (.aload_n 0, 1)) ∧ (decode cX1_text 76 = .ok (.iload_n 2, 1)) ∧ (decode cX1_text 77 = .ok (.invokestatic 142, 3)) ∧ (decode cX1_text 80 = .ok (.invokevirtual 177, 3)) ∧ (decode cX1_text 83 = .ok (.aload_n 0, 1)) ∧ (decode cX1_text 84 = .ok (.getfield 25, 3)) ∧ (decode cX1_text 87 = .ok (.bipush 45, 2)) ∧ (decode cX1_text 89 = .ok (.invokevirtual 132, 3)) := by decide +kernel
theorem dX1_text_59 : decode cX1_text 59 = .ok (.bipush 100, 2) := db1_123.1
theorem dX1_text_61 : decode cX1_text 61 = .ok (.irem, 1) := db1_123.2.1
theorem dX1_text_62 : decode cX1_text 62 = .ok (.invokevirtual 177, 3) := db1_123.2.2.1
theorem dX1_text_65 : decode cX1_text 65 = .ok (.aload_n 0, 1) := db1_123.2.2.2.1
theorem dX1_text_66 : decode cX1_text 66 = .ok (.getfield 25, 3) := db1_123.2.2.2.2.1
theorem dX1_text_69 : decode cX1_text 69 = .ok (.bipush 45, 2) := db1_123.2.2.2.2.2.1
theorem dX1_text_71 : decode cX1_text 71 = .ok (.invokevirtual 132, 3) := db1_123.2.2.2.2.2.2.1
theorem dX1_text_74 : decode cX1_text 74 = .ok (.pop, 1) := db1_123.2.2.2.2.2.2.2.1
theorem dX1_text_75 : decode cX1_text 75 = .ok (.aload_n 0, 1) := db1_123.2.2.2.2.2.2.2.2.1
theorem dX1_text_76 : decode cX1_text 76 = .ok (.iload_n 2, 1) := db1_123.2.2.2.2.2.2.2.2.2.1
theorem dX1_text_77 : decode cX1_text 77 = .ok (.invokestatic 142, 3) := db1_123.2.2.2.2.2.2.2.2.2.2.1
theorem dX1_text_80 : decode cX1_text 80 = .ok (.invokevirtual 177, 3) := db1_123.2.2.2.2.2.2.2.2.2.2.2.1
theorem dX1_text_83 : decode cX1_text 83 = .ok (.aload_n 0, 1) := db1_123.2.2.2.2.2.2.2.2.2.2.2.2.1
theorem dX1_text_84 : decode cX1_text 84 = .ok (.getfield 25, 3) := db1_123.2.2.2.2.2.2.2.2.2.2.2.2.2.1
theorem dX1_text_87 : decode cX1_text 87 = .ok (.bipush 45, 2) := db1_123.2.2.2.2.2.2.2.2.2.2.2.2.2.2.1
theorem dX1_text_89 : decode cX1_text 89 = .ok (.invokevirtual 132, 3) := db1_123.2.2.2.2.2.2.2.2.2.2.2.2.2.2.2
theorem db1_124 : (decode cX1_text 92 = .ok (.pop, 1)) ∧ (decode cX1_text 93 = .ok (.aload_n 0, 1)) ∧ (decode cX1_text 94 = .ok (.aload_n 0, 1)) ∧ (decode cX1_text 95 = .ok (.getfield 9, 3)) ∧ (decode cX1_text 98 = .ok (.iload_n 1, 1)) ∧ (decode cX1_text 99 = .ok (.iaload, 1)) ∧ (decode cX1_text 100 = .ok (.invokestatic 69, 3)) ∧ (decode cX1_text 103 = .ok (.invokevirtual 177, 3)) ∧ (decode cX1_text 106 = .ok (.aload_n 0, 1)) := by decide +kernel
theorem dX1_text_92 : decode cX1_text 92 = .ok (.pop, 1) := db1_124.1
theorem dX1_text_93 : decode cX1_text 93 = .ok (.aload_n 0, 1) := db1_124.2.1
theorem dX1_text_94 : decode cX1_text 94 = .ok (.aload_n 0, 1) := db1_124.2.2.1
theorem dX1_text_95 : decode cX1_text 95 = .ok (.getfield 9, 3) := db1_124.2.2.2.1
theorem dX1_text_98 : decode cX1_text 98 = .ok (.iload_n 1, 1) := db1_124.2.2.2.2.1
theorem dX1_text_99 : decode cX1_text 99 = .ok (.iaload, 1) := db1_124.2.2.2.2.2.1
theorem dX1_text_100 : decode cX1_text 100 = .ok (.invokestatic 69, 3) := db1_124.2.2.2.2.2.2.1
theorem dX1_text_103 : decode cX1_text 103 = .ok (.invokevirtual 177, 3) := db1_124.2.2.2.2.2.2.2.1
theorem dX1_text_106 : decode cX1_text 106 = .ok (.aload_n 0, 1) := db1_124.2.2.2.2.2.2.2.2
