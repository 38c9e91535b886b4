theorem db3_1 : (decode cX3_until 10 = .ok (.invokestatic 93, 3)) ∧ (decode cX3_until 13 = .ok (.ifCond .eq 7, 3)) ∧ (decode cX3_until 16 = .ok (.iconst 1, 1)) ∧ (decode cX3_until 17 = .ok (.goto 4, 3)) ∧ (decode cX3_until 20 = .ok (.iconst 0, 1)) ∧ (decode cX3_until 21 = .ok (.iload_n 2, 1)) ∧ (decode cX3_until 22 = .ok (.iload_n 3, 1)) ∧ (decode cX3_until 23 = .ok (.invokestatic 93, 3)) ∧ (decode cX3_until 26 = .ok (.ifCond .ne 16, 3)) ∧ (decode cX3_until 29 = .ok (.aload_n 0, 1)) ∧ (decode cX3_until 30 = .ok (.iload_n 3, 1)) ∧ (decode cX3_until 31 = .ok (.iload_n 2, 1)) ∧ (decode cX3_until 32 = .ok (.invokevirtual 125, 3)) ∧ (decode cX3_until 35 = .ok (.ifCond .eq 7, 3)) ∧ (decode cX3_until 38 = .ok (.iconst 1, 1)) ∧ (decode cX3_until 39 = .ok (.goto 4, 3)) := by decide +kernel
theorem dX3_until_10 : decode cX3_until 10 = .ok (.invokestatic 93, 3) := db3_1.1
theorem dX3_until_13 : decode cX3_until 13 = .ok (.ifCond .eq 7, 3) := db3_1.2.1
theorem dX3_until_16 : decode cX3_until 16 = .ok (.iconst 1, 1) := db3_1.2.2.1
theorem dX3_until_17 : decode cX3_until 17 = .ok (.goto 4, 3) := db3_1.2.2.2.1
theorem dX3_until_20 : decode cX3_until 20 = .ok (.iconst 0, 1) := db3_1.2.2.2.2.1
theorem dX3_until_21 : decode cX3_until 21 = .ok (.iload_n 2, 1) := db3_1.2.2.2.2.2.1
theorem dX3_until_22 : decode cX3_until 22 = .ok (.iload_n 3, 1) := db3_1.2.2.2.2.2.2.1
theorem dX3_until_23 : decode cX3_until 23 = .ok (.invokestatic 93, 3) := db3_1.2.2.2.2.2.2.2.1
theorem dX3_until_26 : decode cX3_until 26 = .ok (.ifCond .ne 16, 3) := db3_1.2.2.2.2.2.2.2.2.1
theorem dX3_until_29 : decode cX3_until 29 = .ok (.aload_n 0, 1) := db3_1.2.2.2.2.2.2.2.2.2.1
theorem dX3_until_30 : decode cX3_until 30 = .ok (.iload_n 3, 1) := db3_1.2.2.2.2.2.2.2.2.2.2.1
theorem dX3_until_31 : decode cX3_until 31 = .ok (.iload_n 2, 1) := db3_1.2.2.2.2.2.2.2.2.2.2.2.1
theorem dX3_until_32 : decode cX3_until 32 = .ok (.invokevirtual 125, 3) := db3_1.2.2.2.2.2.2.2.2.2.2.2.2.1
theorem dX3_until_35 : decode cX3_until 35 = .ok (.ifCond .eq 7, 3) := db3_1.2.2.2.2.2.2.2.2.2.2.2.2.2.1
theorem dX3_until_38 : decode cX3_until 38 = .ok (.iconst 1, 1) := db3_1.2.2.2.2.2.2.2.2.2.2.2.2.2.2.1
theorem dX3_until_39 : decode cX3_until 39 = .ok (.goto 4, 3) := db3_1.2.2.2.2.2.2.2.2.2.2.2.2.2.2.2
theorem db3_2 : (decode cX3_until 42 = .ok (.iconst 0, 1)) ∧ (decode cX3_until 43 = .ok (.iconst 0, 1)) ∧ (decode cX3_until 44 = .ok (.invokevirtual 77, 3)) ∧ (decode cX3_until 47 = .ok (.ifCond .eq 5, 3)) ∧ (decode cX3_until 50 = .ok (.iconst 0, 1)) ∧ (decode cX3_until 51 = .ok (.ireturn, 1)) ∧ (decode cX3_until 52 = .ok (.aload_n 0, 1)) ∧ (decode cX3_until 53 = .ok (.getfield 11, 3)) ∧ (decode cX3_until 56 = .ok (.iload_n 2, 1)) ∧ (decode cX3_until 57 = .ok (.aaload, 1)) ∧ (decode cX3_until 58 = .ok (.aload_n 0, 1)) ∧ (decode cX3_until 59 = .ok (.getfield 11, 3)) ∧ (decode cX3_until 62 = .ok (.iload_n 3, 1)) ∧ (decode cX3_until 63 = .ok (.aaload, 1)) ∧ (decode cX3_until 64 = .ok (.invokestatic 128, 3)) ∧ (decode cX3_until 67 = .ok (.istore 4, 2)) := by decide +kernel
theorem dX3_until_42 : decode cX3_until 42 = .ok (.iconst 0, 1) := db3_2.1
theorem dX3_until_43 : decode cX3_until 43 = .ok (.iconst 0, 1) := db3_2.2.1
theorem dX3_until_44 : decode cX3_until 44 = .ok (.invokevirtual 77, 3) := db3_2.2.2.1
theorem dX3_until_47 : decode cX3_until 47 = .ok (.ifCond .eq 5, 3) := db3_2.2.2.2.1
theorem dX3_until_50 : decode cX3_until 50 = .ok (.iconst 0, 1) := db3_2.2.2.2.2.1
theorem dX3_until_51 : decode cX3_until 51 = .ok (.ireturn, 1) := db3_2.2.2.2.2.2.1
theorem dX3_until_52 : decode cX3_until 52 = .ok (.aload_n 0, 1) := db3_2.2.2.2.2.2.2.1
theorem dX3_until_53 : decode cX3_until 53 = .ok (.getfield 11, 3) := db3_2.2.2.2.2.2.2.2.1
theorem dX3_until_56 : decode cX3_until 56 = .ok (.iload_n 2, 1) := db3_2.2.2.2.2.2.2.2.2.1
theorem dX3_until_57 : decode cX3_until 57 = .ok (.aaload, 1) := db3_2.2.2.2.2.2.2.2.2.2.1
theorem dX3_until_58 : decode cX3_until 58 = .ok (.aload_n 0, 1) := db3_2.2.2.2.2.2.2.2.2.2.2.1
theorem dX3_until_59 : decode cX3_until 59 = .ok (.getfield 11, 3) := db3_2.2.2.2.2.2.2.2.2.2.2.2.1
theorem dX3_until_62 : decode cX3_until 62 = .ok (.iload_n 3, 1) := db3_2.2.2.2.2.2.2.2.2.2.2.2.2.1
theorem dX3_until_63 : decode cX3_until 63 = .ok (.aaload, 1) := db3_2.2.2.2.2.2.2.2.2.2.2.2.2.2.1
theorem dX3_until_64 : decode cX3_until 64 = .ok (.invokestatic 128, 3) := db3_2.2.2.2.2.2.2.2.2.2.2.2.2.2.2.1
theorem dX3_until_67 : decode cX3_until 67 = .ok (.istore 4, 2) := db3_2.2.2.2.2.2.2.2.2.2.2.2.2.2.2.2
theorem db3_3 : (decode cX3_until 69 = .ok (.aload_n 0, 1)) ∧ (decode cX3_until 70 = .ok (.iload_n 3, 1)) ∧ (decode cX3_until 71 = .ok (.invokevirtual 85, 3)) ∧ (decode cX3_until 74 = .ok (.aload_n 0, 1)) ∧ (decode cX3_until 75 = .ok (.getfield 11, 3)) ∧ (decode cX3_until 78 = .ok (.iload_n 2, 1)) ∧ (decode cX3_until 79 = .ok (.aaload, 1)) ∧ (decode cX3_until 80 = .ok (.iload 4, 2)) ∧ (decode cX3_until 82 = .ok (.invokestatic 99, 3)) ∧ (decode cX3_until 85 = .ok (.invokestatic 64, 3)) ∧ (decode cX3_until 88 = .ok (.isub, 1)) ∧ (decode cX3_until 89 = .ok (.istore 5, 2)) ∧ (decode cX3_until 91 = .ok (.aload_n 0, 1)) ∧ (decode cX3_until 92 = .ok (.getfield 16, 3)) ∧ (decode cX3_until 95 = .ok (.iload_n 1, 1)) ∧ (decode cX3_until 96 = .ok (.iconst 3, 1)) := by decide +kernel
theorem dX3_until_69 : decode cX3_until 69 = .ok (.aload_n 0, 1) := db3_3.1
theorem dX3_until_70 : decode cX3_until 70 = .ok (.iload_n 3, 1) := db3_3.2.1
theorem dX3_until_71 : decode cX3_until 71 = .ok (.invokevirtual 85, 3) := db3_3.2.2.1
theorem dX3_until_74 : decode cX3_until 74 = .ok (.aload_n 0, 1) := db3_3.2.2.2.1
theorem dX3_until_75 : decode cX3_until 75 = .ok (.getfield 11, 3) := db3_3.2.2.2.2.1
theorem dX3_until_78 : decode cX3_until 78 = .ok (.iload_n 2, 1) := db3_3.2.2.2.2.2.1
theorem dX3_until_79 : decode cX3_until 79 = .ok (.aaload, 1) := db3_3.2.2.2.2.2.2.1
theorem dX3_until_80 : decode cX3_until 80 = .ok (.iload 4, 2) := db3_3.2.2.2.2.2.2.2.1
theorem dX3_until_82 : decode cX3_until 82 = .ok (.invokestatic 99, 3) := db3_3.2.2.2.2.2.2.2.2.1
theorem dX3_until_85 : decode cX3_until 85 = .ok (.invokestatic 64, 3) := db3_3.2.2.2.2.2.2.2.2.2.1
theorem dX3_until_88 : decode cX3_until 88 = .ok (.isub, 1) := db3_3.2.2.2.2.2.2.2.2.2.2.1
theorem dX3_until_89 : decode cX3_until 89 = .ok (.istore 5, 2) := db3_3.2.2.2.2.2.2.2.2.2.2.2.1
theorem dX3_until_91 : decode cX3_until 91 = .ok (.aload_n 0, 1) := db3_3.2.2.2.2.2.2.2.2.2.2.2.2.1
theorem dX3_until_92 : decode cX3_until 92 = .ok (.getfield 16, 3) := db3_3.2.2.2.2.2.2.2.2.2.2.2.2.2.1
theorem dX3_until_95 : decode cX3_until 95 = .ok (.iload_n 1, 1) := db3_3.2.2.2.2.2.2.2.2.2.2.2.2.2.2.1
theorem dX3_until_96 : decode cX3_until 96 = .ok (.iconst 3, 1) := db3_3.2.2.2.2.2.2.2.2.2.2.2.2.2.2.2
theorem db3_4 : (decode cX3_until 97 = .ok (.newarray .int, 2)) ∧ (decode cX3_until 99 = .ok (.dup, 1)) ∧ (decode cX3_until 100 = .ok (.iconst 0, 1)) ∧ (decode cX3_until 101 = .ok (.iload 4, 2)) ∧ (decode cX3_until 103 = .ok (.bipush 12, 2)) ∧ (decode cX3_until 105 = .ok (.idiv, 1)) ∧ (decode cX3_until 106 = .ok (.iastore, 1)) ∧ (decode cX3_until 107 = .ok (.dup, 1)) ∧ (decode cX3_until 108 = .ok (.iconst 1, 1)) ∧ (decode cX3_until 109 = .ok (.iload 4, 2)) ∧ (decode cX3_until 111 = .ok (.bipush 12, 2)) ∧ (decode cX3_until 113 = .ok (.irem, 1)) ∧ (decode cX3_until 114 = .ok (.iastore, 1)) ∧ (decode cX3_until 115 = .ok (.dup, 1)) ∧ (decode cX3_until 116 = .ok (.iconst 2, 1)) ∧ (decode cX3_until 117 = .ok (.iload 5, 2)) := by decide +kernel
theorem dX3_until_97 : decode cX3_until 97 = .ok (.newarray .int, 2) := db3_4.1
theorem dX3_until_99 : decode cX3_until 99 = .ok (.dup, 1) := db3_4.2.1
theorem dX3_until_100 : decode cX3_until 100 = .ok (.iconst 0, 1) := db3_4.2.2.1
theorem dX3_until_101 : decode cX3_until 101 = .ok (.iload 4, 2) := db3_4.2.2.2.1
theorem dX3_until_103 : decode cX3_until 103 = .ok (.bipush 12, 2) := db3_4.2.2.2.2.1
theorem dX3_until_105 : decode cX3_until 105 = .ok (.idiv, 1) := db3_4.2.2.2.2.2.1
theorem dX3_until_106 : decode cX3_until 106 = .ok (.iastore, 1) := db3_4.2.2.2.2.2.2.1
theorem dX3_until_107 : decode cX3_until 107 = .ok (.dup, 1) := db3_4.2.2.2.2.2.2.2.1
theorem dX3_until_108 : decode cX3_until 108 = .ok (.iconst 1, 1) := db3_4.2.2.2.2.2.2.2.2.1
theorem dX3_until_109 : decode cX3_until 109 = .ok (.iload 4, 2) := db3_4.2.2.2.2.2.2.2.2.2.1
theorem dX3_until_111 : decode cX3_until 111 = .ok (.bipush 12, 2) := db3_4.2.2.2.2.2.2.2.2.2.2.1
theorem dX3_until_113 : decode cX3_until 113 = .ok (.irem, 1) := db3_4.2.2.2.2.2.2.2.2.2.2.2.1
theorem dX3_until_114 : decode cX3_until 114 = .ok (.iastore, 1) := db3_4.2.2.2.2.2.2.2.2.2.2.2.2.1
theorem dX3_until_115 : decode cX3_until 115 = .ok (.dup, 1) := db3_4.2.2.2.2.2.2.2.2.2.2.2.2.2.1
theorem dX3_until_116 : decode cX3_until 116 = .ok (.iconst 2, 1) := db3_4.2.2.2.2.2.2.2.2.2.2.2.2.2.2.1
theorem dX3_until_117 : decode cX3_until 117 = .ok (.iload 5, 2) := db3_4.2.2.2.2.2.2.2.2.2.2.2.2.2.2.2
theorem db3_5 : (decode cX3_until 119 = .ok (.iastore, 1)) ∧ (decode cX3_until 120 = .ok (.aastore, 1)) ∧ (decode cX3_until 121 = .ok (.aload_n 0, 1)) ∧ (decode cX3_until 122 = .ok (.dup, 1)) ∧ (decode cX3_until 123 = .ok (.getfield 74, 3)) ∧ (decode cX3_until 126 = .ok (.iconst 1, 1)) ∧ (decode cX3_until 127 = .ok (.iadd, 1)) ∧ (decode cX3_until 128 = .ok (.putfield 74, 3)) ∧ (decode cX3_until 131 = .ok (.iload 5, 2)) ∧ (decode cX3_until 133 = .ok (.ireturn, 1)) := by decide +kernel
theorem dX3_until_119 : decode cX3_until 119 = .ok (.iastore, 1) := db3_5.1
theorem dX3_until_120 : decode cX3_until 120 = .ok (.aastore, 1) := db3_5.2.1
theorem dX3_until_121 : decode cX3_until 121 = .ok (.aload_n 0, 1) := db3_5.2.2.1
theorem dX3_until_122 : decode cX3_until 122 = .ok (.dup, 1) := db3_5.2.2.2.1
theorem dX3_until_123 : decode cX3_until 123 = .ok (.getfield 74, 3) := db3_5.2.2.2.2.1
theorem dX3_until_126 : decode cX3_until 126 = .ok (.iconst 1, 1) := db3_5.2.2.2.2.2.1
theorem dX3_until_127 : decode cX3_until 127 = .ok (.iadd, 1) := db3_5.2.2.2.2.2.2.1
theorem dX3_until_128 : decode cX3_until 128 = .ok (.putfield 74, 3) := db3_5.2.2.2.2.2.2.2.1
theorem dX3_until_131 : decode cX3_until 131 = .ok (.iload 5, 2) := db3_5.2.2.2.2.2.2.2.2.1
theorem dX3_until_133 : decode cX3_until 133 = .ok (.ireturn, 1) := db3_5.2.2.2.2.2.2.2.2.2
theorem db3_6 : (decode cX3_addSpan 0 = .ok (.aload_n 0, 1)) ∧ (decode cX3_addSpan 1 = .ok (.iload_n 1, 1)) ∧ (decode cX3_addSpan 2 = .ok (.invokestatic 111, 3)) ∧ (decode cX3_addSpan 5 = .ok (.ifCond .ne 10, 3)) ∧ (decode cX3_addSpan 8 = .ok (.iload_n 2, 1)) ∧ (decode cX3_addSpan 9 = .ok (.invokestatic 111, 3)) ∧ (decode cX3_addSpan 12 = .ok (.ifCond .eq 7, 3)) ∧ (decode cX3_addSpan 15 = .ok (.iconst 1, 1)) ∧ (decode cX3_addSpan 16 = .ok (.goto 4, 3)) ∧ (decode cX3_addSpan 19 = .ok (.iconst 0, 1)) ∧ (decode cX3_addSpan 20 = .ok (.iconst 0, 1)) ∧ (decode cX3_addSpan 21 = .ok (.iconst 0, 1)) ∧ (decode cX3_addSpan 22 = .ok (.invokevirtual 77, 3)) ∧ (decode cX3_addSpan 25 = .ok (.ifCond .eq 5, 3)) ∧ (decode cX3_addSpan 28 = .ok (.iconst 0, 1)) ∧ (decode cX3_addSpan 29 = .ok (.ireturn, 1)) := by decide +kernel
theorem dX3_addSpan_0 : decode cX3_addSpan 0 = .ok (.aload_n 0, 1) := db3_6.1
theorem dX3_addSpan_1 : decode cX3_addSpan 1 = .ok (.iload_n 1, 1) := db3_6.2.1
theorem dX3_addSpan_2 : decode cX3_addSpan 2 = .ok (.invokestatic 111, 3) := db3_6.2.2.1
theorem dX3_addSpan_5 : decode cX3_addSpan 5 = .ok (.ifCond .ne 10, 3) := db3_6.2.2.2.1
theorem dX3_addSpan_8 : decode cX3_addSpan 8 = .ok (.iload_n 2, 1) := db3_6.2.2.2.2.1
theorem dX3_addSpan_9 : decode cX3_addSpan 9 = .ok (.invokestatic 111, 3) := db3_6.2.2.2.2.2.1
theorem dX3_addSpan_12 : decode cX3_addSpan 12 = .ok (.ifCond .eq 7, 3) := db3_6.2.2.2.2.2.2.1
theorem dX3_addSpan_15 : decode cX3_addSpan 15 = .ok (.iconst 1, 1) := db3_6.2.2.2.2.2.2.2.1
theorem dX3_addSpan_16 : decode cX3_addSpan 16 = .ok (.goto 4, 3) := db3_6.2.2.2.2.2.2.2.2.1
theorem dX3_addSpan_19 : decode cX3_addSpan 19 = .ok (.iconst 0, 1) := db3_6.2.2.2.2.2.2.2.2.2.1
theorem dX3_addSpan_20 : decode cX3_addSpan 20 = .ok (.iconst 0, 1) := db3_6.2.2.2.2.2.2.2.2.2.2.1
theorem dX3_addSpan_21 : decode cX3_addSpan 21 = .ok (.iconst 0, 1) := db3_6.2.2.2.2.2.2.2.2.2.2.2.1
theorem dX3_addSpan_22 : decode cX3_addSpan 22 = .ok (.invokevirtual 77, 3) := db3_6.2.2.2.2.2.2.2.2.2.2.2.2.1
theorem dX3_addSpan_25 : decode cX3_addSpan 25 = .ok (.ifCond .eq 5, 3) := db3_6.2.2.2.2.2.2.2.2.2.2.2.2.2.1
theorem dX3_addSpan_28 : decode cX3_addSpan 28 = .ok (.iconst 0, 1) := db3_6.2.2.2.2.2.2.2.2.2.2.2.2.2.2.1
theorem dX3_addSpan_29 : decode cX3_addSpan 29 = .ok (.ireturn, 1) := db3_6.2.2.2.2.2.2.2.2.2.2.2.2.2.2.2
theorem db3_7 : (decode cX3_addSpan 30 = .ok (.iconst 3, 1)) ∧ (decode cX3_addSpan 31 = .ok (.newarray .int, 2)) ∧ (decode cX3_addSpan 33 = .ok (.astore_n 3, 1)) ∧ (decode cX3_addSpan 34 = .ok (.iconst 0, 1)) ∧ (decode cX3_addSpan 35 = .ok (.istore 4, 2)) ∧ (decode cX3_addSpan 37 = .ok (.iconst 0, 1)) ∧ (decode cX3_addSpan 38 = .ok (.istore 5, 2)) ∧ (decode cX3_addSpan 40 = .ok (.iload 5, 2)) ∧ (decode cX3_addSpan 42 = .ok (.iconst 3, 1)) ∧ (decode cX3_addSpan 43 = .ok (.if_icmp .ge 57, 3)) ∧ (decode cX3_addSpan 46 = .ok (.aload_n 3, 1)) ∧ (decode cX3_addSpan 47 = .ok (.iload 5, 2)) ∧ (decode cX3_addSpan 49 = .ok (.aload_n 0, 1)) ∧ (decode cX3_addSpan 50 = .ok (.getfield 16, 3)) ∧ (decode cX3_addSpan 53 = .ok (.iload_n 1, 1)) ∧ (decode cX3_addSpan 54 = .ok (.aaload, 1)) := by decide +kernel
theorem dX3_addSpan_30 : decode cX3_addSpan 30 = .ok (.iconst 3, 1) := db3_7.1
theorem dX3_addSpan_31 : decode cX3_addSpan 31 = .ok (.newarray .int, 2) := db3_7.2.1
theorem dX3_addSpan_33 : decode cX3_addSpan 33 = .ok (.astore_n 3, 1) := db3_7.2.2.1
theorem dX3_addSpan_34 : decode cX3_addSpan 34 = .ok (.iconst 0, 1) := db3_7.2.2.2.1
theorem dX3_addSpan_35 : decode cX3_addSpan 35 = .ok (.istore 4, 2) := db3_7.2.2.2.2.1
theorem dX3_addSpan_37 : decode cX3_addSpan 37 = .ok (.iconst 0, 1) := db3_7.2.2.2.2.2.1
theorem dX3_addSpan_38 : decode cX3_addSpan 38 = .ok (.istore 5, 2) := db3_7.2.2.2.2.2.2.1
theorem dX3_addSpan_40 : decode cX3_addSpan 40 = .ok (.iload 5, 2) := db3_7.2.2.2.2.2.2.2.1
theorem dX3_addSpan_42 : decode cX3_addSpan 42 = .ok (.iconst 3, 1) := db3_7.2.2.2.2.2.2.2.2.1
theorem dX3_addSpan_43 : decode cX3_addSpan 43 = .ok (.if_icmp .ge 57, 3) := db3_7.2.2.2.2.2.2.2.2.2.1
theorem dX3_addSpan_46 : decode cX3_addSpan 46 = .ok (.aload_n 3, 1) := db3_7.2.2.2.2.2.2.2.2.2.2.1
theorem dX3_addSpan_47 : decode cX3_addSpan 47 = .ok (.iload 5, 2) := db3_7.2.2.2.2.2.2.2.2.2.2.2.1
theorem dX3_addSpan_49 : decode cX3_addSpan 49 = .ok (.aload_n 0, 1) := db3_7.2.2.2.2.2.2.2.2.2.2.2.2.1
theorem dX3_addSpan_50 : decode cX3_addSpan 50 = .ok (.getfield 16, 3) := db3_7.2.2.2.2.2.2.2.2.2.2.2.2.2.1
theorem dX3_addSpan_53 : decode cX3_addSpan 53 = .ok (.iload_n 1, 1) := db3_7.2.2.2.2.2.2.2.2.2.2.2.2.2.2.1
theorem dX3_addSpan_54 : decode cX3_addSpan 54 = .ok (.aaload, 1) := db3_7.2.2.2.2.2.2.2.2.2.2.2.2.2.2.2
theorem db3_8 : (decode cX3_addSpan 55 = .ok (.iload 5, 2)) ∧ (decode cX3_addSpan 57 = .ok (.iaload, 1)) ∧ (decode cX3_addSpan 58 = .ok (.aload_n 0, 1)) ∧ (decode cX3_addSpan 59 = .ok (.getfield 16, 3)) ∧ (decode cX3_addSpan 62 = .ok (.iload_n 2, 1)) ∧ (decode cX3_addSpan 63 = .ok (.aaload, 1)) ∧ (decode cX3_addSpan 64 = .ok (.iload 5, 2)) ∧ (decode cX3_addSpan 66 = .ok (.iaload, 1)) ∧ (decode cX3_addSpan 67 = .ok (.iadd, 1)) ∧ (decode cX3_addSpan 68 = .ok (.iastore, 1)) ∧ (decode cX3_addSpan 69 = .ok (.iload 4, 2)) ∧ (decode cX3_addSpan 71 = .ok (.aload_n 3, 1)) ∧ (decode cX3_addSpan 72 = .ok (.iload 5, 2)) ∧ (decode cX3_addSpan 74 = .ok (.iaload, 1)) ∧ (decode cX3_addSpan 75 = .ok (.getstatic 118, 3)) ∧ (decode cX3_addSpan 78 = .ok (.iload 5, 2)) := by decide +kernel
theorem dX3_addSpan_55 : decode cX3_addSpan 55 = .ok (.iload 5, 2) := db3_8.1
theorem dX3_addSpan_57 : decode cX3_addSpan 57 = .ok (.iaload, 1) := db3_8.2.1
theorem dX3_addSpan_58 : decode cX3_addSpan 58 = .ok (.aload_n 0, 1) := db3_8.2.2.1
theorem dX3_addSpan_59 : decode cX3_addSpan 59 = .ok (.getfield 16, 3) := db3_8.2.2.2.1
theorem dX3_addSpan_62 : decode cX3_addSpan 62 = .ok (.iload_n 2, 1) := db3_8.2.2.2.2.1
theorem dX3_addSpan_63 : decode cX3_addSpan 63 = .ok (.aaload, 1) := db3_8.2.2.2.2.2.1
theorem dX3_addSpan_64 : decode cX3_addSpan 64 = .ok (.iload 5, 2) := db3_8.2.2.2.2.2.2.1
theorem dX3_addSpan_66 : decode cX3_addSpan 66 = .ok (.iaload, 1) := db3_8.2.2.2.2.2.2.2.1
theorem dX3_addSpan_67 : decode cX3_addSpan 67 = .ok (.iadd, 1) := db3_8.2.2.2.2.2.2.2.2.1
theorem dX3_addSpan_68 : decode cX3_addSpan 68 = .ok (.iastore, 1) := db3_8.2.2.2.2.2.2.2.2.2.1
theorem dX3_addSpan_69 : decode cX3_addSpan 69 = .ok (.iload 4, 2) := db3_8.2.2.2.2.2.2.2.2.2.2.1
theorem dX3_addSpan_71 : decode cX3_addSpan 71 = .ok (.aload_n 3, 1) := db3_8.2.2.2.2.2.2.2.2.2.2.2.1
theorem dX3_addSpan_72 : decode cX3_addSpan 72 = .ok (.iload 5, 2) := db3_8.2.2.2.2.2.2.2.2.2.2.2.2.1
theorem dX3_addSpan_74 : decode cX3_addSpan 74 = .ok (.iaload, 1) := db3_8.2.2.2.2.2.2.2.2.2.2.2.2.2.1
theorem dX3_addSpan_75 : decode cX3_addSpan 75 = .ok (.getstatic 118, 3) := db3_8.2.2.2.2.2.2.2.2.2.2.2.2.2.2.1
theorem dX3_addSpan_78 : decode cX3_addSpan 78 = .ok (.iload 5, 2) := db3_8.2.2.2.2.2.2.2.2.2.2.2.2.2.2.2
theorem db3_9 : (decode cX3_addSpan 80 = .ok (.iaload, 1)) ∧ (decode cX3_addSpan 81 = .ok (.ineg, 1)) ∧ (decode cX3_addSpan 82 = .ok (.getstatic 118, 3)) ∧ (decode cX3_addSpan 85 = .ok (.iload 5, 2)) ∧ (decode cX3_addSpan 87 = .ok (.iaload, 1)) ∧ (decode cX3_addSpan 88 = .ok (.invokestatic 27, 3)) ∧ (decode cX3_addSpan 91 = .ok (.ior, 1)) ∧ (decode cX3_addSpan 92 = .ok (.istore 4, 2)) ∧ (decode cX3_addSpan 94 = .ok (.iinc 5 1, 3)) ∧ (decode cX3_addSpan 97 = .ok (.goto (-57), 3)) ∧ (decode cX3_addSpan 100 = .ok (.aload_n 0, 1)) ∧ (decode cX3_addSpan 101 = .ok (.iconst 0, 1)) ∧ (decode cX3_addSpan 102 = .ok (.iload 4, 2)) ∧ (decode cX3_addSpan 104 = .ok (.iconst 0, 1)) ∧ (decode cX3_addSpan 105 = .ok (.invokevirtual 77, 3)) ∧ (decode cX3_addSpan 108 = .ok (.ifCond .eq 5, 3)) := by decide +kernel
theorem dX3_addSpan_80 : decode cX3_addSpan 80 = .ok (.iaload, 1) := db3_9.1
theorem dX3_addSpan_81 : decode cX3_addSpan 81 = .ok (.ineg, 1) := db3_9.2.1
theorem dX3_addSpan_82 : decode cX3_addSpan 82 = .ok (.getstatic 118, 3) := db3_9.2.2.1
theorem dX3_addSpan_85 : decode cX3_addSpan 85 = .ok (.iload 5, 2) := db3_9.2.2.2.1
theorem dX3_addSpan_87 : decode cX3_addSpan 87 = .ok (.iaload, 1) := db3_9.2.2.2.2.1
theorem dX3_addSpan_88 : decode cX3_addSpan 88 = .ok (.invokestatic 27, 3) := db3_9.2.2.2.2.2.1
theorem dX3_addSpan_91 : decode cX3_addSpan 91 = .ok (.ior, 1) := db3_9.2.2.2.2.2.2.1
theorem dX3_addSpan_92 : decode cX3_addSpan 92 = .ok (.istore 4, 2) := db3_9.2.2.2.2.2.2.2.1
theorem dX3_addSpan_94 : decode cX3_addSpan 94 = .ok (.iinc 5 1, 3) := db3_9.2.2.2.2.2.2.2.2.1
theorem dX3_addSpan_97 : decode cX3_addSpan 97 = .ok (.goto (-57), 3) := db3_9.2.2.2.2.2.2.2.2.2.1
theorem dX3_addSpan_100 : decode cX3_addSpan 100 = .ok (.aload_n 0, 1) := db3_9.2.2.2.2.2.2.2.2.2.2.1
theorem dX3_addSpan_101 : decode cX3_addSpan 101 = .ok (.iconst 0, 1) := db3_9.2.2.2.2.2.2.2.2.2.2.2.1
theorem dX3_addSpan_102 : decode cX3_addSpan 102 = .ok (.iload 4, 2) := db3_9.2.2.2.2.2.2.2.2.2.2.2.2.1
theorem dX3_addSpan_104 : decode cX3_addSpan 104 = .ok (.iconst 0, 1) := db3_9.2.2.2.2.2.2.2.2.2.2.2.2.2.1
theorem dX3_addSpan_105 : decode cX3_addSpan 105 = .ok (.invokevirtual 77, 3) := db3_9.2.2.2.2.2.2.2.2.2.2.2.2.2.2.1
theorem dX3_addSpan_108 : decode cX3_addSpan 108 = .ok (.ifCond .eq 5, 3) := db3_9.2.2.2.2.2.2.2.2.2.2.2.2.2.2.2
theorem db3_10 : (decode cX3_addSpan 111 = .ok (.iconst 0, 1)) ∧ (decode cX3_addSpan 112 = .ok (.ireturn, 1)) ∧ (decode cX3_addSpan 113 = .ok (.aload_n 0, 1)) ∧ (decode cX3_addSpan 114 = .ok (.getfield 16, 3)) ∧ (decode cX3_addSpan 117 = .ok (.iload_n 1, 1)) ∧ (decode cX3_addSpan 118 = .ok (.aload_n 3, 1)) ∧ (decode cX3_addSpan 119 = .ok (.aastore, 1)) ∧ (decode cX3_addSpan 120 = .ok (.aload_n 0, 1)) ∧ (decode cX3_addSpan 121 = .ok (.dup, 1)) ∧ (decode cX3_addSpan 122 = .ok (.getfield 74, 3)) ∧ (decode cX3_addSpan 125 = .ok (.iconst 1, 1)) ∧ (decode cX3_addSpan 126 = .ok (.iadd, 1)) ∧ (decode cX3_addSpan 127 = .ok (.putfield 74, 3)) ∧ (decode cX3_addSpan 130 = .ok (.aload_n 3, 1)) ∧ (decode cX3_addSpan 131 = .ok (.iconst 2, 1)) ∧ (decode cX3_addSpan 132 = .ok (.iaload, 1)) := by decide +kernel
theorem dX3_addSpan_111 : decode cX3_addSpan 111 = .ok (.iconst 0, 1) := db3_10.1
theorem dX3_addSpan_112 : decode cX3_addSpan 112 = .ok (.ireturn, 1) := db3_10.2.1
theorem dX3_addSpan_113 : decode cX3_addSpan 113 = .ok (.aload_n 0, 1) := db3_10.2.2.1
theorem dX3_addSpan_114 : decode cX3_addSpan 114 = .ok (.getfield 16, 3) := db3_10.2.2.2.1
theorem dX3_addSpan_117 : decode cX3_addSpan 117 = .ok (.iload_n 1, 1) := db3_10.2.2.2.2.1
theorem dX3_addSpan_118 : decode cX3_addSpan 118 = .ok (.aload_n 3, 1) := db3_10.2.2.2.2.2.1
theorem dX3_addSpan_119 : decode cX3_addSpan 119 = .ok (.aastore, 1) := db3_10.2.2.2.2.2.2.1
theorem dX3_addSpan_120 : decode cX3_addSpan 120 = .ok (.aload_n 0, 1) := db3_10.2.2.2.2.2.2.2.1
theorem dX3_addSpan_121 : decode cX3_addSpan 121 = .ok (.dup, 1) := db3_10.2.2.2.2.2.2.2.2.1
theorem dX3_addSpan_122 : decode cX3_addSpan 122 = .ok (.getfield 74, 3) := db3_10.2.2.2.2.2.2.2.2.2.1
theorem dX3_addSpan_125 : decode cX3_addSpan 125 = .ok (.iconst 1, 1) := db3_10.2.2.2.2.2.2.2.2.2.2.1
theorem dX3_addSpan_126 : decode cX3_addSpan 126 = .ok (.iadd, 1) := db3_10.2.2.2.2.2.2.2.2.2.2.2.1
theorem dX3_addSpan_127 : decode cX3_addSpan 127 = .ok (.putfield 74, 3) := db3_10.2.2.2.2.2.2.2.2.2.2.2.2.1
theorem dX3_addSpan_130 : decode cX3_addSpan 130 = .ok (.aload_n 3, 1) := db3_10.2.2.2.2.2.2.2.2.2.2.2.2.2.1
theorem dX3_addSpan_131 : decode cX3_addSpan 131 = .ok (.iconst 2, 1) := db3_10.2.2.2.2.2.2.2.2.2.2.2.2.2.2.1
theorem dX3_addSpan_132 : decode cX3_addSpan 132 = .ok (.iaload, 1) := db3_10.2.2.2.2.2.2.2.2.2.2.2.2.2.2.2
theorem dX3_addSpan_133 : decode cX3_addSpan 133 = .ok (.ireturn, 1) := by decide +kernel
theorem db3_11 : (decode cX3_turnSpan 0 = .ok (.aload_n 0, 1)) ∧ (decode cX3_turnSpan 1 = .ok (.iload_n 1, 1)) ∧ (decode cX3_turnSpan 2 = .ok (.invokestatic 111, 3)) ∧ (decode cX3_turnSpan 5 = .ok (.iconst 0, 1)) ∧ (decode cX3_turnSpan 6 = .ok (.iconst 0, 1)) ∧ (decode cX3_turnSpan 7 = .ok (.invokevirtual 77, 3)) ∧ (decode cX3_turnSpan 10 = .ok (.ifCond .eq 5, 3)) ∧ (decode cX3_turnSpan 13 = .ok (.iconst 0, 1)) ∧ (decode cX3_turnSpan 14 = .ok (.ireturn, 1)) ∧ (decode cX3_turnSpan 15 = .ok (.aload_n 0, 1)) ∧ (decode cX3_turnSpan 16 = .ok (.getfield 16, 3)) ∧ (decode cX3_turnSpan 19 = .ok (.iload_n 1, 1)) ∧ (decode cX3_turnSpan 20 = .ok (.iconst 3, 1)) ∧ (decode cX3_turnSpan 21 = .ok (.newarray .int, 2)) ∧ (decode cX3_turnSpan 23 = .ok (.dup, 1)) ∧ (decode cX3_turnSpan 24 = .ok (.iconst 0, 1)) := by decide +kernel
theorem dX3_turnSpan_0 : decode cX3_turnSpan 0 = .ok (.aload_n 0, 1) := db3_11.1
theorem dX3_turnSpan_1 : decode cX3_turnSpan 1 = .ok (.iload_n 1, 1) := db3_11.2.1
theorem dX3_turnSpan_2 : decode cX3_turnSpan 2 = .ok (.invokestatic 111, 3) := db3_11.2.2.1
theorem dX3_turnSpan_5 : decode cX3_turnSpan 5 = .ok (.iconst 0, 1) := db3_11.2.2.2.1
theorem dX3_turnSpan_6 : decode cX3_turnSpan 6 = .ok (.iconst 0, 1) := db3_11.2.2.2.2.1
theorem dX3_turnSpan_7 : decode cX3_turnSpan 7 = .ok (.invokevirtual 77, 3) := db3_11.2.2.2.2.2.1
theorem dX3_turnSpan_10 : decode cX3_turnSpan 10 = .ok (.ifCond .eq 5, 3) := db3_11.2.2.2.2.2.2.1
theorem dX3_turnSpan_13 : decode cX3_turnSpan 13 = .ok (.iconst 0, 1) := db3_11.2.2.2.2.2.2.2.1
theorem dX3_turnSpan_14 : decode cX3_turnSpan 14 = .ok (.ireturn, 1) := db3_11.2.2.2.2.2.2.2.2.1
theorem dX3_turnSpan_15 : decode cX3_turnSpan 15 = .ok (.aload_n 0, 1) := db3_11.2.2.2.2.2.2.2.2.2.1
theorem dX3_turnSpan_16 : decode cX3_turnSpan 16 = .ok (.getfield 16, 3) := db3_11.2.2.2.2.2.2.2.2.2.2.1
theorem dX3_turnSpan_19 : decode cX3_turnSpan 19 = .ok (.iload_n 1, 1) := db3_11.2.2.2.2.2.2.2.2.2.2.2.1
theorem dX3_turnSpan_20 : decode cX3_turnSpan 20 = .ok (.iconst 3, 1) := db3_11.2.2.2.2.2.2.2.2.2.2.2.2.1
theorem dX3_turnSpan_21 : decode cX3_turnSpan 21 = .ok (.newarray .int, 2) := db3_11.2.2.2.2.2.2.2.2.2.2.2.2.2.1
theorem dX3_turnSpan_23 : decode cX3_turnSpan 23 = .ok (.dup, 1) := db3_11.2.2.2.2.2.2.2.2.2.2.2.2.2.2.1
theorem dX3_turnSpan_24 : decode cX3_turnSpan 24 = .ok (.iconst 0, 1) := db3_11.2.2.2.2.2.2.2.2.2.2.2.2.2.2.2
theorem db3_12 : (decode cX3_turnSpan 25 = .ok (.aload_n 0, 1)) ∧ (decode cX3_turnSpan 26 = .ok (.getfield 16, 3)) ∧ (decode cX3_turnSpan 29 = .ok (.iload_n 1, 1)) ∧ (decode cX3_turnSpan 30 = .ok (.aaload, 1)) ∧ (decode cX3_turnSpan 31 = .ok (.iconst 0, 1)) ∧ (decode cX3_turnSpan 32 = .ok (.iaload, 1)) ∧ (decode cX3_turnSpan 33 = .ok (.ineg, 1)) ∧ (decode cX3_turnSpan 34 = .ok (.iastore, 1)) ∧ (decode cX3_turnSpan 35 = .ok (.dup, 1)) ∧ (decode cX3_turnSpan 36 = .ok (.iconst 1, 1)) ∧ (decode cX3_turnSpan 37 = .ok (.aload_n 0, 1)) ∧ (decode cX3_turnSpan 38 = .ok (.getfield 16, 3)) ∧ (decode cX3_turnSpan 41 = .ok (.iload_n 1, 1)) ∧ (decode cX3_turnSpan 42 = .ok (.aaload, 1)) ∧ (decode cX3_turnSpan 43 = .ok (.iconst 1, 1)) ∧ (decode cX3_turnSpan 44 = .ok (.iaload, 1)) := by decide +kernel
theorem dX3_turnSpan_25 : decode cX3_turnSpan 25 = .ok (.aload_n 0, 1) := db3_12.1
theorem dX3_turnSpan_26 : decode cX3_turnSpan 26 = .ok (.getfield 16, 3) := db3_12.2.1
theorem dX3_turnSpan_29 : decode cX3_turnSpan 29 = .ok (.iload_n 1, 1) := db3_12.2.2.1
theorem dX3_turnSpan_30 : decode cX3_turnSpan 30 = .ok (.aaload, 1) := db3_12.2.2.2.1
theorem dX3_turnSpan_31 : decode cX3_turnSpan 31 = .ok (.iconst 0, 1) := db3_12.2.2.2.2.1
theorem dX3_turnSpan_32 : decode cX3_turnSpan 32 = .ok (.iaload, 1) := db3_12.2.2.2.2.2.1
theorem dX3_turnSpan_33 : decode cX3_turnSpan 33 = .ok (.ineg, 1) := db3_12.2.2.2.2.2.2.1
theorem dX3_turnSpan_34 : decode cX3_turnSpan 34 = .ok (.iastore, 1) := db3_12.2.2.2.2.2.2.2.1
theorem dX3_turnSpan_35 : decode cX3_turnSpan 35 = .ok (.dup, 1) := db3_12.2.2.2.2.2.2.2.2.1
theorem dX3_turnSpan_36 : decode cX3_turnSpan 36 = .ok (.iconst 1, 1) := db3_12.2.2.2.2.2.2.2.2.2.1
theorem dX3_turnSpan_37 : decode cX3_turnSpan 37 = .ok (.aload_n 0, 1) := db3_12.2.2.2.2.2.2.2.2.2.2.1
theorem dX3_turnSpan_38 : decode cX3_turnSpan 38 = .ok (.getfield 16, 3) := db3_12.2.2.2.2.2.2.2.2.2.2.2.1
theorem dX3_turnSpan_41 : decode cX3_turnSpan 41 = .ok (.iload_n 1, 1) := db3_12.2.2.2.2.2.2.2.2.2.2.2.2.1
theorem dX3_turnSpan_42 : decode cX3_turnSpan 42 = .ok (.aaload, 1) := db3_12.2.2.2.2.2.2.2.2.2.2.2.2.2.1
theorem dX3_turnSpan_43 : decode cX3_turnSpan 43 = .ok (.iconst 1, 1) := db3_12.2.2.2.2.2.2.2.2.2.2.2.2.2.2.1
theorem dX3_turnSpan_44 : decode cX3_turnSpan 44 = .ok (.iaload, 1) := db3_12.2.2.2.2.2.2.2.2.2.2.2.2.2.2.2
theorem db3_13 : (decode cX3_turnSpan 45 = .ok (.ineg, 1)) ∧ (decode cX3_turnSpan 46 = .ok (.iastore, 1)) ∧ (decode cX3_turnSpan 47 = .ok (.dup, 1)) ∧ (decode cX3_turnSpan 48 = .ok (.iconst 2, 1)) ∧ (decode cX3_turnSpan 49 = .ok (.aload_n 0, 1)) ∧ (decode cX3_turnSpan 50 = .ok (.getfield 16, 3)) ∧ (decode cX3_turnSpan 53 = .ok (.iload_n 1, 1)) ∧ (decode cX3_turnSpan 54 = .ok (.aaload, 1)) ∧ (decode cX3_turnSpan 55 = .ok (.iconst 2, 1)) ∧ (decode cX3_turnSpan 56 = .ok (.iaload, 1)) ∧ (decode cX3_turnSpan 57 = .ok (.ineg, 1)) ∧ (decode cX3_turnSpan 58 = .ok (.iastore, 1)) ∧ (decode cX3_turnSpan 59 = .ok (.aastore, 1)) ∧ (decode cX3_turnSpan 60 = .ok (.aload_n 0, 1)) ∧ (decode cX3_turnSpan 61 = .ok (.dup, 1)) ∧ (decode cX3_turnSpan 62 = .ok (.getfield 74, 3)) := by decide +kernel
theorem dX3_turnSpan_45 : decode cX3_turnSpan 45 = .ok (.ineg, 1) := db3_13.1
theorem dX3_turnSpan_46 : decode cX3_turnSpan 46 = .ok (.iastore, 1) := db3_13.2.1
theorem dX3_turnSpan_47 : decode cX3_turnSpan 47 = .ok (.dup, 1) := db3_13.2.2.1
theorem dX3_turnSpan_48 : decode cX3_turnSpan 48 = .ok (.iconst 2, 1) := db3_13.2.2.2.1
theorem dX3_turnSpan_49 : decode cX3_turnSpan 49 = .ok (.aload_n 0, 1) := db3_13.2.2.2.2.1
theorem dX3_turnSpan_50 : decode cX3_turnSpan 50 = .ok (.getfield 16, 3) := db3_13.2.2.2.2.2.1
theorem dX3_turnSpan_53 : decode cX3_turnSpan 53 = .ok (.iload_n 1, 1) := db3_13.2.2.2.2.2.2.1
theorem dX3_turnSpan_54 : decode cX3_turnSpan 54 = .ok (.aaload, 1) := db3_13.2.2.2.2.2.2.2.1
theorem dX3_turnSpan_55 : decode cX3_turnSpan 55 = .ok (.iconst 2, 1) := db3_13.2.2.2.2.2.2.2.2.1
theorem dX3_turnSpan_56 : decode cX3_turnSpan 56 = .ok (.iaload, 1) := db3_13.2.2.2.2.2.2.2.2.2.1
theorem dX3_turnSpan_57 : decode cX3_turnSpan 57 = .ok (.ineg, 1) := db3_13.2.2.2.2.2.2.2.2.2.2.1
theorem dX3_turnSpan_58 : decode cX3_turnSpan 58 = .ok (.iastore, 1) := db3_13.2.2.2.2.2.2.2.2.2.2.2.1
theorem dX3_turnSpan_59 : decode cX3_turnSpan 59 = .ok (.aastore, 1) := db3_13.2.2.2.2.2.2.2.2.2.2.2.2.1
theorem dX3_turnSpan_60 : decode cX3_turnSpan 60 = .ok (.aload_n 0, 1) := db3_13.2.2.2.2.2.2.2.2.2.2.2.2.2.1
theorem dX3_turnSpan_61 : decode cX3_turnSpan 61 = .ok (.dup, 1) := db3_13.2.2.2.2.2.2.2.2.2.2.2.2.2.2.1
theorem dX3_turnSpan_62 : decode cX3_turnSpan 62 = .ok (.getfield 74, 3) := db3_13.2.2.2.2.2.2.2.2.2.2.2.2.2.2.2
theorem db3_14 : (decode cX3_turnSpan 65 = .ok (.iconst 1, 1)) ∧ (decode cX3_turnSpan 66 = .ok (.iadd, 1)) ∧ (decode cX3_turnSpan 67 = .ok (.putfield 74, 3)) ∧ (decode cX3_turnSpan 70 = .ok (.aload_n 0, 1)) ∧ (decode cX3_turnSpan 71 = .ok (.iload_n 1, 1)) ∧ (decode cX3_turnSpan 72 = .ok (.invokevirtual 108, 3)) ∧ (decode cX3_turnSpan 75 = .ok (.ireturn, 1)) := by decide +kernel
theorem dX3_turnSpan_65 : decode cX3_turnSpan 65 = .ok (.iconst 1, 1) := db3_14.1
theorem dX3_turnSpan_66 : decode cX3_turnSpan 66 = .ok (.iadd, 1) := db3_14.2.1
theorem dX3_turnSpan_67 : decode cX3_turnSpan 67 = .ok (.putfield 74, 3) := db3_14.2.2.1
theorem dX3_turnSpan_70 : decode cX3_turnSpan 70 = .ok (.aload_n 0, 1) := db3_14.2.2.2.1
theorem dX3_turnSpan_71 : decode cX3_turnSpan 71 = .ok (.iload_n 1, 1) := db3_14.2.2.2.2.1
theorem dX3_turnSpan_72 : decode cX3_turnSpan 72 = .ok (.invokevirtual 108, 3) := db3_14.2.2.2.2.2.1
theorem dX3_turnSpan_75 : decode cX3_turnSpan 75 = .ok (.ireturn, 1) := db3_14.2.2.2.2.2.2
theorem db3_15 : (decode cX3_spanNow 0 = .ok (.iload_n 2, 1)) ∧ (decode cX3_spanNow 1 = .ok (.iconst 3, 1)) ∧ (decode cX3_spanNow 2 = .ok (.if_icmp .ne 11, 3)) ∧ (decode cX3_spanNow 5 = .ok (.aload_n 0, 1)) ∧ (decode cX3_spanNow 6 = .ok (.iload_n 1, 1)) ∧ (decode cX3_spanNow 7 = .ok (.invokevirtual 108, 3)) ∧ (decode cX3_spanNow 10 = .ok (.goto 11, 3)) ∧ (decode cX3_spanNow 13 = .ok (.aload_n 0, 1)) ∧ (decode cX3_spanNow 14 = .ok (.getfield 16, 3)) ∧ (decode cX3_spanNow 17 = .ok (.iload_n 1, 1)) ∧ (decode cX3_spanNow 18 = .ok (.aaload, 1)) ∧ (decode cX3_spanNow 19 = .ok (.iload_n 2, 1)) ∧ (decode cX3_spanNow 20 = .ok (.iaload, 1)) ∧ (decode cX3_spanNow 21 = .ok (.ireturn, 1)) := by decide +kernel
theorem dX3_spanNow_0 : decode cX3_spanNow 0 = .ok (.iload_n 2, 1) := db3_15.1
theorem dX3_spanNow_1 : decode cX3_spanNow 1 = .ok (.iconst 3, 1) := db3_15.2.1
theorem dX3_spanNow_2 : decode cX3_spanNow 2 = .ok (.if_icmp .ne 11, 3) := db3_15.2.2.1
theorem dX3_spanNow_5 : decode cX3_spanNow 5 = .ok (.aload_n 0, 1) := db3_15.2.2.2.1
theorem dX3_spanNow_6 : decode cX3_spanNow 6 = .ok (.iload_n 1, 1) := db3_15.2.2.2.2.1
theorem dX3_spanNow_7 : decode cX3_spanNow 7 = .ok (.invokevirtual 108, 3) := db3_15.2.2.2.2.2.1
theorem dX3_spanNow_10 : decode cX3_spanNow 10 = .ok (.goto 11, 3) := db3_15.2.2.2.2.2.2.1
theorem dX3_spanNow_13 : decode cX3_spanNow 13 = .ok (.aload_n 0, 1) := db3_15.2.2.2.2.2.2.2.1
theorem dX3_spanNow_14 : decode cX3_spanNow 14 = .ok (.getfield 16, 3) := db3_15.2.2.2.2.2.2.2.2.1
theorem dX3_spanNow_17 : decode cX3_spanNow 17 = .ok (.iload_n 1, 1) := db3_15.2.2.2.2.2.2.2.2.2.1
theorem dX3_spanNow_18 : decode cX3_spanNow 18 = .ok (.aaload, 1) := db3_15.2.2.2.2.2.2.2.2.2.2.1
theorem dX3_spanNow_19 : decode cX3_spanNow 19 = .ok (.iload_n 2, 1) := db3_15.2.2.2.2.2.2.2.2.2.2.2.1
theorem dX3_spanNow_20 : decode cX3_spanNow 20 = .ok (.iaload, 1) := db3_15.2.2.2.2.2.2.2.2.2.2.2.2.1
theorem dX3_spanNow_21 : decode cX3_spanNow 21 = .ok (.ireturn, 1) := db3_15.2.2.2.2.2.2.2.2.2.2.2.2.2
theorem db3_16 : (decode cX3_ofSpan 0 = .ok (.aload_n 0, 1)) ∧ (decode cX3_ofSpan 1 = .ok (.iload_n 1, 1)) ∧ (decode cX3_ofSpan 2 = .ok (.invokestatic 111, 3)) ∧ (decode cX3_ofSpan 5 = .ok (.iload_n 2, 1)) ∧ (decode cX3_ofSpan 6 = .ok (.iconst 0, 1)) ∧ (decode cX3_ofSpan 7 = .ok (.iconst 3, 1)) ∧ (decode cX3_ofSpan 8 = .ok (.invokestatic 27, 3)) ∧ (decode cX3_ofSpan 11 = .ok (.iconst 0, 1)) ∧ (decode cX3_ofSpan 12 = .ok (.invokevirtual 77, 3)) ∧ (decode cX3_ofSpan 15 = .ok (.ifCond .eq 7, 3)) ∧ (decode cX3_ofSpan 18 = .ok (.iconst 0, 1)) ∧ (decode cX3_ofSpan 19 = .ok (.goto 9, 3)) ∧ (decode cX3_ofSpan 22 = .ok (.aload_n 0, 1)) ∧ (decode cX3_ofSpan 23 = .ok (.iload_n 1, 1)) ∧ (decode cX3_ofSpan 24 = .ok (.iload_n 2, 1)) ∧ (decode cX3_ofSpan 25 = .ok (.invokevirtual 132, 3)) := by decide +kernel
theorem dX3_ofSpan_0 : decode cX3_ofSpan 0 = .ok (.aload_n 0, 1) := db3_16.1
theorem dX3_ofSpan_1 : decode cX3_ofSpan 1 = .ok (.iload_n 1, 1) := db3_16.2.1
theorem dX3_ofSpan_2 : decode cX3_ofSpan 2 = .ok (.invokestatic 111, 3) := db3_16.2.2.1
theorem dX3_ofSpan_5 : decode cX3_ofSpan 5 = .ok (.iload_n 2, 1) := db3_16.2.2.2.1
theorem dX3_ofSpan_6 : decode cX3_ofSpan 6 = .ok (.iconst 0, 1) := db3_16.2.2.2.2.1
theorem dX3_ofSpan_7 : decode cX3_ofSpan 7 = .ok (.iconst 3, 1) := db3_16.2.2.2.2.2.1
theorem dX3_ofSpan_8 : decode cX3_ofSpan 8 = .ok (.invokestatic 27, 3) := db3_16.2.2.2.2.2.2.1
theorem dX3_ofSpan_11 : decode cX3_ofSpan 11 = .ok (.iconst 0, 1) := db3_16.2.2.2.2.2.2.2.1
theorem dX3_ofSpan_12 : decode cX3_ofSpan 12 = .ok (.invokevirtual 77, 3) := db3_16.2.2.2.2.2.2.2.2.1
theorem dX3_ofSpan_15 : decode cX3_ofSpan 15 = .ok (.ifCond .eq 7, 3) := db3_16.2.2.2.2.2.2.2.2.2.1
theorem dX3_ofSpan_18 : decode cX3_ofSpan 18 = .ok (.iconst 0, 1) := db3_16.2.2.2.2.2.2.2.2.2.2.1
theorem dX3_ofSpan_19 : decode cX3_ofSpan 19 = .ok (.goto 9, 3) := db3_16.2.2.2.2.2.2.2.2.2.2.2.1
theorem dX3_ofSpan_22 : decode cX3_ofSpan 22 = .ok (.aload_n 0, 1) := db3_16.2.2.2.2.2.2.2.2.2.2.2.2.1
theorem dX3_ofSpan_23 : decode cX3_ofSpan 23 = .ok (.iload_n 1, 1) := db3_16.2.2.2.2.2.2.2.2.2.2.2.2.2.1
theorem dX3_ofSpan_24 : decode cX3_ofSpan 24 = .ok (.iload_n 2, 1) := db3_16.2.2.2.2.2.2.2.2.2.2.2.2.2.2.1
theorem dX3_ofSpan_25 : decode cX3_ofSpan 25 = .ok (.invokevirtual 132, 3) := db3_16.2.2.2.2.2.2.2.2.2.2.2.2.2.2.2
theorem dX3_ofSpan_28 : decode cX3_ofSpan 28 = .ok (.ireturn, 1) := by decide +kernel
theorem db3_17 : (decode cX3_failsShift 0 = .ok (.aload_n 0, 1)) ∧ (decode cX3_failsShift 1 = .ok (.iload_n 1, 1)) ∧ (decode cX3_failsShift 2 = .ok (.invokestatic 31, 3)) ∧ (decode cX3_failsShift 5 = .ok (.iload_n 2, 1)) ∧ (decode cX3_failsShift 6 = .ok (.ldc 97, 2)) ∧ (decode cX3_failsShift 8 = .ok (.ldc 98, 2)) ∧ (decode cX3_failsShift 10 = .ok (.invokestatic 27, 3)) ∧ (decode cX3_failsShift 13 = .ok (.iconst 0, 1)) ∧ (decode cX3_failsShift 14 = .ok (.invokevirtual 77, 3)) ∧ (decode cX3_failsShift 17 = .ok (.ireturn, 1)) := by decide +kernel
theorem dX3_failsShift_0 : decode cX3_failsShift 0 = .ok (.aload_n 0, 1) := db3_17.1
theorem dX3_failsShift_1 : decode cX3_failsShift 1 = .ok (.iload_n 1, 1) := db3_17.2.1
theorem dX3_failsShift_2 : decode cX3_failsShift 2 = .ok (.invokestatic 31, 3) := db3_17.2.2.1
theorem dX3_failsShift_5 : decode cX3_failsShift 5 = .ok (.iload_n 2, 1) := db3_17.2.2.2.1
theorem dX3_failsShift_6 : decode cX3_failsShift 6 = .ok (.ldc 97, 2) := db3_17.2.2.2.2.1
theorem dX3_failsShift_8 : decode cX3_failsShift 8 = .ok (.ldc 98, 2) := db3_17.2.2.2.2.2.1
theorem dX3_failsShift_10 : decode cX3_failsShift 10 = .ok (.invokestatic 27, 3) := db3_17.2.2.2.2.2.2.1
theorem dX3_failsShift_13 : decode cX3_failsShift 13 = .ok (.iconst 0, 1) := db3_17.2.2.2.2.2.2.2.1
theorem dX3_failsShift_14 : decode cX3_failsShift 14 = .ok (.invokevirtual 77, 3) := db3_17.2.2.2.2.2.2.2.2.1
theorem dX3_failsShift_17 : decode cX3_failsShift 17 = .ok (.ireturn, 1) := db3_17.2.2.2.2.2.2.2.2.2
theorem db3_18 : (decode cX3_lossNow 0 = .ok (.aload_n 0, 1)) ∧ (decode cX3_lossNow 1 = .ok (.getfield 11, 3)) ∧ (decode cX3_lossNow 4 = .ok (.iload_n 1, 1)) ∧ (decode cX3_lossNow 5 = .ok (.aaload, 1)) ∧ (decode cX3_lossNow 6 = .ok (.iconst 1, 1)) ∧ (decode cX3_lossNow 7 = .ok (.iaload, 1)) ∧ (decode cX3_lossNow 8 = .ok (.aload_n 0, 1)) ∧ (decode cX3_lossNow 9 = .ok (.getfield 11, 3)) ∧ (decode cX3_lossNow 12 = .ok (.iload_n 1, 1)) ∧ (decode cX3_lossNow 13 = .ok (.aaload, 1)) ∧ (decode cX3_lossNow 14 = .ok (.iload_n 2, 1)) ∧ (decode cX3_lossNow 15 = .ok (.invokestatic 99, 3)) ∧ (decode cX3_lossNow 18 = .ok (.iconst 1, 1)) ∧ (decode cX3_lossNow 19 = .ok (.iaload, 1)) ∧ (decode cX3_lossNow 20 = .ok (.isub, 1)) ∧ (decode cX3_lossNow 21 = .ok (.ireturn, 1)) := by decide +kernel
theorem dX3_lossNow_0 : decode cX3_lossNow 0 = .ok (.aload_n 0, 1) := db3_18.1
theorem dX3_lossNow_1 : decode cX3_lossNow 1 = .ok (.getfield 11, 3) := db3_18.2.1
theorem dX3_lossNow_4 : decode cX3_lossNow 4 = .ok (.iload_n 1, 1) := db3_18.2.2.1
theorem dX3_lossNow_5 : decode cX3_lossNow 5 = .ok (.aaload, 1) := db3_18.2.2.2.1
theorem dX3_lossNow_6 : decode cX3_lossNow 6 = .ok (.iconst 1, 1) := db3_18.2.2.2.2.1
theorem dX3_lossNow_7 : decode cX3_lossNow 7 = .ok (.iaload, 1) := db3_18.2.2.2.2.2.1
theorem dX3_lossNow_8 : decode cX3_lossNow 8 = .ok (.aload_n 0, 1) := db3_18.2.2.2.2.2.2.1
theorem dX3_lossNow_9 : decode cX3_lossNow 9 = .ok (.getfield 11, 3) := db3_18.2.2.2.2.2.2.2.1
theorem dX3_lossNow_12 : decode cX3_lossNow 12 = .ok (.iload_n 1, 1) := db3_18.2.2.2.2.2.2.2.2.1
theorem dX3_lossNow_13 : decode cX3_lossNow 13 = .ok (.aaload, 1) := db3_18.2.2.2.2.2.2.2.2.2.1
theorem dX3_lossNow_14 : decode cX3_lossNow 14 = .ok (.iload_n 2, 1) := db3_18.2.2.2.2.2.2.2.2.2.2.1
theorem dX3_lossNow_15 : decode cX3_lossNow 15 = .ok (.invokestatic 99, 3) := db3_18.2.2.2.2.2.2.2.2.2.2.2.1
theorem dX3_lossNow_18 : decode cX3_lossNow 18 = .ok (.iconst 1, 1) := db3_18.2.2.2.2.2.2.2.2.2.2.2.2.1
theorem dX3_lossNow_19 : decode cX3_lossNow 19 = .ok (.iaload, 1) := db3_18.2.2.2.2.2.2.2.2.2.2.2.2.2.1
theorem dX3_lossNow_20 : decode cX3_lossNow 20 = .ok (.isub, 1) := db3_18.2.2.2.2.2.2.2.2.2.2.2.2.2.2.1
theorem dX3_lossNow_21 : decode cX3_lossNow 21 = .ok (.ireturn, 1) := db3_18.2.2.2.2.2.2.2.2.2.2.2.2.2.2.2
theorem db3_19 : (decode cX3_isKept 0 = .ok (.aload_n 0, 1)) ∧ (decode cX3_isKept 1 = .ok (.iload_n 1, 1)) ∧ (decode cX3_isKept 2 = .ok (.iload_n 2, 1)) ∧ (decode cX3_isKept 3 = .ok (.invokevirtual 135, 3)) ∧ (decode cX3_isKept 6 = .ok (.ifCond .ne 16, 3)) ∧ (decode cX3_isKept 9 = .ok (.aload_n 0, 1)) ∧ (decode cX3_isKept 10 = .ok (.iload_n 1, 1)) ∧ (decode cX3_isKept 11 = .ok (.iload_n 2, 1)) ∧ (decode cX3_isKept 12 = .ok (.invokevirtual 138, 3)) ∧ (decode cX3_isKept 15 = .ok (.ifCond .ne 7, 3)) ∧ (decode cX3_isKept 18 = .ok (.iconst 1, 1)) ∧ (decode cX3_isKept 19 = .ok (.goto 4, 3)) ∧ (decode cX3_isKept 22 = .ok (.iconst 0, 1)) ∧ (decode cX3_isKept 23 = .ok (.ireturn, 1)) := by decide +kernel
theorem dX3_isKept_0 : decode cX3_isKept 0 = .ok (.aload_n 0, 1) := db3_19.1
theorem dX3_isKept_1 : decode cX3_isKept 1 = .ok (.iload_n 1, 1) := db3_19.2.1
theorem dX3_isKept_2 : decode cX3_isKept 2 = .ok (.iload_n 2, 1) := db3_19.2.2.1
theorem dX3_isKept_3 : decode cX3_isKept 3 = .ok (.invokevirtual 135, 3) := db3_19.2.2.2.1
theorem dX3_isKept_6 : decode cX3_isKept 6 = .ok (.ifCond .ne 16, 3) := db3_19.2.2.2.2.1
theorem dX3_isKept_9 : decode cX3_isKept 9 = .ok (.aload_n 0, 1) := db3_19.2.2.2.2.2.1
theorem dX3_isKept_10 : decode cX3_isKept 10 = .ok (.iload_n 1, 1) := db3_19.2.2.2.2.2.2.1
theorem dX3_isKept_11 : decode cX3_isKept 11 = .ok (.iload_n 2, 1) := db3_19.2.2.2.2.2.2.2.1
theorem dX3_isKept_12 : decode cX3_isKept 12 = .ok (.invokevirtual 138, 3) := db3_19.2.2.2.2.2.2.2.2.1
theorem dX3_isKept_15 : decode cX3_isKept 15 = .ok (.ifCond .ne 7, 3) := db3_19.2.2.2.2.2.2.2.2.2.1
theorem dX3_isKept_18 : decode cX3_isKept 18 = .ok (.iconst 1, 1) := db3_19.2.2.2.2.2.2.2.2.2.2.1
theorem dX3_isKept_19 : decode cX3_isKept 19 = .ok (.goto 4, 3) := db3_19.2.2.2.2.2.2.2.2.2.2.2.1
theorem dX3_isKept_22 : decode cX3_isKept 22 = .ok (.iconst 0, 1) := db3_19.2.2.2.2.2.2.2.2.2.2.2.2.1
theorem dX3_isKept_23 : decode cX3_isKept 23 = .ok (.ireturn, 1) := db3_19.2.2.2.2.2.2.2.2.2.2.2.2.2
theorem db3_20 : (decode cX3_loss 0 = .ok (.aload_n 0, 1)) ∧ (decode cX3_loss 1 = .ok (.iload_n 1, 1)) ∧ (decode cX3_loss 2 = .ok (.iload_n 2, 1)) ∧ (decode cX3_loss 3 = .ok (.invokevirtual 135, 3)) ∧ (decode cX3_loss 6 = .ok (.ifCond .eq 7, 3)) ∧ (decode cX3_loss 9 = .ok (.iconst 0, 1)) ∧ (decode cX3_loss 10 = .ok (.goto 9, 3)) ∧ (decode cX3_loss 13 = .ok (.aload_n 0, 1)) ∧ (decode cX3_loss 14 = .ok (.iload_n 1, 1)) ∧ (decode cX3_loss 15 = .ok (.iload_n 2, 1)) ∧ (decode cX3_loss 16 = .ok (.invokevirtual 138, 3)) ∧ (decode cX3_loss 19 = .ok (.ireturn, 1)) := by decide +kernel
theorem dX3_loss_0 : decode cX3_loss 0 = .ok (.aload_n 0, 1) := db3_20.1
theorem dX3_loss_1 : decode cX3_loss 1 = .ok (.iload_n 1, 1) := db3_20.2.1
theorem dX3_loss_2 : decode cX3_loss 2 = .ok (.iload_n 2, 1) := db3_20.2.2.1
theorem dX3_loss_3 : decode cX3_loss 3 = .ok (.invokevirtual 135, 3) := db3_20.2.2.2.1
theorem dX3_loss_6 : decode cX3_loss 6 = .ok (.ifCond .eq 7, 3) := db3_20.2.2.2.2.1
theorem dX3_loss_9 : decode cX3_loss 9 = .ok (.iconst 0, 1) := db3_20.2.2.2.2.2.1
theorem dX3_loss_10 : decode cX3_loss 10 = .ok (.goto 9, 3) := db3_20.2.2.2.2.2.2.1
theorem dX3_loss_13 : decode cX3_loss 13 = .ok (.aload_n 0, 1) := db3_20.2.2.2.2.2.2.2.1
theorem dX3_loss_14 : decode cX3_loss 14 = .ok (.iload_n 1, 1) := db3_20.2.2.2.2.2.2.2.2.1
theorem dX3_loss_15 : decode cX3_loss 15 = .ok (.iload_n 2, 1) := db3_20.2.2.2.2.2.2.2.2.2.1
theorem dX3_loss_16 : decode cX3_loss 16 = .ok (.invokevirtual 138, 3) := db3_20.2.2.2.2.2.2.2.2.2.2.1
theorem dX3_loss_19 : decode cX3_loss 19 = .ok (.ireturn, 1) := db3_20.2.2.2.2.2.2.2.2.2.2.2
theorem db3_21 : (decode cX3_leadsBack 0 = .ok (.aload_n 0, 1)) ∧ (decode cX3_leadsBack 1 = .ok (.iload_n 1, 1)) ∧ (decode cX3_leadsBack 2 = .ok (.iload_n 2, 1)) ∧ (decode cX3_leadsBack 3 = .ok (.invokevirtual 135, 3)) ∧ (decode cX3_leadsBack 6 = .ok (.ifCond .ne 33, 3)) ∧ (decode cX3_leadsBack 9 = .ok (.aload_n 0, 1)) ∧ (decode cX3_leadsBack 10 = .ok (.getfield 11, 3)) ∧ (decode cX3_leadsBack 13 = .ok (.iload_n 1, 1)) ∧ (decode cX3_leadsBack 14 = .ok (.aaload, 1)) ∧ (decode cX3_leadsBack 15 = .ok (.iload_n 2, 1)) ∧ (decode cX3_leadsBack 16 = .ok (.invokestatic 99, 3)) ∧ (decode cX3_leadsBack 19 = .ok (.iload_n 2, 1)) ∧ (decode cX3_leadsBack 20 = .ok (.ineg, 1)) ∧ (decode cX3_leadsBack 21 = .ok (.invokestatic 99, 3)) ∧ (decode cX3_leadsBack 24 = .ok (.invokestatic 64, 3)) ∧ (decode cX3_leadsBack 27 = .ok (.aload_n 0, 1)) := by decide +kernel
theorem dX3_leadsBack_0 : decode cX3_leadsBack 0 = .ok (.aload_n 0, 1) := db3_21.1
theorem dX3_leadsBack_1 : decode cX3_leadsBack 1 = .ok (.iload_n 1, 1) := db3_21.2.1
theorem dX3_leadsBack_2 : decode cX3_leadsBack 2 = .ok (.iload_n 2, 1) := db3_21.2.2.1
theorem dX3_leadsBack_3 : decode cX3_leadsBack 3 = .ok (.invokevirtual 135, 3) := db3_21.2.2.2.1
theorem dX3_leadsBack_6 : decode cX3_leadsBack 6 = .ok (.ifCond .ne 33, 3) := db3_21.2.2.2.2.1
theorem dX3_leadsBack_9 : decode cX3_leadsBack 9 = .ok (.aload_n 0, 1) := db3_21.2.2.2.2.2.1
theorem dX3_leadsBack_10 : decode cX3_leadsBack 10 = .ok (.getfield 11, 3) := db3_21.2.2.2.2.2.2.1
theorem dX3_leadsBack_13 : decode cX3_leadsBack 13 = .ok (.iload_n 1, 1) := db3_21.2.2.2.2.2.2.2.1
theorem dX3_leadsBack_14 : decode cX3_leadsBack 14 = .ok (.aaload, 1) := db3_21.2.2.2.2.2.2.2.2.1
theorem dX3_leadsBack_15 : decode cX3_leadsBack 15 = .ok (.iload_n 2, 1) := db3_21.2.2.2.2.2.2.2.2.2.1
theorem dX3_leadsBack_16 : decode cX3_leadsBack 16 = .ok (.invokestatic 99, 3) := db3_21.2.2.2.2.2.2.2.2.2.2.1
theorem dX3_leadsBack_19 : decode cX3_leadsBack 19 = .ok (.iload_n 2, 1) := db3_21.2.2.2.2.2.2.2.2.2.2.2.1
theorem dX3_leadsBack_20 : decode cX3_leadsBack 20 = .ok (.ineg, 1) := db3_21.2.2.2.2.2.2.2.2.2.2.2.2.1
theorem dX3_leadsBack_21 : decode cX3_leadsBack 21 = .ok (.invokestatic 99, 3) := db3_21.2.2.2.2.2.2.2.2.2.2.2.2.2.1
theorem dX3_leadsBack_24 : decode cX3_leadsBack 24 = .ok (.invokestatic 64, 3) := db3_21.2.2.2.2.2.2.2.2.2.2.2.2.2.2.1
theorem dX3_leadsBack_27 : decode cX3_leadsBack 27 = .ok (.aload_n 0, 1) := db3_21.2.2.2.2.2.2.2.2.2.2.2.2.2.2.2
theorem db3_22 : (decode cX3_leadsBack 28 = .ok (.iload_n 1, 1)) ∧ (decode cX3_leadsBack 29 = .ok (.invokevirtual 85, 3)) ∧ (decode cX3_leadsBack 32 = .ok (.if_icmp .ne 7, 3)) ∧ (decode cX3_leadsBack 35 = .ok (.iconst 1, 1)) ∧ (decode cX3_leadsBack 36 = .ok (.goto 4, 3)) ∧ (decode cX3_leadsBack 39 = .ok (.iconst 0, 1)) ∧ (decode cX3_leadsBack 40 = .ok (.ireturn, 1)) := by decide +kernel
theorem dX3_leadsBack_28 : decode cX3_leadsBack 28 = .ok (.iload_n 1, 1) := db3_22.1
theorem dX3_leadsBack_29 : decode cX3_leadsBack 29 = .ok (.invokevirtual 85, 3) := db3_22.2.1
theorem dX3_leadsBack_32 : decode cX3_leadsBack 32 = .ok (.if_icmp .ne 7, 3) := db3_22.2.2.1
theorem dX3_leadsBack_35 : decode cX3_leadsBack 35 = .ok (.iconst 1, 1) := db3_22.2.2.2.1
theorem dX3_leadsBack_36 : decode cX3_leadsBack 36 = .ok (.goto 4, 3) := db3_22.2.2.2.2.1
theorem dX3_leadsBack_39 : decode cX3_leadsBack 39 = .ok (.iconst 0, 1) := db3_22.2.2.2.2.2.1
theorem dX3_leadsBack_40 : decode cX3_leadsBack 40 = .ok (.ireturn, 1) := db3_22.2.2.2.2.2.2
theorem db3_23 : (decode cX3_twice 0 = .ok (.aload_n 0, 1)) ∧ (decode cX3_twice 1 = .ok (.iload_n 1, 1)) ∧ (decode cX3_twice 2 = .ok (.invokestatic 31, 3)) ∧ (decode cX3_twice 5 = .ok (.iload_n 2, 1)) ∧ (decode cX3_twice 6 = .ok (.ldc 97, 2)) ∧ (decode cX3_twice 8 = .ok (.ldc 98, 2)) ∧ (decode cX3_twice 10 = .ok (.invokestatic 27, 3)) ∧ (decode cX3_twice 13 = .ok (.ifCond .ne 14, 3)) ∧ (decode cX3_twice 16 = .ok (.iload_n 3, 1)) ∧ (decode cX3_twice 17 = .ok (.ldc 97, 2)) ∧ (decode cX3_twice 19 = .ok (.ldc 98, 2)) ∧ (decode cX3_twice 21 = .ok (.invokestatic 27, 3)) ∧ (decode cX3_twice 24 = .ok (.ifCond .eq 7, 3)) ∧ (decode cX3_twice 27 = .ok (.iconst 1, 1)) ∧ (decode cX3_twice 28 = .ok (.goto 4, 3)) ∧ (decode cX3_twice 31 = .ok (.iconst 0, 1)) := by decide +kernel
theorem dX3_twice_0 : decode cX3_twice 0 = .ok (.aload_n 0, 1) := db3_23.1
theorem dX3_twice_1 : decode cX3_twice 1 = .ok (.iload_n 1, 1) := db3_23.2.1
theorem dX3_twice_2 : decode cX3_twice 2 = .ok (.invokestatic 31, 3) := db3_23.2.2.1
theorem dX3_twice_5 : decode cX3_twice 5 = .ok (.iload_n 2, 1) := db3_23.2.2.2.1
theorem dX3_twice_6 : decode cX3_twice 6 = .ok (.ldc 97, 2) := db3_23.2.2.2.2.1
theorem dX3_twice_8 : decode cX3_twice 8 = .ok (.ldc 98, 2) := db3_23.2.2.2.2.2.1
theorem dX3_twice_10 : decode cX3_twice 10 = .ok (.invokestatic 27, 3) := db3_23.2.2.2.2.2.2.1
theorem dX3_twice_13 : decode cX3_twice 13 = .ok (.ifCond .ne 14, 3) := db3_23.2.2.2.2.2.2.2.1
theorem dX3_twice_16 : decode cX3_twice 16 = .ok (.iload_n 3, 1) := db3_23.2.2.2.2.2.2.2.2.1
theorem dX3_twice_17 : decode cX3_twice 17 = .ok (.ldc 97, 2) := db3_23.2.2.2.2.2.2.2.2.2.1
theorem dX3_twice_19 : decode cX3_twice 19 = .ok (.ldc 98, 2) := db3_23.2.2.2.2.2.2.2.2.2.2.1
theorem dX3_twice_21 : decode cX3_twice 21 = .ok (.invokestatic 27, 3) := db3_23.2.2.2.2.2.2.2.2.2.2.2.1
theorem dX3_twice_24 : decode cX3_twice 24 = .ok (.ifCond .eq 7, 3) := db3_23.2.2.2.2.2.2.2.2.2.2.2.2.1
theorem dX3_twice_27 : decode cX3_twice 27 = .ok (.iconst 1, 1) := db3_23.2.2.2.2.2.2.2.2.2.2.2.2.2.1
theorem dX3_twice_28 : decode cX3_twice 28 = .ok (.goto 4, 3) := db3_23.2.2.2.2.2.2.2.2.2.2.2.2.2.2.1
theorem dX3_twice_31 : decode cX3_twice 31 = .ok (.iconst 0, 1) := db3_23.2.2.2.2.2.2.2.2.2.2.2.2.2.2.2
theorem db3_24 : (decode cX3_twice 32 = .ok (.iconst 0, 1)) ∧ (decode cX3_twice 33 = .ok (.invokevirtual 77, 3)) ∧ (decode cX3_twice 36 = .ok (.ifCond .eq 5, 3)) ∧ (decode cX3_twice 39 = .ok (.iconst 0, 1)) ∧ (decode cX3_twice 40 = .ok (.ireturn, 1)) ∧ (decode cX3_twice 41 = .ok (.aload_n 0, 1)) ∧ (decode cX3_twice 42 = .ok (.getfield 11, 3)) ∧ (decode cX3_twice 45 = .ok (.iload_n 1, 1)) ∧ (decode cX3_twice 46 = .ok (.aaload, 1)) ∧ (decode cX3_twice 47 = .ok (.iload_n 2, 1)) ∧ (decode cX3_twice 48 = .ok (.iload_n 3, 1)) ∧ (decode cX3_twice 49 = .ok (.iadd, 1)) ∧ (decode cX3_twice 50 = .ok (.invokestatic 99, 3)) ∧ (decode cX3_twice 53 = .ok (.invokestatic 64, 3)) ∧ (decode cX3_twice 56 = .ok (.aload_n 0, 1)) ∧ (decode cX3_twice 57 = .ok (.getfield 11, 3)) := by decide +kernel
theorem dX3_twice_32 : decode cX3_twice 32 = .ok (.iconst 0, 1) := db3_24.1
theorem dX3_twice_33 : decode cX3_twice 33 = .ok (.invokevirtual 77, 3) := db3_24.2.1
theorem dX3_twice_36 : decode cX3_twice 36 = .ok (.ifCond .eq 5, 3) := db3_24.2.2.1
theorem dX3_twice_39 : decode cX3_twice 39 = .ok (.iconst 0, 1) := db3_24.2.2.2.1
theorem dX3_twice_40 : decode cX3_twice 40 = .ok (.ireturn, 1) := db3_24.2.2.2.2.1
theorem dX3_twice_41 : decode cX3_twice 41 = .ok (.aload_n 0, 1) := db3_24.2.2.2.2.2.1
theorem dX3_twice_42 : decode cX3_twice 42 = .ok (.getfield 11, 3) := db3_24.2.2.2.2.2.2.1
theorem dX3_twice_45 : decode cX3_twice 45 = .ok (.iload_n 1, 1) := db3_24.2.2.2.2.2.2.2.1
theorem dX3_twice_46 : decode cX3_twice 46 = .ok (.aaload, 1) := db3_24.2.2.2.2.2.2.2.2.1
theorem dX3_twice_47 : decode cX3_twice 47 = .ok (.iload_n 2, 1) := db3_24.2.2.2.2.2.2.2.2.2.1
theorem dX3_twice_48 : decode cX3_twice 48 = .ok (.iload_n 3, 1) := db3_24.2.2.2.2.2.2.2.2.2.2.1
theorem dX3_twice_49 : decode cX3_twice 49 = .ok (.iadd, 1) := db3_24.2.2.2.2.2.2.2.2.2.2.2.1
theorem dX3_twice_50 : decode cX3_twice 50 = .ok (.invokestatic 99, 3) := db3_24.2.2.2.2.2.2.2.2.2.2.2.2.1
theorem dX3_twice_53 : decode cX3_twice 53 = .ok (.invokestatic 64, 3) := db3_24.2.2.2.2.2.2.2.2.2.2.2.2.2.1
theorem dX3_twice_56 : decode cX3_twice 56 = .ok (.aload_n 0, 1) := db3_24.2.2.2.2.2.2.2.2.2.2.2.2.2.2.1
theorem dX3_twice_57 : decode cX3_twice 57 = .ok (.getfield 11, 3) := db3_24.2.2.2.2.2.2.2.2.2.2.2.2.2.2.2
theorem db3_25 : (decode cX3_twice 60 = .ok (.iload_n 1, 1)) ∧ (decode cX3_twice 61 = .ok (.aaload, 1)) ∧ (decode cX3_twice 62 = .ok (.iload_n 2, 1)) ∧ (decode cX3_twice 63 = .ok (.invokestatic 99, 3)) ∧ (decode cX3_twice 66 = .ok (.iload_n 3, 1)) ∧ (decode cX3_twice 67 = .ok (.invokestatic 99, 3)) ∧ (decode cX3_twice 70 = .ok (.invokestatic 64, 3)) ∧ (decode cX3_twice 73 = .ok (.isub, 1)) ∧ (decode cX3_twice 74 = .ok (.ireturn, 1)) := by decide +kernel
theorem dX3_twice_60 : decode cX3_twice 60 = .ok (.iload_n 1, 1) := db3_25.1
theorem dX3_twice_61 : decode cX3_twice 61 = .ok (.aaload, 1) := db3_25.2.1
theorem dX3_twice_62 : decode cX3_twice 62 = .ok (.iload_n 2, 1) := db3_25.2.2.1
theorem dX3_twice_63 : decode cX3_twice 63 = .ok (.invokestatic 99, 3) := db3_25.2.2.2.1
theorem dX3_twice_66 : decode cX3_twice 66 = .ok (.iload_n 3, 1) := db3_25.2.2.2.2.1
theorem dX3_twice_67 : decode cX3_twice 67 = .ok (.invokestatic 99, 3) := db3_25.2.2.2.2.2.1
theorem dX3_twice_70 : decode cX3_twice 70 = .ok (.invokestatic 64, 3) := db3_25.2.2.2.2.2.2.1
theorem dX3_twice_73 : decode cX3_twice 73 = .ok (.isub, 1) := db3_25.2.2.2.2.2.2.2.1
theorem dX3_twice_74 : decode cX3_twice 74 = .ok (.ireturn, 1) := db3_25.2.2.2.2.2.2.2.2
theorem db3_26 : (decode cX3_gapNow 0 = .ok (.aload_n 0, 1)) ∧ (decode cX3_gapNow 1 = .ok (.getfield 11, 3)) ∧ (decode cX3_gapNow 4 = .ok (.iload_n 1, 1)) ∧ (decode cX3_gapNow 5 = .ok (.aaload, 1)) ∧ (decode cX3_gapNow 6 = .ok (.iload_n 3, 1)) ∧ (decode cX3_gapNow 7 = .ok (.invokestatic 105, 3)) ∧ (decode cX3_gapNow 10 = .ok (.iload_n 2, 1)) ∧ (decode cX3_gapNow 11 = .ok (.invokestatic 99, 3)) ∧ (decode cX3_gapNow 14 = .ok (.invokestatic 64, 3)) ∧ (decode cX3_gapNow 17 = .ok (.aload_n 0, 1)) ∧ (decode cX3_gapNow 18 = .ok (.getfield 11, 3)) ∧ (decode cX3_gapNow 21 = .ok (.iload_n 1, 1)) ∧ (decode cX3_gapNow 22 = .ok (.aaload, 1)) ∧ (decode cX3_gapNow 23 = .ok (.iload_n 2, 1)) ∧ (decode cX3_gapNow 24 = .ok (.invokestatic 99, 3)) ∧ (decode cX3_gapNow 27 = .ok (.iload_n 3, 1)) := by decide +kernel
theorem dX3_gapNow_0 : decode cX3_gapNow 0 = .ok (.aload_n 0, 1) := db3_26.1
theorem dX3_gapNow_1 : decode cX3_gapNow 1 = .ok (.getfield 11, 3) := db3_26.2.1
theorem dX3_gapNow_4 : decode cX3_gapNow 4 = .ok (.iload_n 1, 1) := db3_26.2.2.1
theorem dX3_gapNow_5 : decode cX3_gapNow 5 = .ok (.aaload, 1) := db3_26.2.2.2.1
theorem dX3_gapNow_6 : decode cX3_gapNow 6 = .ok (.iload_n 3, 1) := db3_26.2.2.2.2.1
theorem dX3_gapNow_7 : decode cX3_gapNow 7 = .ok (.invokestatic 105, 3) := db3_26.2.2.2.2.2.1
theorem dX3_gapNow_10 : decode cX3_gapNow 10 = .ok (.iload_n 2, 1) := db3_26.2.2.2.2.2.2.1
theorem dX3_gapNow_11 : decode cX3_gapNow 11 = .ok (.invokestatic 99, 3) := db3_26.2.2.2.2.2.2.2.1
theorem dX3_gapNow_14 : decode cX3_gapNow 14 = .ok (.invokestatic 64, 3) := db3_26.2.2.2.2.2.2.2.2.1
theorem dX3_gapNow_17 : decode cX3_gapNow 17 = .ok (.aload_n 0, 1) := db3_26.2.2.2.2.2.2.2.2.2.1
theorem dX3_gapNow_18 : decode cX3_gapNow 18 = .ok (.getfield 11, 3) := db3_26.2.2.2.2.2.2.2.2.2.2.1
theorem dX3_gapNow_21 : decode cX3_gapNow 21 = .ok (.iload_n 1, 1) := db3_26.2.2.2.2.2.2.2.2.2.2.2.1
theorem dX3_gapNow_22 : decode cX3_gapNow 22 = .ok (.aaload, 1) := db3_26.2.2.2.2.2.2.2.2.2.2.2.2.1
theorem dX3_gapNow_23 : decode cX3_gapNow 23 = .ok (.iload_n 2, 1) := db3_26.2.2.2.2.2.2.2.2.2.2.2.2.2.1
theorem dX3_gapNow_24 : decode cX3_gapNow 24 = .ok (.invokestatic 99, 3) := db3_26.2.2.2.2.2.2.2.2.2.2.2.2.2.2.1
theorem dX3_gapNow_27 : decode cX3_gapNow 27 = .ok (.iload_n 3, 1) := db3_26.2.2.2.2.2.2.2.2.2.2.2.2.2.2.2
theorem db3_27 : (decode cX3_gapNow 28 = .ok (.invokestatic 105, 3)) ∧ (decode cX3_gapNow 31 = .ok (.invokestatic 64, 3)) ∧ (decode cX3_gapNow 34 = .ok (.isub, 1)) ∧ (decode cX3_gapNow 35 = .ok (.ireturn, 1)) := by decide +kernel
theorem dX3_gapNow_28 : decode cX3_gapNow 28 = .ok (.invokestatic 105, 3) := db3_27.1
theorem dX3_gapNow_31 : decode cX3_gapNow 31 = .ok (.invokestatic 64, 3) := db3_27.2.1
theorem dX3_gapNow_34 : decode cX3_gapNow 34 = .ok (.isub, 1) := db3_27.2.2.1
theorem dX3_gapNow_35 : decode cX3_gapNow 35 = .ok (.ireturn, 1) := db3_27.2.2.2
theorem db3_28 : (decode cX3_gap 0 = .ok (.aload_n 0, 1)) ∧ (decode cX3_gap 1 = .ok (.iload_n 1, 1)) ∧ (decode cX3_gap 2 = .ok (.invokestatic 31, 3)) ∧ (decode cX3_gap 5 = .ok (.iload_n 2, 1)) ∧ (decode cX3_gap 6 = .ok (.ldc 97, 2)) ∧ (decode cX3_gap 8 = .ok (.ldc 98, 2)) ∧ (decode cX3_gap 10 = .ok (.invokestatic 27, 3)) ∧ (decode cX3_gap 13 = .ok (.ifCond .ne 14, 3)) ∧ (decode cX3_gap 16 = .ok (.iload_n 3, 1)) ∧ (decode cX3_gap 17 = .ok (.ldc 141, 2)) ∧ (decode cX3_gap 19 = .ok (.ldc 142, 2)) ∧ (decode cX3_gap 21 = .ok (.invokestatic 27, 3)) ∧ (decode cX3_gap 24 = .ok (.ifCond .eq 7, 3)) ∧ (decode cX3_gap 27 = .ok (.iconst 1, 1)) ∧ (decode cX3_gap 28 = .ok (.goto 4, 3)) ∧ (decode cX3_gap 31 = .ok (.iconst 0, 1)) := by decide +kernel
theorem dX3_gap_0 : decode cX3_gap 0 = .ok (.aload_n 0, 1) := db3_28.1
theorem dX3_gap_1 : decode cX3_gap 1 = .ok (.iload_n 1, 1) := db3_28.2.1
theorem dX3_gap_2 : decode cX3_gap 2 = .ok (.invokestatic 31, 3) := db3_28.2.2.1
theorem dX3_gap_5 : decode cX3_gap 5 = .ok (.iload_n 2, 1) := db3_28.2.2.2.1
theorem dX3_gap_6 : decode cX3_gap 6 = .ok (.ldc 97, 2) := db3_28.2.2.2.2.1
theorem dX3_gap_8 : decode cX3_gap 8 = .ok (.ldc 98, 2) := db3_28.2.2.2.2.2.1
theorem dX3_gap_10 : decode cX3_gap 10 = .ok (.invokestatic 27, 3) := db3_28.2.2.2.2.2.2.1
theorem dX3_gap_13 : decode cX3_gap 13 = .ok (.ifCond .ne 14, 3) := db3_28.2.2.2.2.2.2.2.1
theorem dX3_gap_16 : decode cX3_gap 16 = .ok (.iload_n 3, 1) := db3_28.2.2.2.2.2.2.2.2.1
theorem dX3_gap_17 : decode cX3_gap 17 = .ok (.ldc 141, 2) := db3_28.2.2.2.2.2.2.2.2.2.1
theorem dX3_gap_19 : decode cX3_gap 19 = .ok (.ldc 142, 2) := db3_28.2.2.2.2.2.2.2.2.2.2.1
theorem dX3_gap_21 : decode cX3_gap 21 = .ok (.invokestatic 27, 3) := db3_28.2.2.2.2.2.2.2.2.2.2.2.1
theorem dX3_gap_24 : decode cX3_gap 24 = .ok (.ifCond .eq 7, 3) := db3_28.2.2.2.2.2.2.2.2.2.2.2.2.1
theorem dX3_gap_27 : decode cX3_gap 27 = .ok (.iconst 1, 1) := db3_28.2.2.2.2.2.2.2.2.2.2.2.2.2.1
theorem dX3_gap_28 : decode cX3_gap 28 = .ok (.goto 4, 3) := db3_28.2.2.2.2.2.2.2.2.2.2.2.2.2.2.1
theorem dX3_gap_31 : decode cX3_gap 31 = .ok (.iconst 0, 1) := db3_28.2.2.2.2.2.2.2.2.2.2.2.2.2.2.2
theorem db3_29 : (decode cX3_gap 32 = .ok (.iconst 0, 1)) ∧ (decode cX3_gap 33 = .ok (.invokevirtual 77, 3)) ∧ (decode cX3_gap 36 = .ok (.ifCond .eq 7, 3)) ∧ (decode cX3_gap 39 = .ok (.iconst 0, 1)) ∧ (decode cX3_gap 40 = .ok (.goto 10, 3)) ∧ (decode cX3_gap 43 = .ok (.aload_n 0, 1)) ∧ (decode cX3_gap 44 = .ok (.iload_n 1, 1)) ∧ (decode cX3_gap 45 = .ok (.iload_n 2, 1)) ∧ (decode cX3_gap 46 = .ok (.iload_n 3, 1)) ∧ (decode cX3_gap 47 = .ok (.invokevirtual 143, 3)) ∧ (decode cX3_gap 50 = .ok (.ireturn, 1)) := by decide +kernel
theorem dX3_gap_32 : decode cX3_gap 32 = .ok (.iconst 0, 1) := db3_29.1
theorem dX3_gap_33 : decode cX3_gap 33 = .ok (.invokevirtual 77, 3) := db3_29.2.1
theorem dX3_gap_36 : decode cX3_gap 36 = .ok (.ifCond .eq 7, 3) := db3_29.2.2.1
theorem dX3_gap_39 : decode cX3_gap 39 = .ok (.iconst 0, 1) := db3_29.2.2.2.1
theorem dX3_gap_40 : decode cX3_gap 40 = .ok (.goto 10, 3) := db3_29.2.2.2.2.1
theorem dX3_gap_43 : decode cX3_gap 43 = .ok (.aload_n 0, 1) := db3_29.2.2.2.2.2.1
theorem dX3_gap_44 : decode cX3_gap 44 = .ok (.iload_n 1, 1) := db3_29.2.2.2.2.2.2.1
theorem dX3_gap_45 : decode cX3_gap 45 = .ok (.iload_n 2, 1) := db3_29.2.2.2.2.2.2.2.1
theorem dX3_gap_46 : decode cX3_gap 46 = .ok (.iload_n 3, 1) := db3_29.2.2.2.2.2.2.2.2.1
theorem dX3_gap_47 : decode cX3_gap 47 = .ok (.invokevirtual 143, 3) := db3_29.2.2.2.2.2.2.2.2.2.1
theorem dX3_gap_50 : decode cX3_gap 50 = .ok (.ireturn, 1) := db3_29.2.2.2.2.2.2.2.2.2.2
theorem db3_30 : (decode cX3_failsWay 0 = .ok (.aload_n 0, 1)) ∧ (decode cX3_failsWay 1 = .ok (.iload_n 1, 1)) ∧ (decode cX3_failsWay 2 = .ok (.invokestatic 31, 3)) ∧ (decode cX3_failsWay 5 = .ok (.iload_n 2, 1)) ∧ (decode cX3_failsWay 6 = .ok (.sipush (-1200), 3)) ∧ (decode cX3_failsWay 9 = .ok (.sipush 1200, 3)) ∧ (decode cX3_failsWay 12 = .ok (.invokestatic 27, 3)) ∧ (decode cX3_failsWay 15 = .ok (.ifCond .ne 13, 3)) ∧ (decode cX3_failsWay 18 = .ok (.iload_n 3, 1)) ∧ (decode cX3_failsWay 19 = .ok (.iconst 0, 1)) ∧ (decode cX3_failsWay 20 = .ok (.bipush 48, 2)) ∧ (decode cX3_failsWay 22 = .ok (.invokestatic 27, 3)) ∧ (decode cX3_failsWay 25 = .ok (.ifCond .eq 7, 3)) ∧ (decode cX3_failsWay 28 = .ok (.iconst 1, 1)) ∧ (decode cX3_failsWay 29 = .ok (.goto 4, 3)) ∧ (decode cX3_failsWay 32 = .ok (.iconst 0, 1)) := by decide +kernel
theorem dX3_failsWay_0 : decode cX3_failsWay 0 = .ok (.aload_n 0, 1) := db3_30.1
theorem dX3_failsWay_1 : decode cX3_failsWay 1 = .ok (.iload_n 1, 1) := db3_30.2.1
theorem dX3_failsWay_2 : decode cX3_failsWay 2 = .ok (.invokestatic 31, 3) := db3_30.2.2.1
theorem dX3_failsWay_5 : decode cX3_failsWay 5 = .ok (.iload_n 2, 1) := db3_30.2.2.2.1
theorem dX3_failsWay_6 : decode cX3_failsWay 6 = .ok (.sipush (-1200), 3) := db3_30.2.2.2.2.1
theorem dX3_failsWay_9 : decode cX3_failsWay 9 = .ok (.sipush 1200, 3) := db3_30.2.2.2.2.2.1
theorem dX3_failsWay_12 : decode cX3_failsWay 12 = .ok (.invokestatic 27, 3) := db3_30.2.2.2.2.2.2.1
theorem dX3_failsWay_15 : decode cX3_failsWay 15 = .ok (.ifCond .ne 13, 3) := db3_30.2.2.2.2.2.2.2.1
theorem dX3_failsWay_18 : decode cX3_failsWay 18 = .ok (.iload_n 3, 1) := db3_30.2.2.2.2.2.2.2.2.1
theorem dX3_failsWay_19 : decode cX3_failsWay 19 = .ok (.iconst 0, 1) := db3_30.2.2.2.2.2.2.2.2.2.1
theorem dX3_failsWay_20 : decode cX3_failsWay 20 = .ok (.bipush 48, 2) := db3_30.2.2.2.2.2.2.2.2.2.2.1
theorem dX3_failsWay_22 : decode cX3_failsWay 22 = .ok (.invokestatic 27, 3) := db3_30.2.2.2.2.2.2.2.2.2.2.2.1
theorem dX3_failsWay_25 : decode cX3_failsWay 25 = .ok (.ifCond .eq 7, 3) := db3_30.2.2.2.2.2.2.2.2.2.2.2.2.1
theorem dX3_failsWay_28 : decode cX3_failsWay 28 = .ok (.iconst 1, 1) := db3_30.2.2.2.2.2.2.2.2.2.2.2.2.2.1
theorem dX3_failsWay_29 : decode cX3_failsWay 29 = .ok (.goto 4, 3) := db3_30.2.2.2.2.2.2.2.2.2.2.2.2.2.2.1
theorem dX3_failsWay_32 : decode cX3_failsWay 32 = .ok (.iconst 0, 1) := db3_30.2.2.2.2.2.2.2.2.2.2.2.2.2.2.2
theorem db3_31 : (decode cX3_failsWay 33 = .ok (.iconst 0, 1)) ∧ (decode cX3_failsWay 34 = .ok (.invokevirtual 77, 3)) ∧ (decode cX3_failsWay 37 = .ok (.ireturn, 1)) := by decide +kernel
theorem dX3_failsWay_33 : decode cX3_failsWay 33 = .ok (.iconst 0, 1) := db3_31.1
theorem dX3_failsWay_34 : decode cX3_failsWay 34 = .ok (.invokevirtual 77, 3) := db3_31.2.1
theorem dX3_failsWay_37 : decode cX3_failsWay 37 = .ok (.ireturn, 1) := db3_31.2.2
theorem db3_32 : (decode cX3_way 0 = .ok (.new 147, 3)) ∧ (decode cX3_way 3 = .ok (.dup, 1)) ∧ (decode cX3_way 4 = .ok (.invokespecial 149, 3)) ∧ (decode cX3_way 7 = .ok (.astore 4, 2)) ∧ (decode cX3_way 9 = .ok (.aload_n 0, 1)) ∧ (decode cX3_way 10 = .ok (.getfield 11, 3)) ∧ (decode cX3_way 13 = .ok (.iload_n 1, 1)) ∧ (decode cX3_way 14 = .ok (.aaload, 1)) ∧ (decode cX3_way 15 = .ok (.astore 5, 2)) ∧ (decode cX3_way 17 = .ok (.aload 4, 2)) ∧ (decode cX3_way 19 = .ok (.aload 5, 2)) ∧ (decode cX3_way 21 = .ok (.iconst 1, 1)) ∧ (decode cX3_way 22 = .ok (.iaload, 1)) ∧ (decode cX3_way 23 = .ok (.invokestatic 150, 3)) ∧ (decode cX3_way 26 = .ok (.invokevirtual 156, 3)) ∧ (decode cX3_way 29 = .ok (.pop, 1)) := by decide +kernel
theorem dX3_way_0 : decode cX3_way 0 = .ok (.new 147, 3) := db3_32.1
theorem dX3_way_3 : decode cX3_way 3 = .ok (.dup, 1) := db3_32.2.1
theorem dX3_way_4 : decode cX3_way 4 = .ok (.invokespecial 149, 3) := db3_32.2.2.1
theorem dX3_way_7 : decode cX3_way 7 = .ok (.astore 4, 2) := db3_32.2.2.2.1
theorem dX3_way_9 : decode cX3_way 9 = .ok (.aload_n 0, 1) := db3_32.2.2.2.2.1
theorem dX3_way_10 : decode cX3_way 10 = .ok (.getfield 11, 3) := db3_32.2.2.2.2.2.1
theorem dX3_way_13 : decode cX3_way 13 = .ok (.iload_n 1, 1) := db3_32.2.2.2.2.2.2.1
theorem dX3_way_14 : decode cX3_way 14 = .ok (.aaload, 1) := db3_32.2.2.2.2.2.2.2.1
theorem dX3_way_15 : decode cX3_way 15 = .ok (.astore 5, 2) := db3_32.2.2.2.2.2.2.2.2.1
theorem dX3_way_17 : decode cX3_way 17 = .ok (.aload 4, 2) := db3_32.2.2.2.2.2.2.2.2.2.1
theorem dX3_way_19 : decode cX3_way 19 = .ok (.aload 5, 2) := db3_32.2.2.2.2.2.2.2.2.2.2.1
theorem dX3_way_21 : decode cX3_way 21 = .ok (.iconst 1, 1) := db3_32.2.2.2.2.2.2.2.2.2.2.2.1
theorem dX3_way_22 : decode cX3_way 22 = .ok (.iaload, 1) := db3_32.2.2.2.2.2.2.2.2.2.2.2.2.1
theorem dX3_way_23 : decode cX3_way 23 = .ok (.invokestatic 150, 3) := db3_32.2.2.2.2.2.2.2.2.2.2.2.2.2.1
theorem dX3_way_26 : decode cX3_way 26 = .ok (.invokevirtual 156, 3) := db3_32.2.2.2.2.2.2.2.2.2.2.2.2.2.2.1
theorem dX3_way_29 : decode cX3_way 29 = .ok (.pop, 1) := db3_32.2.2.2.2.2.2.2.2.2.2.2.2.2.2.2
theorem db3_33 : (decode cX3_way 30 = .ok (.iconst 0, 1)) ∧ (decode cX3_way 31 = .ok (.istore 6, 2)) ∧ (decode cX3_way 33 = .ok (.iload 6, 2)) ∧ (decode cX3_way 35 = .ok (.iload_n 3, 1)) ∧ (decode cX3_way 36 = .ok (.if_icmp .ge 30, 3)) ∧ (decode cX3_way 39 = .ok (.aload 5, 2)) ∧ (decode cX3_way 41 = .ok (.iload_n 2, 1)) ∧ (decode cX3_way 42 = .ok (.invokestatic 99, 3)) ∧ (decode cX3_way 45 = .ok (.astore 5, 2)) ∧ (decode cX3_way 47 = .ok (.aload 4, 2)) ∧ (decode cX3_way 49 = .ok (.aload 5, 2)) ∧ (decode cX3_way 51 = .ok (.iconst 1, 1)) ∧ (decode cX3_way 52 = .ok (.iaload, 1)) ∧ (decode cX3_way 53 = .ok (.invokestatic 150, 3)) ∧ (decode cX3_way 56 = .ok (.invokevirtual 156, 3)) ∧ (decode cX3_way 59 = .ok (.pop, 1)) := by decide +kernel
theorem dX3_way_30 : decode cX3_way 30 = .ok (.iconst 0, 1) := db3_33.1
theorem dX3_way_31 : decode cX3_way 31 = .ok (.istore 6, 2) := db3_33.2.1
theorem dX3_way_33 : decode cX3_way 33 = .ok (.iload 6, 2) := db3_33.2.2.1
theorem dX3_way_35 : decode cX3_way 35 = .ok (.iload_n 3, 1) := db3_33.2.2.2.1
theorem dX3_way_36 : decode cX3_way 36 = .ok (.if_icmp .ge 30, 3) := db3_33.2.2.2.2.1
theorem dX3_way_39 : decode cX3_way 39 = .ok (.aload 5, 2) := db3_33.2.2.2.2.2.1
theorem dX3_way_41 : decode cX3_way 41 = .ok (.iload_n 2, 1) := db3_33.2.2.2.2.2.2.1
theorem dX3_way_42 : decode cX3_way 42 = .ok (.invokestatic 99, 3) := db3_33.2.2.2.2.2.2.2.1
theorem dX3_way_45 : decode cX3_way 45 = .ok (.astore 5, 2) := db3_33.2.2.2.2.2.2.2.2.1
theorem dX3_way_47 : decode cX3_way 47 = .ok (.aload 4, 2) := db3_33.2.2.2.2.2.2.2.2.2.1
theorem dX3_way_49 : decode cX3_way 49 = .ok (.aload 5, 2) := db3_33.2.2.2.2.2.2.2.2.2.2.1
theorem dX3_way_51 : decode cX3_way 51 = .ok (.iconst 1, 1) := db3_33.2.2.2.2.2.2.2.2.2.2.2.1
theorem dX3_way_52 : decode cX3_way 52 = .ok (.iaload, 1) := db3_33.2.2.2.2.2.2.2.2.2.2.2.2.1
theorem dX3_way_53 : decode cX3_way 53 = .ok (.invokestatic 150, 3) := db3_33.2.2.2.2.2.2.2.2.2.2.2.2.2.1
theorem dX3_way_56 : decode cX3_way 56 = .ok (.invokevirtual 156, 3) := db3_33.2.2.2.2.2.2.2.2.2.2.2.2.2.2.1
theorem dX3_way_59 : decode cX3_way 59 = .ok (.pop, 1) := db3_33.2.2.2.2.2.2.2.2.2.2.2.2.2.2.2
theorem db3_34 : (decode cX3_way 60 = .ok (.iinc 6 1, 3)) ∧ (decode cX3_way 63 = .ok (.goto (-30), 3)) ∧ (decode cX3_way 66 = .ok (.aload 4, 2)) ∧ (decode cX3_way 68 = .ok (.areturn, 1)) := by decide +kernel
theorem dX3_way_60 : decode cX3_way 60 = .ok (.iinc 6 1, 3) := db3_34.1
theorem dX3_way_63 : decode cX3_way 63 = .ok (.goto (-30), 3) := db3_34.2.1
theorem dX3_way_66 : decode cX3_way 66 = .ok (.aload 4, 2) := db3_34.2.2.1
theorem dX3_way_68 : decode cX3_way 68 = .ok (.areturn, 1) := db3_34.2.2.2
theorem db3_35 : (decode cX3_lowest 0 = .ok (.aload_n 0, 1)) ∧ (decode cX3_lowest 1 = .ok (.iload_n 1, 1)) ∧ (decode cX3_lowest 2 = .ok (.iload_n 2, 1)) ∧ (decode cX3_lowest 3 = .ok (.iload_n 3, 1)) ∧ (decode cX3_lowest 4 = .ok (.invokevirtual 160, 3)) ∧ (decode cX3_lowest 7 = .ok (.ifCond .eq 7, 3)) ∧ (decode cX3_lowest 10 = .ok (.iconst 0, 1)) ∧ (decode cX3_lowest 11 = .ok (.goto 20, 3)) ∧ (decode cX3_lowest 14 = .ok (.aload_n 0, 1)) ∧ (decode cX3_lowest 15 = .ok (.iload_n 1, 1)) ∧ (decode cX3_lowest 16 = .ok (.iload_n 2, 1)) ∧ (decode cX3_lowest 17 = .ok (.iload_n 3, 1)) ∧ (decode cX3_lowest 18 = .ok (.invokevirtual 163, 3)) ∧ (decode cX3_lowest 21 = .ok (.iload_n 3, 1)) ∧ (decode cX3_lowest 22 = .ok (.invokevirtual 167, 3)) ∧ (decode cX3_lowest 25 = .ok (.checkcast 151, 3)) := by decide +kernel
theorem dX3_lowest_0 : decode cX3_lowest 0 = .ok (.aload_n 0, 1) := db3_35.1
theorem dX3_lowest_1 : decode cX3_lowest 1 = .ok (.iload_n 1, 1) := db3_35.2.1
theorem dX3_lowest_2 : decode cX3_lowest 2 = .ok (.iload_n 2, 1) := db3_35.2.2.1
theorem dX3_lowest_3 : decode cX3_lowest 3 = .ok (.iload_n 3, 1) := db3_35.2.2.2.1
theorem dX3_lowest_4 : decode cX3_lowest 4 = .ok (.invokevirtual 160, 3) := db3_35.2.2.2.2.1
theorem dX3_lowest_7 : decode cX3_lowest 7 = .ok (.ifCond .eq 7, 3) := db3_35.2.2.2.2.2.1
theorem dX3_lowest_10 : decode cX3_lowest 10 = .ok (.iconst 0, 1) := db3_35.2.2.2.2.2.2.1
theorem dX3_lowest_11 : decode cX3_lowest 11 = .ok (.goto 20, 3) := db3_35.2.2.2.2.2.2.2.1
theorem dX3_lowest_14 : decode cX3_lowest 14 = .ok (.aload_n 0, 1) := db3_35.2.2.2.2.2.2.2.2.1
theorem dX3_lowest_15 : decode cX3_lowest 15 = .ok (.iload_n 1, 1) := db3_35.2.2.2.2.2.2.2.2.2.1
theorem dX3_lowest_16 : decode cX3_lowest 16 = .ok (.iload_n 2, 1) := db3_35.2.2.2.2.2.2.2.2.2.2.1
theorem dX3_lowest_17 : decode cX3_lowest 17 = .ok (.iload_n 3, 1) := db3_35.2.2.2.2.2.2.2.2.2.2.2.1
theorem dX3_lowest_18 : decode cX3_lowest 18 = .ok (.invokevirtual 163, 3) := db3_35.2.2.2.2.2.2.2.2.2.2.2.2.1
theorem dX3_lowest_21 : decode cX3_lowest 21 = .ok (.iload_n 3, 1) := db3_35.2.2.2.2.2.2.2.2.2.2.2.2.2.1
theorem dX3_lowest_22 : decode cX3_lowest 22 = .ok (.invokevirtual 167, 3) := db3_35.2.2.2.2.2.2.2.2.2.2.2.2.2.2.1
theorem dX3_lowest_25 : decode cX3_lowest 25 = .ok (.checkcast 151, 3) := db3_35.2.2.2.2.2.2.2.2.2.2.2.2.2.2.2
theorem db3_36 : (decode cX3_lowest 28 = .ok (.invokevirtual 171, 3)) ∧ (decode cX3_lowest 31 = .ok (.ireturn, 1)) := by decide +kernel
theorem dX3_lowest_28 : decode cX3_lowest 28 = .ok (.invokevirtual 171, 3) := db3_36.1
theorem dX3_lowest_31 : decode cX3_lowest 31 = .ok (.ireturn, 1) := db3_36.2
theorem db3_37 : (decode cX3_met 0 = .ok (.aload_n 0, 1)) ∧ (decode cX3_met 1 = .ok (.iload_n 1, 1)) ∧ (decode cX3_met 2 = .ok (.iload_n 2, 1)) ∧ (decode cX3_met 3 = .ok (.iload_n 3, 1)) ∧ (decode cX3_met 4 = .ok (.invokevirtual 160, 3)) ∧ (decode cX3_met 7 = .ok (.ifCond .eq 6, 3)) ∧ (decode cX3_met 10 = .ok (.ldc 175, 2)) ∧ (decode cX3_met 12 = .ok (.areturn, 1)) ∧ (decode cX3_met 13 = .ok (.ldc 175, 2)) ∧ (decode cX3_met 15 = .ok (.astore 4, 2)) ∧ (decode cX3_met 17 = .ok (.iconst (-1), 1)) ∧ (decode cX3_met 18 = .ok (.istore 5, 2)) ∧ (decode cX3_met 20 = .ok (.aload_n 0, 1)) ∧ (decode cX3_met 21 = .ok (.iload_n 1, 1)) ∧ (decode cX3_met 22 = .ok (.iload_n 2, 1)) ∧ (decode cX3_met 23 = .ok (.iload_n 3, 1)) := by decide +kernel
theorem dX3_met_0 : decode cX3_met 0 = .ok (.aload_n 0, 1) := db3_37.1
theorem dX3_met_1 : decode cX3_met 1 = .ok (.iload_n 1, 1) := db3_37.2.1
theorem dX3_met_2 : decode cX3_met 2 = .ok (.iload_n 2, 1) := db3_37.2.2.1
theorem dX3_met_3 : decode cX3_met 3 = .ok (.iload_n 3, 1) := db3_37.2.2.2.1
theorem dX3_met_4 : decode cX3_met 4 = .ok (.invokevirtual 160, 3) := db3_37.2.2.2.2.1
theorem dX3_met_7 : decode cX3_met 7 = .ok (.ifCond .eq 6, 3) := db3_37.2.2.2.2.2.1
theorem dX3_met_10 : decode cX3_met 10 = .ok (.ldc 175, 2) := db3_37.2.2.2.2.2.2.1
theorem dX3_met_12 : decode cX3_met 12 = .ok (.areturn, 1) := db3_37.2.2.2.2.2.2.2.1
theorem dX3_met_13 : decode cX3_met 13 = .ok (.ldc 175, 2) := db3_37.2.2.2.2.2.2.2.2.1
theorem dX3_met_15 : decode cX3_met 15 = .ok (.astore 4, 2) := db3_37.2.2.2.2.2.2.2.2.2.1
theorem dX3_met_17 : decode cX3_met 17 = .ok (.iconst (-1), 1) := db3_37.2.2.2.2.2.2.2.2.2.2.1
theorem dX3_met_18 : decode cX3_met 18 = .ok (.istore 5, 2) := db3_37.2.2.2.2.2.2.2.2.2.2.2.1
theorem dX3_met_20 : decode cX3_met 20 = .ok (.aload_n 0, 1) := db3_37.2.2.2.2.2.2.2.2.2.2.2.2.1
theorem dX3_met_21 : decode cX3_met 21 = .ok (.iload_n 1, 1) := db3_37.2.2.2.2.2.2.2.2.2.2.2.2.2.1
theorem dX3_met_22 : decode cX3_met 22 = .ok (.iload_n 2, 1) := db3_37.2.2.2.2.2.2.2.2.2.2.2.2.2.2.1
theorem dX3_met_23 : decode cX3_met 23 = .ok (.iload_n 3, 1) := db3_37.2.2.2.2.2.2.2.2.2.2.2.2.2.2.2
theorem db3_38 : (decode cX3_met 24 = .ok (.invokevirtual 163, 3)) ∧ (decode cX3_met 27 = .ok (.invokevirtual 177, 3)) ∧ (decode cX3_met 30 = .ok (.astore 6, 2)) ∧ (decode cX3_met 32 = .ok (.aload 6, 2)) ∧ (decode cX3_met 34 = .ok (.invokeinterface 181 1, 5)) ∧ (decode cX3_met 39 = .ok (.ifCond .eq 72, 3)) ∧ (decode cX3_met 42 = .ok (.aload 6, 2)) ∧ (decode cX3_met 44 = .ok (.invokeinterface 187 1, 5)) ∧ (decode cX3_met 49 = .ok (.checkcast 151, 3)) ∧ (decode cX3_met 52 = .ok (.invokevirtual 171, 3)) ∧ (decode cX3_met 55 = .ok (.istore 7, 2)) ∧ (decode cX3_met 57 = .ok (.iload 7, 2)) ∧ (decode cX3_met 59 = .ok (.iload 5, 2)) ∧ (decode cX3_met 61 = .ok (.if_icmp .eq 43, 3)) ∧ (decode cX3_met 64 = .ok (.new 191, 3)) ∧ (decode cX3_met 67 = .ok (.dup, 1)) := by decide +kernel
theorem dX3_met_24 : decode cX3_met 24 = .ok (.invokevirtual 163, 3) := db3_38.1
theorem dX3_met_27 : decode cX3_met 27 = .ok (.invokevirtual 177, 3) := db3_38.2.1
theorem dX3_met_30 : decode cX3_met 30 = .ok (.astore 6, 2) := db3_38.2.2.1
theorem dX3_met_32 : decode cX3_met 32 = .ok (.aload 6, 2) := db3_38.2.2.2.1
theorem dX3_met_34 : decode cX3_met 34 = .ok (.invokeinterface 181 1, 5) := db3_38.2.2.2.2.1
theorem dX3_met_39 : decode cX3_met 39 = .ok (.ifCond .eq 72, 3) := db3_38.2.2.2.2.2.1
theorem dX3_met_42 : decode cX3_met 42 = .ok (.aload 6, 2) := db3_38.2.2.2.2.2.2.1
theorem dX3_met_44 : decode cX3_met 44 = .ok (.invokeinterface 187 1, 5) := db3_38.2.2.2.2.2.2.2.1
theorem dX3_met_49 : decode cX3_met 49 = .ok (.checkcast 151, 3) := db3_38.2.2.2.2.2.2.2.2.1
theorem dX3_met_52 : decode cX3_met 52 = .ok (.invokevirtual 171, 3) := db3_38.2.2.2.2.2.2.2.2.2.1
theorem dX3_met_55 : decode cX3_met 55 = .ok (.istore 7, 2) := db3_38.2.2.2.2.2.2.2.2.2.2.1
theorem dX3_met_57 : decode cX3_met 57 = .ok (.iload 7, 2) := db3_38.2.2.2.2.2.2.2.2.2.2.2.1
theorem dX3_met_59 : decode cX3_met 59 = .ok (.iload 5, 2) := db3_38.2.2.2.2.2.2.2.2.2.2.2.2.1
theorem dX3_met_61 : decode cX3_met 61 = .ok (.if_icmp .eq 43, 3) := db3_38.2.2.2.2.2.2.2.2.2.2.2.2.2.1
theorem dX3_met_64 : decode cX3_met 64 = .ok (.new 191, 3) := db3_38.2.2.2.2.2.2.2.2.2.2.2.2.2.2.1
theorem dX3_met_67 : decode cX3_met 67 = .ok (.dup, 1) := db3_38.2.2.2.2.2.2.2.2.2.2.2.2.2.2.2
theorem db3_39 : (decode cX3_met 68 = .ok (.invokespecial 193, 3)) ∧ (decode cX3_met 71 = .ok (.aload 4, 2)) ∧ (decode cX3_met 73 = .ok (.invokevirtual 194, 3)) ∧ (decode cX3_met 76 = .ok (.aload 4, 2)) ∧ (decode cX3_met 78 = .ok (.invokevirtual 198, 3)) ∧ (decode cX3_met 81 = .ok (.ifCond .eq 8, 3)) ∧ (decode cX3_met 84 = .ok (.ldc 175, 2)) ∧ (decode cX3_met 86 = .ok (.goto 5, 3)) ∧ (decode cX3_met 89 = .ok (.ldc 203, 2)) ∧ (decode cX3_met 91 = .ok (.invokevirtual 194, 3)) ∧ (decode cX3_met 94 = .ok (.iload 7, 2)) ∧ (decode cX3_met 96 = .ok (.invokevirtual 205, 3)) ∧ (decode cX3_met 99 = .ok (.invokevirtual 208, 3)) ∧ (decode cX3_met 102 = .ok (.astore 4, 2)) ∧ (decode cX3_met 104 = .ok (.iload 7, 2)) ∧ (decode cX3_met 106 = .ok (.istore 5, 2)) := by decide +kernel
theorem dX3_met_68 : decode cX3_met 68 = .ok (.invokespecial 193, 3) := db3_39.1
theorem dX3_met_71 : decode cX3_met 71 = .ok (.aload 4, 2) := db3_39.2.1
theorem dX3_met_73 : decode cX3_met 73 = .ok (.invokevirtual 194, 3) := db3_39.2.2.1
theorem dX3_met_76 : decode cX3_met 76 = .ok (.aload 4, 2) := db3_39.2.2.2.1
theorem dX3_met_78 : decode cX3_met 78 = .ok (.invokevirtual 198, 3) := db3_39.2.2.2.2.1
theorem dX3_met_81 : decode cX3_met 81 = .ok (.ifCond .eq 8, 3) := db3_39.2.2.2.2.2.1
theorem dX3_met_84 : decode cX3_met 84 = .ok (.ldc 175, 2) := db3_39.2.2.2.2.2.2.1
theorem dX3_met_86 : decode cX3_met 86 = .ok (.goto 5, 3) := db3_39.2.2.2.2.2.2.2.1
theorem dX3_met_89 : decode cX3_met 89 = .ok (.ldc 203, 2) := db3_39.2.2.2.2.2.2.2.2.1
theorem dX3_met_91 : decode cX3_met 91 = .ok (.invokevirtual 194, 3) := db3_39.2.2.2.2.2.2.2.2.2.1
theorem dX3_met_94 : decode cX3_met 94 = .ok (.iload 7, 2) := db3_39.2.2.2.2.2.2.2.2.2.2.1
theorem dX3_met_96 : decode cX3_met 96 = .ok (.invokevirtual 205, 3) := db3_39.2.2.2.2.2.2.2.2.2.2.2.1
theorem dX3_met_99 : decode cX3_met 99 = .ok (.invokevirtual 208, 3) := db3_39.2.2.2.2.2.2.2.2.2.2.2.2.1
theorem dX3_met_102 : decode cX3_met 102 = .ok (.astore 4, 2) := db3_39.2.2.2.2.2.2.2.2.2.2.2.2.2.1
theorem dX3_met_104 : decode cX3_met 104 = .ok (.iload 7, 2) := db3_39.2.2.2.2.2.2.2.2.2.2.2.2.2.2.1
theorem dX3_met_106 : decode cX3_met 106 = .ok (.istore 5, 2) := db3_39.2.2.2.2.2.2.2.2.2.2.2.2.2.2.2
theorem db3_40 : (decode cX3_met 108 = .ok (.goto (-76), 3)) ∧ (decode cX3_met 111 = .ok (.aload 4, 2)) ∧ (decode cX3_met 113 = .ok (.areturn, 1)) := by decide +kernel
theorem dX3_met_108 : decode cX3_met 108 = .ok (.goto (-76), 3) := db3_40.1
theorem dX3_met_111 : decode cX3_met 111 = .ok (.aload 4, 2) := db3_40.2.1
theorem dX3_met_113 : decode cX3_met 113 = .ok (.areturn, 1) := db3_40.2.2
theorem db3_41 : (decode cX3_keeps 0 = .ok (.aload_n 0, 1)) ∧ (decode cX3_keeps 1 = .ok (.iload_n 1, 1)) ∧ (decode cX3_keeps 2 = .ok (.iload_n 2, 1)) ∧ (decode cX3_keeps 3 = .ok (.iconst 0, 1)) ∧ (decode cX3_keeps 4 = .ok (.invokevirtual 160, 3)) ∧ (decode cX3_keeps 7 = .ok (.ifCond .eq 5, 3)) ∧ (decode cX3_keeps 10 = .ok (.iconst 0, 1)) ∧ (decode cX3_keeps 11 = .ok (.ireturn, 1)) ∧ (decode cX3_keeps 12 = .ok (.aload_n 0, 1)) ∧ (decode cX3_keeps 13 = .ok (.iload_n 1, 1)) ∧ (decode cX3_keeps 14 = .ok (.iload_n 2, 1)) ∧ (decode cX3_keeps 15 = .ok (.bipush 48, 2)) ∧ (decode cX3_keeps 17 = .ok (.invokevirtual 163, 3)) ∧ (decode cX3_keeps 20 = .ok (.astore_n 3, 1)) ∧ (decode cX3_keeps 21 = .ok (.iconst 1, 1)) ∧ (decode cX3_keeps 22 = .ok (.istore 4, 2)) := by decide +kernel
theorem dX3_keeps_0 : decode cX3_keeps 0 = .ok (.aload_n 0, 1) := db3_41.1
theorem dX3_keeps_1 : decode cX3_keeps 1 = .ok (.iload_n 1, 1) := db3_41.2.1
theorem dX3_keeps_2 : decode cX3_keeps 2 = .ok (.iload_n 2, 1) := db3_41.2.2.1
theorem dX3_keeps_3 : decode cX3_keeps 3 = .ok (.iconst 0, 1) := db3_41.2.2.2.1
theorem dX3_keeps_4 : decode cX3_keeps 4 = .ok (.invokevirtual 160, 3) := db3_41.2.2.2.2.1
theorem dX3_keeps_7 : decode cX3_keeps 7 = .ok (.ifCond .eq 5, 3) := db3_41.2.2.2.2.2.1
theorem dX3_keeps_10 : decode cX3_keeps 10 = .ok (.iconst 0, 1) := db3_41.2.2.2.2.2.2.1
theorem dX3_keeps_11 : decode cX3_keeps 11 = .ok (.ireturn, 1) := db3_41.2.2.2.2.2.2.2.1
theorem dX3_keeps_12 : decode cX3_keeps 12 = .ok (.aload_n 0, 1) := db3_41.2.2.2.2.2.2.2.2.1
theorem dX3_keeps_13 : decode cX3_keeps 13 = .ok (.iload_n 1, 1) := db3_41.2.2.2.2.2.2.2.2.2.1
theorem dX3_keeps_14 : decode cX3_keeps 14 = .ok (.iload_n 2, 1) := db3_41.2.2.2.2.2.2.2.2.2.2.1
theorem dX3_keeps_15 : decode cX3_keeps 15 = .ok (.bipush 48, 2) := db3_41.2.2.2.2.2.2.2.2.2.2.2.1
theorem dX3_keeps_17 : decode cX3_keeps 17 = .ok (.invokevirtual 163, 3) := db3_41.2.2.2.2.2.2.2.2.2.2.2.2.1
theorem dX3_keeps_20 : decode cX3_keeps 20 = .ok (.astore_n 3, 1) := db3_41.2.2.2.2.2.2.2.2.2.2.2.2.2.1
theorem dX3_keeps_21 : decode cX3_keeps 21 = .ok (.iconst 1, 1) := db3_41.2.2.2.2.2.2.2.2.2.2.2.2.2.2.1
theorem dX3_keeps_22 : decode cX3_keeps 22 = .ok (.istore 4, 2) := db3_41.2.2.2.2.2.2.2.2.2.2.2.2.2.2.2
theorem db3_42 : (decode cX3_keeps 24 = .ok (.iload 4, 2)) ∧ (decode cX3_keeps 26 = .ok (.bipush 48, 2)) ∧ (decode cX3_keeps 28 = .ok (.if_icmp .gt 41, 3)) ∧ (decode cX3_keeps 31 = .ok (.aload_n 3, 1)) ∧ (decode cX3_keeps 32 = .ok (.iload 4, 2)) ∧ (decode cX3_keeps 34 = .ok (.invokevirtual 167, 3)) ∧ (decode cX3_keeps 37 = .ok (.checkcast 151, 3)) ∧ (decode cX3_keeps 40 = .ok (.invokevirtual 171, 3)) ∧ (decode cX3_keeps 43 = .ok (.aload_n 3, 1)) ∧ (decode cX3_keeps 44 = .ok (.iload 4, 2)) ∧ (decode cX3_keeps 46 = .ok (.iconst 1, 1)) ∧ (decode cX3_keeps 47 = .ok (.isub, 1)) ∧ (decode cX3_keeps 48 = .ok (.invokevirtual 167, 3)) ∧ (decode cX3_keeps 51 = .ok (.checkcast 151, 3)) ∧ (decode cX3_keeps 54 = .ok (.invokevirtual 171, 3)) ∧ (decode cX3_keeps 57 = .ok (.if_icmp .ge 6, 3)) := by decide +kernel
theorem dX3_keeps_24 : decode cX3_keeps 24 = .ok (.iload 4, 2) := db3_42.1
theorem dX3_keeps_26 : decode cX3_keeps 26 = .ok (.bipush 48, 2) := db3_42.2.1
theorem dX3_keeps_28 : decode cX3_keeps 28 = .ok (.if_icmp .gt 41, 3) := db3_42.2.2.1
theorem dX3_keeps_31 : decode cX3_keeps 31 = .ok (.aload_n 3, 1) := db3_42.2.2.2.1
theorem dX3_keeps_32 : decode cX3_keeps 32 = .ok (.iload 4, 2) := db3_42.2.2.2.2.1
theorem dX3_keeps_34 : decode cX3_keeps 34 = .ok (.invokevirtual 167, 3) := db3_42.2.2.2.2.2.1
theorem dX3_keeps_37 : decode cX3_keeps 37 = .ok (.checkcast 151, 3) := db3_42.2.2.2.2.2.2.1
theorem dX3_keeps_40 : decode cX3_keeps 40 = .ok (.invokevirtual 171, 3) := db3_42.2.2.2.2.2.2.2.1
theorem dX3_keeps_43 : decode cX3_keeps 43 = .ok (.aload_n 3, 1) := db3_42.2.2.2.2.2.2.2.2.1
theorem dX3_keeps_44 : decode cX3_keeps 44 = .ok (.iload 4, 2) := db3_42.2.2.2.2.2.2.2.2.2.1
theorem dX3_keeps_46 : decode cX3_keeps 46 = .ok (.iconst 1, 1) := db3_42.2.2.2.2.2.2.2.2.2.2.1
theorem dX3_keeps_47 : decode cX3_keeps 47 = .ok (.isub, 1) := db3_42.2.2.2.2.2.2.2.2.2.2.2.1
theorem dX3_keeps_48 : decode cX3_keeps 48 = .ok (.invokevirtual 167, 3) := db3_42.2.2.2.2.2.2.2.2.2.2.2.2.1
theorem dX3_keeps_51 : decode cX3_keeps 51 = .ok (.checkcast 151, 3) := db3_42.2.2.2.2.2.2.2.2.2.2.2.2.2.1
theorem dX3_keeps_54 : decode cX3_keeps 54 = .ok (.invokevirtual 171, 3) := db3_42.2.2.2.2.2.2.2.2.2.2.2.2.2.2.1
theorem dX3_keeps_57 : decode cX3_keeps 57 = .ok (.if_icmp .ge 6, 3) := db3_42.2.2.2.2.2.2.2.2.2.2.2.2.2.2.2
theorem db3_43 : (decode cX3_keeps 60 = .ok (.iload 4, 2)) ∧ (decode cX3_keeps 62 = .ok (.ireturn, 1)) ∧ (decode cX3_keeps 63 = .ok (.iinc 4 1, 3)) ∧ (decode cX3_keeps 66 = .ok (.goto (-42), 3)) ∧ (decode cX3_keeps 69 = .ok (.iconst (-1), 1)) ∧ (decode cX3_keeps 70 = .ok (.ireturn, 1)) := by decide +kernel
theorem dX3_keeps_60 : decode cX3_keeps 60 = .ok (.iload 4, 2) := db3_43.1
theorem dX3_keeps_62 : decode cX3_keeps 62 = .ok (.ireturn, 1) := db3_43.2.1
theorem dX3_keeps_63 : decode cX3_keeps 63 = .ok (.iinc 4 1, 3) := db3_43.2.2.1
theorem dX3_keeps_66 : decode cX3_keeps 66 = .ok (.goto (-42), 3) := db3_43.2.2.2.1
theorem dX3_keeps_69 : decode cX3_keeps 69 = .ok (.iconst (-1), 1) := db3_43.2.2.2.2.1
theorem dX3_keeps_70 : decode cX3_keeps 70 = .ok (.ireturn, 1) := db3_43.2.2.2.2.2
theorem db3_44 : (decode cX3_month 0 = .ok (.aload_n 0, 1)) ∧ (decode cX3_month 1 = .ok (.iload_n 1, 1)) ∧ (decode cX3_month 2 = .ok (.invokestatic 31, 3)) ∧ (decode cX3_month 5 = .ok (.iconst 0, 1)) ∧ (decode cX3_month 6 = .ok (.iconst 0, 1)) ∧ (decode cX3_month 7 = .ok (.invokevirtual 77, 3)) ∧ (decode cX3_month 10 = .ok (.ifCond .eq 7, 3)) ∧ (decode cX3_month 13 = .ok (.iconst 0, 1)) ∧ (decode cX3_month 14 = .ok (.goto 11, 3)) ∧ (decode cX3_month 17 = .ok (.aload_n 0, 1)) ∧ (decode cX3_month 18 = .ok (.getfield 11, 3)) ∧ (decode cX3_month 21 = .ok (.iload_n 1, 1)) ∧ (decode cX3_month 22 = .ok (.aaload, 1)) ∧ (decode cX3_month 23 = .ok (.iconst 0, 1)) ∧ (decode cX3_month 24 = .ok (.iaload, 1)) ∧ (decode cX3_month 25 = .ok (.ireturn, 1)) := by decide +kernel
theorem dX3_month_0 : decode cX3_month 0 = .ok (.aload_n 0, 1) := db3_44.1
theorem dX3_month_1 : decode cX3_month 1 = .ok (.iload_n 1, 1) := db3_44.2.1
theorem dX3_month_2 : decode cX3_month 2 = .ok (.invokestatic 31, 3) := db3_44.2.2.1
theorem dX3_month_5 : decode cX3_month 5 = .ok (.iconst 0, 1) := db3_44.2.2.2.1
theorem dX3_month_6 : decode cX3_month 6 = .ok (.iconst 0, 1) := db3_44.2.2.2.2.1
theorem dX3_month_7 : decode cX3_month 7 = .ok (.invokevirtual 77, 3) := db3_44.2.2.2.2.2.1
theorem dX3_month_10 : decode cX3_month 10 = .ok (.ifCond .eq 7, 3) := db3_44.2.2.2.2.2.2.1
theorem dX3_month_13 : decode cX3_month 13 = .ok (.iconst 0, 1) := db3_44.2.2.2.2.2.2.2.1
theorem dX3_month_14 : decode cX3_month 14 = .ok (.goto 11, 3) := db3_44.2.2.2.2.2.2.2.2.1
theorem dX3_month_17 : decode cX3_month 17 = .ok (.aload_n 0, 1) := db3_44.2.2.2.2.2.2.2.2.2.1
theorem dX3_month_18 : decode cX3_month 18 = .ok (.getfield 11, 3) := db3_44.2.2.2.2.2.2.2.2.2.2.1
theorem dX3_month_21 : decode cX3_month 21 = .ok (.iload_n 1, 1) := db3_44.2.2.2.2.2.2.2.2.2.2.2.1
theorem dX3_month_22 : decode cX3_month 22 = .ok (.aaload, 1) := db3_44.2.2.2.2.2.2.2.2.2.2.2.2.1
theorem dX3_month_23 : decode cX3_month 23 = .ok (.iconst 0, 1) := db3_44.2.2.2.2.2.2.2.2.2.2.2.2.2.1
theorem dX3_month_24 : decode cX3_month 24 = .ok (.iaload, 1) := db3_44.2.2.2.2.2.2.2.2.2.2.2.2.2.2.1
theorem dX3_month_25 : decode cX3_month 25 = .ok (.ireturn, 1) := db3_44.2.2.2.2.2.2.2.2.2.2.2.2.2.2.2
theorem db3_45 : (decode cX3_isNoMonth 0 = .ok (.iload_n 0, 1)) ∧ (decode cX3_isNoMonth 1 = .ok (.ldc 91, 2)) ∧ (decode cX3_isNoMonth 3 = .ok (.ldc 92, 2)) ∧ (decode cX3_isNoMonth 5 = .ok (.invokestatic 27, 3)) ∧ (decode cX3_isNoMonth 8 = .ok (.ireturn, 1)) := by decide +kernel
theorem dX3_isNoMonth_0 : decode cX3_isNoMonth 0 = .ok (.iload_n 0, 1) := db3_45.1
theorem dX3_isNoMonth_1 : decode cX3_isNoMonth 1 = .ok (.ldc 91, 2) := db3_45.2.1
theorem dX3_isNoMonth_3 : decode cX3_isNoMonth 3 = .ok (.ldc 92, 2) := db3_45.2.2.1
theorem dX3_isNoMonth_5 : decode cX3_isNoMonth 5 = .ok (.invokestatic 27, 3) := db3_45.2.2.2.1
theorem dX3_isNoMonth_8 : decode cX3_isNoMonth 8 = .ok (.ireturn, 1) := db3_45.2.2.2.2
theorem db3_46 : (decode cX3_ofMonthNumber 0 = .ok (.aload_n 0, 1)) ∧ (decode cX3_ofMonthNumber 1 = .ok (.iload_n 1, 1)) ∧ (decode cX3_ofMonthNumber 2 = .ok (.invokestatic 212, 3)) ∧ (decode cX3_ofMonthNumber 5 = .ok (.ifCond .ne 12, 3)) ∧ (decode cX3_ofMonthNumber 8 = .ok (.iload_n 2, 1)) ∧ (decode cX3_ofMonthNumber 9 = .ok (.iconst 0, 1)) ∧ (decode cX3_ofMonthNumber 10 = .ok (.iconst 3, 1)) ∧ (decode cX3_ofMonthNumber 11 = .ok (.invokestatic 27, 3)) ∧ (decode cX3_ofMonthNumber 14 = .ok (.ifCond .eq 7, 3)) ∧ (decode cX3_ofMonthNumber 17 = .ok (.iconst 1, 1)) ∧ (decode cX3_ofMonthNumber 18 = .ok (.goto 4, 3)) ∧ (decode cX3_ofMonthNumber 21 = .ok (.iconst 0, 1)) ∧ (decode cX3_ofMonthNumber 22 = .ok (.iconst 0, 1)) ∧ (decode cX3_ofMonthNumber 23 = .ok (.iconst 0, 1)) ∧ (decode cX3_ofMonthNumber 24 = .ok (.invokevirtual 77, 3)) ∧ (decode cX3_ofMonthNumber 27 = .ok (.ifCond .eq 5, 3)) := by decide +kernel
theorem dX3_ofMonthNumber_0 : decode cX3_ofMonthNumber 0 = .ok (.aload_n 0, 1) := db3_46.1
theorem dX3_ofMonthNumber_1 : decode cX3_ofMonthNumber 1 = .ok (.iload_n 1, 1) := db3_46.2.1
theorem dX3_ofMonthNumber_2 : decode cX3_ofMonthNumber 2 = .ok (.invokestatic 212, 3) := db3_46.2.2.1
theorem dX3_ofMonthNumber_5 : decode cX3_ofMonthNumber 5 = .ok (.ifCond .ne 12, 3) := db3_46.2.2.2.1
theorem dX3_ofMonthNumber_8 : decode cX3_ofMonthNumber 8 = .ok (.iload_n 2, 1) := db3_46.2.2.2.2.1
theorem dX3_ofMonthNumber_9 : decode cX3_ofMonthNumber 9 = .ok (.iconst 0, 1) := db3_46.2.2.2.2.2.1
theorem dX3_ofMonthNumber_10 : decode cX3_ofMonthNumber 10 = .ok (.iconst 3, 1) := db3_46.2.2.2.2.2.2.1
theorem dX3_ofMonthNumber_11 : decode cX3_ofMonthNumber 11 = .ok (.invokestatic 27, 3) := db3_46.2.2.2.2.2.2.2.1
theorem dX3_ofMonthNumber_14 : decode cX3_ofMonthNumber 14 = .ok (.ifCond .eq 7, 3) := db3_46.2.2.2.2.2.2.2.2.1
theorem dX3_ofMonthNumber_17 : decode cX3_ofMonthNumber 17 = .ok (.iconst 1, 1) := db3_46.2.2.2.2.2.2.2.2.2.1
theorem dX3_ofMonthNumber_18 : decode cX3_ofMonthNumber 18 = .ok (.goto 4, 3) := db3_46.2.2.2.2.2.2.2.2.2.2.1
theorem dX3_ofMonthNumber_21 : decode cX3_ofMonthNumber 21 = .ok (.iconst 0, 1) := db3_46.2.2.2.2.2.2.2.2.2.2.2.1
theorem dX3_ofMonthNumber_22 : decode cX3_ofMonthNumber 22 = .ok (.iconst 0, 1) := db3_46.2.2.2.2.2.2.2.2.2.2.2.2.1
theorem dX3_ofMonthNumber_23 : decode cX3_ofMonthNumber 23 = .ok (.iconst 0, 1) := db3_46.2.2.2.2.2.2.2.2.2.2.2.2.2.1
theorem dX3_ofMonthNumber_24 : decode cX3_ofMonthNumber 24 = .ok (.invokevirtual 77, 3) := db3_46.2.2.2.2.2.2.2.2.2.2.2.2.2.2.1
theorem dX3_ofMonthNumber_27 : decode cX3_ofMonthNumber 27 = .ok (.ifCond .eq 5, 3) := db3_46.2.2.2.2.2.2.2.2.2.2.2.2.2.2.2
theorem db3_47 : (decode cX3_ofMonthNumber 30 = .ok (.iconst 0, 1)) ∧ (decode cX3_ofMonthNumber 31 = .ok (.ireturn, 1)) ∧ (decode cX3_ofMonthNumber 32 = .ok (.iconst 4, 1)) ∧ (decode cX3_ofMonthNumber 33 = .ok (.newarray .int, 2)) ∧ (decode cX3_ofMonthNumber 35 = .ok (.dup, 1)) ∧ (decode cX3_ofMonthNumber 36 = .ok (.iconst 0, 1)) ∧ (decode cX3_ofMonthNumber 37 = .ok (.iload_n 1, 1)) ∧ (decode cX3_ofMonthNumber 38 = .ok (.bipush 12, 2)) ∧ (decode cX3_ofMonthNumber 40 = .ok (.invokestatic 35, 3)) ∧ (decode cX3_ofMonthNumber 43 = .ok (.iastore, 1)) ∧ (decode cX3_ofMonthNumber 44 = .ok (.dup, 1)) ∧ (decode cX3_ofMonthNumber 45 = .ok (.iconst 1, 1)) ∧ (decode cX3_ofMonthNumber 46 = .ok (.iconst 1, 1)) ∧ (decode cX3_ofMonthNumber 47 = .ok (.iload_n 1, 1)) ∧ (decode cX3_ofMonthNumber 48 = .ok (.bipush 12, 2)) ∧ (decode cX3_ofMonthNumber 50 = .ok (.invokestatic 39, 3)) := by decide +kernel
theorem dX3_ofMonthNumber_30 : decode cX3_ofMonthNumber 30 = .ok (.iconst 0, 1) := db3_47.1
theorem dX3_ofMonthNumber_31 : decode cX3_ofMonthNumber 31 = .ok (.ireturn, 1) := db3_47.2.1
theorem dX3_ofMonthNumber_32 : decode cX3_ofMonthNumber 32 = .ok (.iconst 4, 1) := db3_47.2.2.1
theorem dX3_ofMonthNumber_33 : decode cX3_ofMonthNumber 33 = .ok (.newarray .int, 2) := db3_47.2.2.2.1
theorem dX3_ofMonthNumber_35 : decode cX3_ofMonthNumber 35 = .ok (.dup, 1) := db3_47.2.2.2.2.1
theorem dX3_ofMonthNumber_36 : decode cX3_ofMonthNumber 36 = .ok (.iconst 0, 1) := db3_47.2.2.2.2.2.1
theorem dX3_ofMonthNumber_37 : decode cX3_ofMonthNumber 37 = .ok (.iload_n 1, 1) := db3_47.2.2.2.2.2.2.1
theorem dX3_ofMonthNumber_38 : decode cX3_ofMonthNumber 38 = .ok (.bipush 12, 2) := db3_47.2.2.2.2.2.2.2.1
theorem dX3_ofMonthNumber_40 : decode cX3_ofMonthNumber 40 = .ok (.invokestatic 35, 3) := db3_47.2.2.2.2.2.2.2.2.1
theorem dX3_ofMonthNumber_43 : decode cX3_ofMonthNumber 43 = .ok (.iastore, 1) := db3_47.2.2.2.2.2.2.2.2.2.1
theorem dX3_ofMonthNumber_44 : decode cX3_ofMonthNumber 44 = .ok (.dup, 1) := db3_47.2.2.2.2.2.2.2.2.2.2.1
theorem dX3_ofMonthNumber_45 : decode cX3_ofMonthNumber 45 = .ok (.iconst 1, 1) := db3_47.2.2.2.2.2.2.2.2.2.2.2.1
theorem dX3_ofMonthNumber_46 : decode cX3_ofMonthNumber 46 = .ok (.iconst 1, 1) := db3_47.2.2.2.2.2.2.2.2.2.2.2.2.1
theorem dX3_ofMonthNumber_47 : decode cX3_ofMonthNumber 47 = .ok (.iload_n 1, 1) := db3_47.2.2.2.2.2.2.2.2.2.2.2.2.2.1
theorem dX3_ofMonthNumber_48 : decode cX3_ofMonthNumber 48 = .ok (.bipush 12, 2) := db3_47.2.2.2.2.2.2.2.2.2.2.2.2.2.2.1
theorem dX3_ofMonthNumber_50 : decode cX3_ofMonthNumber 50 = .ok (.invokestatic 39, 3) := db3_47.2.2.2.2.2.2.2.2.2.2.2.2.2.2.2
theorem db3_48 : (decode cX3_ofMonthNumber 53 = .ok (.iadd, 1)) ∧ (decode cX3_ofMonthNumber 54 = .ok (.iastore, 1)) ∧ (decode cX3_ofMonthNumber 55 = .ok (.dup, 1)) ∧ (decode cX3_ofMonthNumber 56 = .ok (.iconst 2, 1)) ∧ (decode cX3_ofMonthNumber 57 = .ok (.iload_n 1, 1)) ∧ (decode cX3_ofMonthNumber 58 = .ok (.invokestatic 54, 3)) ∧ (decode cX3_ofMonthNumber 61 = .ok (.iastore, 1)) ∧ (decode cX3_ofMonthNumber 62 = .ok (.dup, 1)) ∧ (decode cX3_ofMonthNumber 63 = .ok (.iconst 3, 1)) ∧ (decode cX3_ofMonthNumber 64 = .ok (.iload_n 1, 1)) ∧ (decode cX3_ofMonthNumber 65 = .ok (.invokestatic 57, 3)) ∧ (decode cX3_ofMonthNumber 68 = .ok (.iastore, 1)) ∧ (decode cX3_ofMonthNumber 69 = .ok (.astore_n 3, 1)) ∧ (decode cX3_ofMonthNumber 70 = .ok (.aload_n 3, 1)) ∧ (decode cX3_ofMonthNumber 71 = .ok (.iload_n 2, 1)) ∧ (decode cX3_ofMonthNumber 72 = .ok (.iaload, 1)) := by decide +kernel
theorem dX3_ofMonthNumber_53 : decode cX3_ofMonthNumber 53 = .ok (.iadd, 1) := db3_48.1
theorem dX3_ofMonthNumber_54 : decode cX3_ofMonthNumber 54 = .ok (.iastore, 1) := db3_48.2.1
theorem dX3_ofMonthNumber_55 : decode cX3_ofMonthNumber 55 = .ok (.dup, 1) := db3_48.2.2.1
theorem dX3_ofMonthNumber_56 : decode cX3_ofMonthNumber 56 = .ok (.iconst 2, 1) := db3_48.2.2.2.1
theorem dX3_ofMonthNumber_57 : decode cX3_ofMonthNumber 57 = .ok (.iload_n 1, 1) := db3_48.2.2.2.2.1
theorem dX3_ofMonthNumber_58 : decode cX3_ofMonthNumber 58 = .ok (.invokestatic 54, 3) := db3_48.2.2.2.2.2.1
theorem dX3_ofMonthNumber_61 : decode cX3_ofMonthNumber 61 = .ok (.iastore, 1) := db3_48.2.2.2.2.2.2.1
theorem dX3_ofMonthNumber_62 : decode cX3_ofMonthNumber 62 = .ok (.dup, 1) := db3_48.2.2.2.2.2.2.2.1
theorem dX3_ofMonthNumber_63 : decode cX3_ofMonthNumber 63 = .ok (.iconst 3, 1) := db3_48.2.2.2.2.2.2.2.2.1
theorem dX3_ofMonthNumber_64 : decode cX3_ofMonthNumber 64 = .ok (.iload_n 1, 1) := db3_48.2.2.2.2.2.2.2.2.2.1
theorem dX3_ofMonthNumber_65 : decode cX3_ofMonthNumber 65 = .ok (.invokestatic 57, 3) := db3_48.2.2.2.2.2.2.2.2.2.2.1
theorem dX3_ofMonthNumber_68 : decode cX3_ofMonthNumber 68 = .ok (.iastore, 1) := db3_48.2.2.2.2.2.2.2.2.2.2.2.1
theorem dX3_ofMonthNumber_69 : decode cX3_ofMonthNumber 69 = .ok (.astore_n 3, 1) := db3_48.2.2.2.2.2.2.2.2.2.2.2.2.1
theorem dX3_ofMonthNumber_70 : decode cX3_ofMonthNumber 70 = .ok (.aload_n 3, 1) := db3_48.2.2.2.2.2.2.2.2.2.2.2.2.2.1
theorem dX3_ofMonthNumber_71 : decode cX3_ofMonthNumber 71 = .ok (.iload_n 2, 1) := db3_48.2.2.2.2.2.2.2.2.2.2.2.2.2.2.1
theorem dX3_ofMonthNumber_72 : decode cX3_ofMonthNumber 72 = .ok (.iaload, 1) := db3_48.2.2.2.2.2.2.2.2.2.2.2.2.2.2.2
theorem dX3_ofMonthNumber_73 : decode cX3_ofMonthNumber 73 = .ok (.ireturn, 1) := by decide +kernel
theorem db3_49 : (decode cX3_lengths 0 = .ok (.aload_n 0, 1)) ∧ (decode cX3_lengths 1 = .ok (.iload_n 1, 1)) ∧ (decode cX3_lengths 2 = .ok (.invokestatic 212, 3)) ∧ (decode cX3_lengths 5 = .ok (.ifCond .ne 13, 3)) ∧ (decode cX3_lengths 8 = .ok (.iload_n 2, 1)) ∧ (decode cX3_lengths 9 = .ok (.iconst 0, 1)) ∧ (decode cX3_lengths 10 = .ok (.bipush 48, 2)) ∧ (decode cX3_lengths 12 = .ok (.invokestatic 27, 3)) ∧ (decode cX3_lengths 15 = .ok (.ifCond .eq 7, 3)) ∧ (decode cX3_lengths 18 = .ok (.iconst 1, 1)) ∧ (decode cX3_lengths 19 = .ok (.goto 4, 3)) ∧ (decode cX3_lengths 22 = .ok (.iconst 0, 1)) ∧ (decode cX3_lengths 23 = .ok (.iconst 0, 1)) ∧ (decode cX3_lengths 24 = .ok (.iconst 0, 1)) ∧ (decode cX3_lengths 25 = .ok (.invokevirtual 77, 3)) ∧ (decode cX3_lengths 28 = .ok (.ifCond .eq 5, 3)) := by decide +kernel
theorem dX3_lengths_0 : decode cX3_lengths 0 = .ok (.aload_n 0, 1) := db3_49.1
theorem dX3_lengths_1 : decode cX3_lengths 1 = .ok (.iload_n 1, 1) := db3_49.2.1
theorem dX3_lengths_2 : decode cX3_lengths 2 = .ok (.invokestatic 212, 3) := db3_49.2.2.1
theorem dX3_lengths_5 : decode cX3_lengths 5 = .ok (.ifCond .ne 13, 3) := db3_49.2.2.2.1
theorem dX3_lengths_8 : decode cX3_lengths 8 = .ok (.iload_n 2, 1) := db3_49.2.2.2.2.1
theorem dX3_lengths_9 : decode cX3_lengths 9 = .ok (.iconst 0, 1) := db3_49.2.2.2.2.2.1
theorem dX3_lengths_10 : decode cX3_lengths 10 = .ok (.bipush 48, 2) := db3_49.2.2.2.2.2.2.1
theorem dX3_lengths_12 : decode cX3_lengths 12 = .ok (.invokestatic 27, 3) := db3_49.2.2.2.2.2.2.2.1
theorem dX3_lengths_15 : decode cX3_lengths 15 = .ok (.ifCond .eq 7, 3) := db3_49.2.2.2.2.2.2.2.2.1
theorem dX3_lengths_18 : decode cX3_lengths 18 = .ok (.iconst 1, 1) := db3_49.2.2.2.2.2.2.2.2.2.1
theorem dX3_lengths_19 : decode cX3_lengths 19 = .ok (.goto 4, 3) := db3_49.2.2.2.2.2.2.2.2.2.2.1
theorem dX3_lengths_22 : decode cX3_lengths 22 = .ok (.iconst 0, 1) := db3_49.2.2.2.2.2.2.2.2.2.2.2.1
theorem dX3_lengths_23 : decode cX3_lengths 23 = .ok (.iconst 0, 1) := db3_49.2.2.2.2.2.2.2.2.2.2.2.2.1
theorem dX3_lengths_24 : decode cX3_lengths 24 = .ok (.iconst 0, 1) := db3_49.2.2.2.2.2.2.2.2.2.2.2.2.2.1
theorem dX3_lengths_25 : decode cX3_lengths 25 = .ok (.invokevirtual 77, 3) := db3_49.2.2.2.2.2.2.2.2.2.2.2.2.2.2.1
theorem dX3_lengths_28 : decode cX3_lengths 28 = .ok (.ifCond .eq 5, 3) := db3_49.2.2.2.2.2.2.2.2.2.2.2.2.2.2.2
theorem db3_50 : (decode cX3_lengths 31 = .ok (.iconst 0, 1)) ∧ (decode cX3_lengths 32 = .ok (.ireturn, 1)) ∧ (decode cX3_lengths 33 = .ok (.iconst 0, 1)) ∧ (decode cX3_lengths 34 = .ok (.istore_n 3, 1)) ∧ (decode cX3_lengths 35 = .ok (.iconst 0, 1)) ∧ (decode cX3_lengths 36 = .ok (.istore 4, 2)) ∧ (decode cX3_lengths 38 = .ok (.iload 4, 2)) ∧ (decode cX3_lengths 40 = .ok (.iload_n 2, 1)) ∧ (decode cX3_lengths 41 = .ok (.if_icmp .ge 19, 3)) ∧ (decode cX3_lengths 44 = .ok (.iload_n 3, 1)) ∧ (decode cX3_lengths 45 = .ok (.iload_n 1, 1)) ∧ (decode cX3_lengths 46 = .ok (.iload 4, 2)) ∧ (decode cX3_lengths 48 = .ok (.iadd, 1)) ∧ (decode cX3_lengths 49 = .ok (.invokestatic 54, 3)) ∧ (decode cX3_lengths 52 = .ok (.iadd, 1)) ∧ (decode cX3_lengths 53 = .ok (.istore_n 3, 1)) := by decide +kernel
theorem dX3_lengths_31 : decode cX3_lengths 31 = .ok (.iconst 0, 1) := db3_50.1
theorem dX3_lengths_32 : decode cX3_lengths 32 = .ok (.ireturn, 1) := db3_50.2.1
theorem dX3_lengths_33 : decode cX3_lengths 33 = .ok (.iconst 0, 1) := db3_50.2.2.1
theorem dX3_lengths_34 : decode cX3_lengths 34 = .ok (.istore_n 3, 1) := db3_50.2.2.2.1
theorem dX3_lengths_35 : decode cX3_lengths 35 = .ok (.iconst 0, 1) := db3_50.2.2.2.2.1
theorem dX3_lengths_36 : decode cX3_lengths 36 = .ok (.istore 4, 2) := db3_50.2.2.2.2.2.1
theorem dX3_lengths_38 : decode cX3_lengths 38 = .ok (.iload 4, 2) := db3_50.2.2.2.2.2.2.1
theorem dX3_lengths_40 : decode cX3_lengths 40 = .ok (.iload_n 2, 1) := db3_50.2.2.2.2.2.2.2.1
theorem dX3_lengths_41 : decode cX3_lengths 41 = .ok (.if_icmp .ge 19, 3) := db3_50.2.2.2.2.2.2.2.2.1
theorem dX3_lengths_44 : decode cX3_lengths 44 = .ok (.iload_n 3, 1) := db3_50.2.2.2.2.2.2.2.2.2.1
theorem dX3_lengths_45 : decode cX3_lengths 45 = .ok (.iload_n 1, 1) := db3_50.2.2.2.2.2.2.2.2.2.2.1
theorem dX3_lengths_46 : decode cX3_lengths 46 = .ok (.iload 4, 2) := db3_50.2.2.2.2.2.2.2.2.2.2.2.1
theorem dX3_lengths_48 : decode cX3_lengths 48 = .ok (.iadd, 1) := db3_50.2.2.2.2.2.2.2.2.2.2.2.2.1
theorem dX3_lengths_49 : decode cX3_lengths 49 = .ok (.invokestatic 54, 3) := db3_50.2.2.2.2.2.2.2.2.2.2.2.2.2.1
theorem dX3_lengths_52 : decode cX3_lengths 52 = .ok (.iadd, 1) := db3_50.2.2.2.2.2.2.2.2.2.2.2.2.2.2.1
theorem dX3_lengths_53 : decode cX3_lengths 53 = .ok (.istore_n 3, 1) := db3_50.2.2.2.2.2.2.2.2.2.2.2.2.2.2.2
theorem db3_51 : (decode cX3_lengths 54 = .ok (.iinc 4 1, 3)) ∧ (decode cX3_lengths 57 = .ok (.goto (-19), 3)) ∧ (decode cX3_lengths 60 = .ok (.iload_n 3, 1)) ∧ (decode cX3_lengths 61 = .ok (.ireturn, 1)) := by decide +kernel
theorem dX3_lengths_54 : decode cX3_lengths 54 = .ok (.iinc 4 1, 3) := db3_51.1
theorem dX3_lengths_57 : decode cX3_lengths 57 = .ok (.goto (-19), 3) := db3_51.2.1
theorem dX3_lengths_60 : decode cX3_lengths 60 = .ok (.iload_n 3, 1) := db3_51.2.2.1
theorem dX3_lengths_61 : decode cX3_lengths 61 = .ok (.ireturn, 1) := db3_51.2.2.2
theorem db3_52 : (decode cX3_weekday 0 = .ok (.aload_n 0, 1)) ∧ (decode cX3_weekday 1 = .ok (.iload_n 1, 1)) ∧ (decode cX3_weekday 2 = .ok (.invokestatic 31, 3)) ∧ (decode cX3_weekday 5 = .ok (.iconst 0, 1)) ∧ (decode cX3_weekday 6 = .ok (.iconst 0, 1)) ∧ (decode cX3_weekday 7 = .ok (.invokevirtual 77, 3)) ∧ (decode cX3_weekday 10 = .ok (.ifCond .eq 7, 3)) ∧ (decode cX3_weekday 13 = .ok (.iconst 0, 1)) ∧ (decode cX3_weekday 14 = .ok (.goto 11, 3)) ∧ (decode cX3_weekday 17 = .ok (.aload_n 0, 1)) ∧ (decode cX3_weekday 18 = .ok (.iload_n 1, 1)) ∧ (decode cX3_weekday 19 = .ok (.invokevirtual 85, 3)) ∧ (decode cX3_weekday 22 = .ok (.invokestatic 88, 3)) ∧ (decode cX3_weekday 25 = .ok (.ireturn, 1)) := by decide +kernel
theorem dX3_weekday_0 : decode cX3_weekday 0 = .ok (.aload_n 0, 1) := db3_52.1
theorem dX3_weekday_1 : decode cX3_weekday 1 = .ok (.iload_n 1, 1) := db3_52.2.1
theorem dX3_weekday_2 : decode cX3_weekday 2 = .ok (.invokestatic 31, 3) := db3_52.2.2.1
theorem dX3_weekday_5 : decode cX3_weekday 5 = .ok (.iconst 0, 1) := db3_52.2.2.2.1
theorem dX3_weekday_6 : decode cX3_weekday 6 = .ok (.iconst 0, 1) := db3_52.2.2.2.2.1
theorem dX3_weekday_7 : decode cX3_weekday 7 = .ok (.invokevirtual 77, 3) := db3_52.2.2.2.2.2.1
theorem dX3_weekday_10 : decode cX3_weekday 10 = .ok (.ifCond .eq 7, 3) := db3_52.2.2.2.2.2.2.1
theorem dX3_weekday_13 : decode cX3_weekday 13 = .ok (.iconst 0, 1) := db3_52.2.2.2.2.2.2.2.1
theorem dX3_weekday_14 : decode cX3_weekday 14 = .ok (.goto 11, 3) := db3_52.2.2.2.2.2.2.2.2.1
theorem dX3_weekday_17 : decode cX3_weekday 17 = .ok (.aload_n 0, 1) := db3_52.2.2.2.2.2.2.2.2.2.1
theorem dX3_weekday_18 : decode cX3_weekday 18 = .ok (.iload_n 1, 1) := db3_52.2.2.2.2.2.2.2.2.2.2.1
theorem dX3_weekday_19 : decode cX3_weekday 19 = .ok (.invokevirtual 85, 3) := db3_52.2.2.2.2.2.2.2.2.2.2.2.1
theorem dX3_weekday_22 : decode cX3_weekday 22 = .ok (.invokestatic 88, 3) := db3_52.2.2.2.2.2.2.2.2.2.2.2.2.1
theorem dX3_weekday_25 : decode cX3_weekday 25 = .ok (.ireturn, 1) := db3_52.2.2.2.2.2.2.2.2.2.2.2.2.2
theorem db3_53 : (decode cX3_nth 0 = .ok (.aload_n 0, 1)) ∧ (decode cX3_nth 1 = .ok (.iload_n 1, 1)) ∧ (decode cX3_nth 2 = .ok (.invokestatic 212, 3)) ∧ (decode cX3_nth 5 = .ok (.ifCond .ne 22, 3)) ∧ (decode cX3_nth 8 = .ok (.iload_n 2, 1)) ∧ (decode cX3_nth 9 = .ok (.iconst 1, 1)) ∧ (decode cX3_nth 10 = .ok (.bipush 7, 2)) ∧ (decode cX3_nth 12 = .ok (.invokestatic 27, 3)) ∧ (decode cX3_nth 15 = .ok (.ifCond .ne 12, 3)) ∧ (decode cX3_nth 18 = .ok (.iload_n 3, 1)) ∧ (decode cX3_nth 19 = .ok (.iconst 1, 1)) ∧ (decode cX3_nth 20 = .ok (.iconst 5, 1)) ∧ (decode cX3_nth 21 = .ok (.invokestatic 27, 3)) ∧ (decode cX3_nth 24 = .ok (.ifCond .eq 7, 3)) ∧ (decode cX3_nth 27 = .ok (.iconst 1, 1)) ∧ (decode cX3_nth 28 = .ok (.goto 4, 3)) := by decide +kernel
theorem dX3_nth_0 : decode cX3_nth 0 = .ok (.aload_n 0, 1) := db3_53.1
theorem dX3_nth_1 : decode cX3_nth 1 = .ok (.iload_n 1, 1) := db3_53.2.1
theorem dX3_nth_2 : decode cX3_nth 2 = .ok (.invokestatic 212, 3) := db3_53.2.2.1
theorem dX3_nth_5 : decode cX3_nth 5 = .ok (.ifCond .ne 22, 3) := db3_53.2.2.2.1
theorem dX3_nth_8 : decode cX3_nth 8 = .ok (.iload_n 2, 1) := db3_53.2.2.2.2.1
theorem dX3_nth_9 : decode cX3_nth 9 = .ok (.iconst 1, 1) := db3_53.2.2.2.2.2.1
theorem dX3_nth_10 : decode cX3_nth 10 = .ok (.bipush 7, 2) := db3_53.2.2.2.2.2.2.1
theorem dX3_nth_12 : decode cX3_nth 12 = .ok (.invokestatic 27, 3) := db3_53.2.2.2.2.2.2.2.1
theorem dX3_nth_15 : decode cX3_nth 15 = .ok (.ifCond .ne 12, 3) := db3_53.2.2.2.2.2.2.2.2.1
theorem dX3_nth_18 : decode cX3_nth 18 = .ok (.iload_n 3, 1) := db3_53.2.2.2.2.2.2.2.2.2.1
theorem dX3_nth_19 : decode cX3_nth 19 = .ok (.iconst 1, 1) := db3_53.2.2.2.2.2.2.2.2.2.2.1
theorem dX3_nth_20 : decode cX3_nth 20 = .ok (.iconst 5, 1) := db3_53.2.2.2.2.2.2.2.2.2.2.2.1
theorem dX3_nth_21 : decode cX3_nth 21 = .ok (.invokestatic 27, 3) := db3_53.2.2.2.2.2.2.2.2.2.2.2.2.1
theorem dX3_nth_24 : decode cX3_nth 24 = .ok (.ifCond .eq 7, 3) := db3_53.2.2.2.2.2.2.2.2.2.2.2.2.2.1
theorem dX3_nth_27 : decode cX3_nth 27 = .ok (.iconst 1, 1) := db3_53.2.2.2.2.2.2.2.2.2.2.2.2.2.2.1
theorem dX3_nth_28 : decode cX3_nth 28 = .ok (.goto 4, 3) := db3_53.2.2.2.2.2.2.2.2.2.2.2.2.2.2.2
theorem db3_54 : (decode cX3_nth 31 = .ok (.iconst 0, 1)) ∧ (decode cX3_nth 32 = .ok (.iconst 0, 1)) ∧ (decode cX3_nth 33 = .ok (.iconst 0, 1)) ∧ (decode cX3_nth 34 = .ok (.invokevirtual 77, 3)) ∧ (decode cX3_nth 37 = .ok (.ifCond .eq 5, 3)) ∧ (decode cX3_nth 40 = .ok (.iconst 0, 1)) ∧ (decode cX3_nth 41 = .ok (.ireturn, 1)) ∧ (decode cX3_nth 42 = .ok (.iload_n 1, 1)) ∧ (decode cX3_nth 43 = .ok (.invokestatic 57, 3)) ∧ (decode cX3_nth 46 = .ok (.istore 4, 2)) ∧ (decode cX3_nth 48 = .ok (.iconst 0, 1)) ∧ (decode cX3_nth 49 = .ok (.istore 5, 2)) ∧ (decode cX3_nth 51 = .ok (.iconst 1, 1)) ∧ (decode cX3_nth 52 = .ok (.istore 6, 2)) ∧ (decode cX3_nth 54 = .ok (.iload 6, 2)) ∧ (decode cX3_nth 56 = .ok (.iload_n 1, 1)) := by decide +kernel
theorem dX3_nth_31 : decode cX3_nth 31 = .ok (.iconst 0, 1) := db3_54.1
theorem dX3_nth_32 : decode cX3_nth 32 = .ok (.iconst 0, 1) := db3_54.2.1
theorem dX3_nth_33 : decode cX3_nth 33 = .ok (.iconst 0, 1) := db3_54.2.2.1
theorem dX3_nth_34 : decode cX3_nth 34 = .ok (.invokevirtual 77, 3) := db3_54.2.2.2.1
theorem dX3_nth_37 : decode cX3_nth 37 = .ok (.ifCond .eq 5, 3) := db3_54.2.2.2.2.1
theorem dX3_nth_40 : decode cX3_nth 40 = .ok (.iconst 0, 1) := db3_54.2.2.2.2.2.1
theorem dX3_nth_41 : decode cX3_nth 41 = .ok (.ireturn, 1) := db3_54.2.2.2.2.2.2.1
theorem dX3_nth_42 : decode cX3_nth 42 = .ok (.iload_n 1, 1) := db3_54.2.2.2.2.2.2.2.1
theorem dX3_nth_43 : decode cX3_nth 43 = .ok (.invokestatic 57, 3) := db3_54.2.2.2.2.2.2.2.2.1
theorem dX3_nth_46 : decode cX3_nth 46 = .ok (.istore 4, 2) := db3_54.2.2.2.2.2.2.2.2.2.1
theorem dX3_nth_48 : decode cX3_nth 48 = .ok (.iconst 0, 1) := db3_54.2.2.2.2.2.2.2.2.2.2.1
theorem dX3_nth_49 : decode cX3_nth 49 = .ok (.istore 5, 2) := db3_54.2.2.2.2.2.2.2.2.2.2.2.1
theorem dX3_nth_51 : decode cX3_nth 51 = .ok (.iconst 1, 1) := db3_54.2.2.2.2.2.2.2.2.2.2.2.2.1
theorem dX3_nth_52 : decode cX3_nth 52 = .ok (.istore 6, 2) := db3_54.2.2.2.2.2.2.2.2.2.2.2.2.2.1
theorem dX3_nth_54 : decode cX3_nth 54 = .ok (.iload 6, 2) := db3_54.2.2.2.2.2.2.2.2.2.2.2.2.2.2.1
theorem dX3_nth_56 : decode cX3_nth 56 = .ok (.iload_n 1, 1) := db3_54.2.2.2.2.2.2.2.2.2.2.2.2.2.2.2
theorem db3_55 : (decode cX3_nth 57 = .ok (.invokestatic 54, 3)) ∧ (decode cX3_nth 60 = .ok (.if_icmp .gt 45, 3)) ∧ (decode cX3_nth 63 = .ok (.iload 5, 2)) ∧ (decode cX3_nth 65 = .ok (.iload 4, 2)) ∧ (decode cX3_nth 67 = .ok (.iload 6, 2)) ∧ (decode cX3_nth 69 = .ok (.iadd, 1)) ∧ (decode cX3_nth 70 = .ok (.iconst 1, 1)) ∧ (decode cX3_nth 71 = .ok (.isub, 1)) ∧ (decode cX3_nth 72 = .ok (.invokestatic 88, 3)) ∧ (decode cX3_nth 75 = .ok (.iload_n 2, 1)) ∧ (decode cX3_nth 76 = .ok (.if_icmp .ne 7, 3)) ∧ (decode cX3_nth 79 = .ok (.iconst 1, 1)) ∧ (decode cX3_nth 80 = .ok (.goto 4, 3)) ∧ (decode cX3_nth 83 = .ok (.iconst 0, 1)) ∧ (decode cX3_nth 84 = .ok (.invokestatic 121, 3)) ∧ (decode cX3_nth 87 = .ok (.iadd, 1)) := by decide +kernel
theorem dX3_nth_57 : decode cX3_nth 57 = .ok (.invokestatic 54, 3) := db3_55.1
theorem dX3_nth_60 : decode cX3_nth 60 = .ok (.if_icmp .gt 45, 3) := db3_55.2.1
theorem dX3_nth_63 : decode cX3_nth 63 = .ok (.iload 5, 2) := db3_55.2.2.1
theorem dX3_nth_65 : decode cX3_nth 65 = .ok (.iload 4, 2) := db3_55.2.2.2.1
theorem dX3_nth_67 : decode cX3_nth 67 = .ok (.iload 6, 2) := db3_55.2.2.2.2.1
theorem dX3_nth_69 : decode cX3_nth 69 = .ok (.iadd, 1) := db3_55.2.2.2.2.2.1
theorem dX3_nth_70 : decode cX3_nth 70 = .ok (.iconst 1, 1) := db3_55.2.2.2.2.2.2.1
theorem dX3_nth_71 : decode cX3_nth 71 = .ok (.isub, 1) := db3_55.2.2.2.2.2.2.2.1
theorem dX3_nth_72 : decode cX3_nth 72 = .ok (.invokestatic 88, 3) := db3_55.2.2.2.2.2.2.2.2.1
theorem dX3_nth_75 : decode cX3_nth 75 = .ok (.iload_n 2, 1) := db3_55.2.2.2.2.2.2.2.2.2.1
theorem dX3_nth_76 : decode cX3_nth 76 = .ok (.if_icmp .ne 7, 3) := db3_55.2.2.2.2.2.2.2.2.2.2.1
theorem dX3_nth_79 : decode cX3_nth 79 = .ok (.iconst 1, 1) := db3_55.2.2.2.2.2.2.2.2.2.2.2.1
theorem dX3_nth_80 : decode cX3_nth 80 = .ok (.goto 4, 3) := db3_55.2.2.2.2.2.2.2.2.2.2.2.2.1
theorem dX3_nth_83 : decode cX3_nth 83 = .ok (.iconst 0, 1) := db3_55.2.2.2.2.2.2.2.2.2.2.2.2.2.1
theorem dX3_nth_84 : decode cX3_nth 84 = .ok (.invokestatic 121, 3) := db3_55.2.2.2.2.2.2.2.2.2.2.2.2.2.2.1
theorem dX3_nth_87 : decode cX3_nth 87 = .ok (.iadd, 1) := db3_55.2.2.2.2.2.2.2.2.2.2.2.2.2.2.2
theorem db3_56 : (decode cX3_nth 88 = .ok (.istore 5, 2)) ∧ (decode cX3_nth 90 = .ok (.iload 5, 2)) ∧ (decode cX3_nth 92 = .ok (.iload_n 3, 1)) ∧ (decode cX3_nth 93 = .ok (.if_icmp .ne 6, 3)) ∧ (decode cX3_nth 96 = .ok (.iload 6, 2)) ∧ (decode cX3_nth 98 = .ok (.ireturn, 1)) ∧ (decode cX3_nth 99 = .ok (.iinc 6 1, 3)) ∧ (decode cX3_nth 102 = .ok (.goto (-48), 3)) ∧ (decode cX3_nth 105 = .ok (.iconst (-1), 1)) ∧ (decode cX3_nth 106 = .ok (.ireturn, 1)) := by decide +kernel
theorem dX3_nth_88 : decode cX3_nth 88 = .ok (.istore 5, 2) := db3_56.1
theorem dX3_nth_90 : decode cX3_nth 90 = .ok (.iload 5, 2) := db3_56.2.1
theorem dX3_nth_92 : decode cX3_nth 92 = .ok (.iload_n 3, 1) := db3_56.2.2.1
theorem dX3_nth_93 : decode cX3_nth 93 = .ok (.if_icmp .ne 6, 3) := db3_56.2.2.2.1
theorem dX3_nth_96 : decode cX3_nth 96 = .ok (.iload 6, 2) := db3_56.2.2.2.2.1
theorem dX3_nth_98 : decode cX3_nth 98 = .ok (.ireturn, 1) := db3_56.2.2.2.2.2.1
theorem dX3_nth_99 : decode cX3_nth 99 = .ok (.iinc 6 1, 3) := db3_56.2.2.2.2.2.2.1
theorem dX3_nth_102 : decode cX3_nth 102 = .ok (.goto (-48), 3) := db3_56.2.2.2.2.2.2.2.1
theorem dX3_nth_105 : decode cX3_nth 105 = .ok (.iconst (-1), 1) := db3_56.2.2.2.2.2.2.2.2.1
theorem dX3_nth_106 : decode cX3_nth 106 = .ok (.ireturn, 1) := db3_56.2.2.2.2.2.2.2.2.2
theorem db3_57 : (decode cX3_inYear 0 = .ok (.aload_n 0, 1)) ∧ (decode cX3_inYear 1 = .ok (.iload_n 1, 1)) ∧ (decode cX3_inYear 2 = .ok (.sipush (-9999), 3)) ∧ (decode cX3_inYear 5 = .ok (.sipush 9999, 3)) ∧ (decode cX3_inYear 8 = .ok (.invokestatic 27, 3)) ∧ (decode cX3_inYear 11 = .ok (.ifCond .ne 23, 3)) ∧ (decode cX3_inYear 14 = .ok (.iload_n 2, 1)) ∧ (decode cX3_inYear 15 = .ok (.iconst 1, 1)) ∧ (decode cX3_inYear 16 = .ok (.bipush 31, 2)) ∧ (decode cX3_inYear 18 = .ok (.invokestatic 27, 3)) ∧ (decode cX3_inYear 21 = .ok (.ifCond .ne 13, 3)) ∧ (decode cX3_inYear 24 = .ok (.iload_n 3, 1)) ∧ (decode cX3_inYear 25 = .ok (.iconst 1, 1)) ∧ (decode cX3_inYear 26 = .ok (.bipush 7, 2)) ∧ (decode cX3_inYear 28 = .ok (.invokestatic 27, 3)) ∧ (decode cX3_inYear 31 = .ok (.ifCond .eq 7, 3)) := by decide +kernel
theorem dX3_inYear_0 : decode cX3_inYear 0 = .ok (.aload_n 0, 1) := db3_57.1
theorem dX3_inYear_1 : decode cX3_inYear 1 = .ok (.iload_n 1, 1) := db3_57.2.1
theorem dX3_inYear_2 : decode cX3_inYear 2 = .ok (.sipush (-9999), 3) := db3_57.2.2.1
theorem dX3_inYear_5 : decode cX3_inYear 5 = .ok (.sipush 9999, 3) := db3_57.2.2.2.1
theorem dX3_inYear_8 : decode cX3_inYear 8 = .ok (.invokestatic 27, 3) := db3_57.2.2.2.2.1
theorem dX3_inYear_11 : decode cX3_inYear 11 = .ok (.ifCond .ne 23, 3) := db3_57.2.2.2.2.2.1
theorem dX3_inYear_14 : decode cX3_inYear 14 = .ok (.iload_n 2, 1) := db3_57.2.2.2.2.2.2.1
theorem dX3_inYear_15 : decode cX3_inYear 15 = .ok (.iconst 1, 1) := db3_57.2.2.2.2.2.2.2.1
theorem dX3_inYear_16 : decode cX3_inYear 16 = .ok (.bipush 31, 2) := db3_57.2.2.2.2.2.2.2.2.1
theorem dX3_inYear_18 : decode cX3_inYear 18 = .ok (.invokestatic 27, 3) := db3_57.2.2.2.2.2.2.2.2.2.1
theorem dX3_inYear_21 : decode cX3_inYear 21 = .ok (.ifCond .ne 13, 3) := db3_57.2.2.2.2.2.2.2.2.2.2.1
theorem dX3_inYear_24 : decode cX3_inYear 24 = .ok (.iload_n 3, 1) := db3_57.2.2.2.2.2.2.2.2.2.2.2.1
theorem dX3_inYear_25 : decode cX3_inYear 25 = .ok (.iconst 1, 1) := db3_57.2.2.2.2.2.2.2.2.2.2.2.2.1
theorem dX3_inYear_26 : decode cX3_inYear 26 = .ok (.bipush 7, 2) := db3_57.2.2.2.2.2.2.2.2.2.2.2.2.2.1
theorem dX3_inYear_28 : decode cX3_inYear 28 = .ok (.invokestatic 27, 3) := db3_57.2.2.2.2.2.2.2.2.2.2.2.2.2.2.1
theorem dX3_inYear_31 : decode cX3_inYear 31 = .ok (.ifCond .eq 7, 3) := db3_57.2.2.2.2.2.2.2.2.2.2.2.2.2.2.2
theorem db3_58 : (decode cX3_inYear 34 = .ok (.iconst 1, 1)) ∧ (decode cX3_inYear 35 = .ok (.goto 4, 3)) ∧ (decode cX3_inYear 38 = .ok (.iconst 0, 1)) ∧ (decode cX3_inYear 39 = .ok (.iconst 0, 1)) ∧ (decode cX3_inYear 40 = .ok (.iconst 0, 1)) ∧ (decode cX3_inYear 41 = .ok (.invokevirtual 77, 3)) ∧ (decode cX3_inYear 44 = .ok (.ifCond .eq 5, 3)) ∧ (decode cX3_inYear 47 = .ok (.iconst 0, 1)) ∧ (decode cX3_inYear 48 = .ok (.ireturn, 1)) ∧ (decode cX3_inYear 49 = .ok (.iconst 0, 1)) ∧ (decode cX3_inYear 50 = .ok (.istore 4, 2)) ∧ (decode cX3_inYear 52 = .ok (.bipush 12, 2)) ∧ (decode cX3_inYear 54 = .ok (.iload_n 1, 1)) ∧ (decode cX3_inYear 55 = .ok (.imul, 1)) ∧ (decode cX3_inYear 56 = .ok (.istore 5, 2)) ∧ (decode cX3_inYear 58 = .ok (.iload 5, 2)) := by decide +kernel
theorem dX3_inYear_34 : decode cX3_inYear 34 = .ok (.iconst 1, 1) := db3_58.1
theorem dX3_inYear_35 : decode cX3_inYear 35 = .ok (.goto 4, 3) := db3_58.2.1
theorem dX3_inYear_38 : decode cX3_inYear 38 = .ok (.iconst 0, 1) := db3_58.2.2.1
theorem dX3_inYear_39 : decode cX3_inYear 39 = .ok (.iconst 0, 1) := db3_58.2.2.2.1
theorem dX3_inYear_40 : decode cX3_inYear 40 = .ok (.iconst 0, 1) := db3_58.2.2.2.2.1
theorem dX3_inYear_41 : decode cX3_inYear 41 = .ok (.invokevirtual 77, 3) := db3_58.2.2.2.2.2.1
theorem dX3_inYear_44 : decode cX3_inYear 44 = .ok (.ifCond .eq 5, 3) := db3_58.2.2.2.2.2.2.1
theorem dX3_inYear_47 : decode cX3_inYear 47 = .ok (.iconst 0, 1) := db3_58.2.2.2.2.2.2.2.1
theorem dX3_inYear_48 : decode cX3_inYear 48 = .ok (.ireturn, 1) := db3_58.2.2.2.2.2.2.2.2.1
theorem dX3_inYear_49 : decode cX3_inYear 49 = .ok (.iconst 0, 1) := db3_58.2.2.2.2.2.2.2.2.2.1
theorem dX3_inYear_50 : decode cX3_inYear 50 = .ok (.istore 4, 2) := db3_58.2.2.2.2.2.2.2.2.2.2.1
theorem dX3_inYear_52 : decode cX3_inYear 52 = .ok (.bipush 12, 2) := db3_58.2.2.2.2.2.2.2.2.2.2.2.1
theorem dX3_inYear_54 : decode cX3_inYear 54 = .ok (.iload_n 1, 1) := db3_58.2.2.2.2.2.2.2.2.2.2.2.2.1
theorem dX3_inYear_55 : decode cX3_inYear 55 = .ok (.imul, 1) := db3_58.2.2.2.2.2.2.2.2.2.2.2.2.2.1
theorem dX3_inYear_56 : decode cX3_inYear 56 = .ok (.istore 5, 2) := db3_58.2.2.2.2.2.2.2.2.2.2.2.2.2.2.1
theorem dX3_inYear_58 : decode cX3_inYear 58 = .ok (.iload 5, 2) := db3_58.2.2.2.2.2.2.2.2.2.2.2.2.2.2.2
theorem db3_59 : (decode cX3_inYear 60 = .ok (.bipush 12, 2)) ∧ (decode cX3_inYear 62 = .ok (.iload_n 1, 1)) ∧ (decode cX3_inYear 63 = .ok (.imul, 1)) ∧ (decode cX3_inYear 64 = .ok (.bipush 12, 2)) ∧ (decode cX3_inYear 66 = .ok (.iadd, 1)) ∧ (decode cX3_inYear 67 = .ok (.if_icmp .ge 47, 3)) ∧ (decode cX3_inYear 70 = .ok (.iload 4, 2)) ∧ (decode cX3_inYear 72 = .ok (.iload_n 2, 1)) ∧ (decode cX3_inYear 73 = .ok (.iload 5, 2)) ∧ (decode cX3_inYear 75 = .ok (.invokestatic 54, 3)) ∧ (decode cX3_inYear 78 = .ok (.if_icmp .gt 23, 3)) ∧ (decode cX3_inYear 81 = .ok (.iload 5, 2)) ∧ (decode cX3_inYear 83 = .ok (.invokestatic 57, 3)) ∧ (decode cX3_inYear 86 = .ok (.iload_n 2, 1)) ∧ (decode cX3_inYear 87 = .ok (.iadd, 1)) ∧ (decode cX3_inYear 88 = .ok (.iconst 1, 1)) := by decide +kernel
theorem dX3_inYear_60 : decode cX3_inYear 60 = .ok (.bipush 12, 2) := db3_59.1
theorem dX3_inYear_62 : decode cX3_inYear 62 = .ok (.iload_n 1, 1) := db3_59.2.1
theorem dX3_inYear_63 : decode cX3_inYear 63 = .ok (.imul, 1) := db3_59.2.2.1
theorem dX3_inYear_64 : decode cX3_inYear 64 = .ok (.bipush 12, 2) := db3_59.2.2.2.1
theorem dX3_inYear_66 : decode cX3_inYear 66 = .ok (.iadd, 1) := db3_59.2.2.2.2.1
theorem dX3_inYear_67 : decode cX3_inYear 67 = .ok (.if_icmp .ge 47, 3) := db3_59.2.2.2.2.2.1
theorem dX3_inYear_70 : decode cX3_inYear 70 = .ok (.iload 4, 2) := db3_59.2.2.2.2.2.2.1
theorem dX3_inYear_72 : decode cX3_inYear 72 = .ok (.iload_n 2, 1) := db3_59.2.2.2.2.2.2.2.1
theorem dX3_inYear_73 : decode cX3_inYear 73 = .ok (.iload 5, 2) := db3_59.2.2.2.2.2.2.2.2.1
theorem dX3_inYear_75 : decode cX3_inYear 75 = .ok (.invokestatic 54, 3) := db3_59.2.2.2.2.2.2.2.2.2.1
theorem dX3_inYear_78 : decode cX3_inYear 78 = .ok (.if_icmp .gt 23, 3) := db3_59.2.2.2.2.2.2.2.2.2.2.1
theorem dX3_inYear_81 : decode cX3_inYear 81 = .ok (.iload 5, 2) := db3_59.2.2.2.2.2.2.2.2.2.2.2.1
theorem dX3_inYear_83 : decode cX3_inYear 83 = .ok (.invokestatic 57, 3) := db3_59.2.2.2.2.2.2.2.2.2.2.2.2.1
theorem dX3_inYear_86 : decode cX3_inYear 86 = .ok (.iload_n 2, 1) := db3_59.2.2.2.2.2.2.2.2.2.2.2.2.2.1
theorem dX3_inYear_87 : decode cX3_inYear 87 = .ok (.iadd, 1) := db3_59.2.2.2.2.2.2.2.2.2.2.2.2.2.2.1
theorem dX3_inYear_88 : decode cX3_inYear 88 = .ok (.iconst 1, 1) := db3_59.2.2.2.2.2.2.2.2.2.2.2.2.2.2.2
theorem db3_60 : (decode cX3_inYear 89 = .ok (.isub, 1)) ∧ (decode cX3_inYear 90 = .ok (.invokestatic 88, 3)) ∧ (decode cX3_inYear 93 = .ok (.iload_n 3, 1)) ∧ (decode cX3_inYear 94 = .ok (.if_icmp .ne 7, 3)) ∧ (decode cX3_inYear 97 = .ok (.iconst 1, 1)) ∧ (decode cX3_inYear 98 = .ok (.goto 4, 3)) ∧ (decode cX3_inYear 101 = .ok (.iconst 0, 1)) ∧ (decode cX3_inYear 102 = .ok (.invokestatic 121, 3)) ∧ (decode cX3_inYear 105 = .ok (.iadd, 1)) ∧ (decode cX3_inYear 106 = .ok (.istore 4, 2)) ∧ (decode cX3_inYear 108 = .ok (.iinc 5 1, 3)) ∧ (decode cX3_inYear 111 = .ok (.goto (-53), 3)) ∧ (decode cX3_inYear 114 = .ok (.iload 4, 2)) ∧ (decode cX3_inYear 116 = .ok (.ireturn, 1)) := by decide +kernel
theorem dX3_inYear_89 : decode cX3_inYear 89 = .ok (.isub, 1) := db3_60.1
theorem dX3_inYear_90 : decode cX3_inYear 90 = .ok (.invokestatic 88, 3) := db3_60.2.1
theorem dX3_inYear_93 : decode cX3_inYear 93 = .ok (.iload_n 3, 1) := db3_60.2.2.1
theorem dX3_inYear_94 : decode cX3_inYear 94 = .ok (.if_icmp .ne 7, 3) := db3_60.2.2.2.1
theorem dX3_inYear_97 : decode cX3_inYear 97 = .ok (.iconst 1, 1) := db3_60.2.2.2.2.1
theorem dX3_inYear_98 : decode cX3_inYear 98 = .ok (.goto 4, 3) := db3_60.2.2.2.2.2.1
theorem dX3_inYear_101 : decode cX3_inYear 101 = .ok (.iconst 0, 1) := db3_60.2.2.2.2.2.2.1
theorem dX3_inYear_102 : decode cX3_inYear 102 = .ok (.invokestatic 121, 3) := db3_60.2.2.2.2.2.2.2.1
theorem dX3_inYear_105 : decode cX3_inYear 105 = .ok (.iadd, 1) := db3_60.2.2.2.2.2.2.2.2.1
theorem dX3_inYear_106 : decode cX3_inYear 106 = .ok (.istore 4, 2) := db3_60.2.2.2.2.2.2.2.2.2.1
theorem dX3_inYear_108 : decode cX3_inYear 108 = .ok (.iinc 5 1, 3) := db3_60.2.2.2.2.2.2.2.2.2.2.1
theorem dX3_inYear_111 : decode cX3_inYear 111 = .ok (.goto (-53), 3) := db3_60.2.2.2.2.2.2.2.2.2.2.2.1
theorem dX3_inYear_114 : decode cX3_inYear 114 = .ok (.iload 4, 2) := db3_60.2.2.2.2.2.2.2.2.2.2.2.2.1
theorem dX3_inYear_116 : decode cX3_inYear 116 = .ok (.ireturn, 1) := db3_60.2.2.2.2.2.2.2.2.2.2.2.2.2
theorem db3_61 : (decode cX3_recurs 0 = .ok (.aload_n 0, 1)) ∧ (decode cX3_recurs 1 = .ok (.iload_n 1, 1)) ∧ (decode cX3_recurs 2 = .ok (.invokestatic 31, 3)) ∧ (decode cX3_recurs 5 = .ok (.iload_n 2, 1)) ∧ (decode cX3_recurs 6 = .ok (.iconst 1, 1)) ∧ (decode cX3_recurs 7 = .ok (.bipush 7, 2)) ∧ (decode cX3_recurs 9 = .ok (.invokestatic 27, 3)) ∧ (decode cX3_recurs 12 = .ok (.ifCond .ne 13, 3)) ∧ (decode cX3_recurs 15 = .ok (.iload_n 3, 1)) ∧ (decode cX3_recurs 16 = .ok (.iconst 0, 1)) ∧ (decode cX3_recurs 17 = .ok (.bipush 48, 2)) ∧ (decode cX3_recurs 19 = .ok (.invokestatic 27, 3)) ∧ (decode cX3_recurs 22 = .ok (.ifCond .eq 7, 3)) ∧ (decode cX3_recurs 25 = .ok (.iconst 1, 1)) ∧ (decode cX3_recurs 26 = .ok (.goto 4, 3)) ∧ (decode cX3_recurs 29 = .ok (.iconst 0, 1)) := by decide +kernel
theorem dX3_recurs_0 : decode cX3_recurs 0 = .ok (.aload_n 0, 1) := db3_61.1
theorem dX3_recurs_1 : decode cX3_recurs 1 = .ok (.iload_n 1, 1) := db3_61.2.1
theorem dX3_recurs_2 : decode cX3_recurs 2 = .ok (.invokestatic 31, 3) := db3_61.2.2.1
theorem dX3_recurs_5 : decode cX3_recurs 5 = .ok (.iload_n 2, 1) := db3_61.2.2.2.1
theorem dX3_recurs_6 : decode cX3_recurs 6 = .ok (.iconst 1, 1) := db3_61.2.2.2.2.1
theorem dX3_recurs_7 : decode cX3_recurs 7 = .ok (.bipush 7, 2) := db3_61.2.2.2.2.2.1
theorem dX3_recurs_9 : decode cX3_recurs 9 = .ok (.invokestatic 27, 3) := db3_61.2.2.2.2.2.2.1
theorem dX3_recurs_12 : decode cX3_recurs 12 = .ok (.ifCond .ne 13, 3) := db3_61.2.2.2.2.2.2.2.1
theorem dX3_recurs_15 : decode cX3_recurs 15 = .ok (.iload_n 3, 1) := db3_61.2.2.2.2.2.2.2.2.1
theorem dX3_recurs_16 : decode cX3_recurs 16 = .ok (.iconst 0, 1) := db3_61.2.2.2.2.2.2.2.2.2.1
theorem dX3_recurs_17 : decode cX3_recurs 17 = .ok (.bipush 48, 2) := db3_61.2.2.2.2.2.2.2.2.2.2.1
theorem dX3_recurs_19 : decode cX3_recurs 19 = .ok (.invokestatic 27, 3) := db3_61.2.2.2.2.2.2.2.2.2.2.2.1
theorem dX3_recurs_22 : decode cX3_recurs 22 = .ok (.ifCond .eq 7, 3) := db3_61.2.2.2.2.2.2.2.2.2.2.2.2.1
theorem dX3_recurs_25 : decode cX3_recurs 25 = .ok (.iconst 1, 1) := db3_61.2.2.2.2.2.2.2.2.2.2.2.2.2.1
theorem dX3_recurs_26 : decode cX3_recurs 26 = .ok (.goto 4, 3) := db3_61.2.2.2.2.2.2.2.2.2.2.2.2.2.2.1
theorem dX3_recurs_29 : decode cX3_recurs 29 = .ok (.iconst 0, 1) := db3_61.2.2.2.2.2.2.2.2.2.2.2.2.2.2.2
theorem db3_62 : (decode cX3_recurs 30 = .ok (.iconst 0, 1)) ∧ (decode cX3_recurs 31 = .ok (.invokevirtual 77, 3)) ∧ (decode cX3_recurs 34 = .ok (.ifCond .eq 5, 3)) ∧ (decode cX3_recurs 37 = .ok (.iconst 0, 1)) ∧ (decode cX3_recurs 38 = .ok (.ireturn, 1)) ∧ (decode cX3_recurs 39 = .ok (.iconst 0, 1)) ∧ (decode cX3_recurs 40 = .ok (.istore 4, 2)) ∧ (decode cX3_recurs 42 = .ok (.iconst 1, 1)) ∧ (decode cX3_recurs 43 = .ok (.istore 5, 2)) ∧ (decode cX3_recurs 45 = .ok (.iload 5, 2)) ∧ (decode cX3_recurs 47 = .ok (.iload_n 3, 1)) ∧ (decode cX3_recurs 48 = .ok (.if_icmp .gt 46, 3)) ∧ (decode cX3_recurs 51 = .ok (.iload 4, 2)) ∧ (decode cX3_recurs 53 = .ok (.aload_n 0, 1)) ∧ (decode cX3_recurs 54 = .ok (.getfield 11, 3)) ∧ (decode cX3_recurs 57 = .ok (.iload_n 1, 1)) := by decide +kernel
theorem dX3_recurs_30 : decode cX3_recurs 30 = .ok (.iconst 0, 1) := db3_62.1
theorem dX3_recurs_31 : decode cX3_recurs 31 = .ok (.invokevirtual 77, 3) := db3_62.2.1
theorem dX3_recurs_34 : decode cX3_recurs 34 = .ok (.ifCond .eq 5, 3) := db3_62.2.2.1
theorem dX3_recurs_37 : decode cX3_recurs 37 = .ok (.iconst 0, 1) := db3_62.2.2.2.1
theorem dX3_recurs_38 : decode cX3_recurs 38 = .ok (.ireturn, 1) := db3_62.2.2.2.2.1
theorem dX3_recurs_39 : decode cX3_recurs 39 = .ok (.iconst 0, 1) := db3_62.2.2.2.2.2.1
theorem dX3_recurs_40 : decode cX3_recurs 40 = .ok (.istore 4, 2) := db3_62.2.2.2.2.2.2.1
theorem dX3_recurs_42 : decode cX3_recurs 42 = .ok (.iconst 1, 1) := db3_62.2.2.2.2.2.2.2.1
theorem dX3_recurs_43 : decode cX3_recurs 43 = .ok (.istore 5, 2) := db3_62.2.2.2.2.2.2.2.2.1
theorem dX3_recurs_45 : decode cX3_recurs 45 = .ok (.iload 5, 2) := db3_62.2.2.2.2.2.2.2.2.2.1
theorem dX3_recurs_47 : decode cX3_recurs 47 = .ok (.iload_n 3, 1) := db3_62.2.2.2.2.2.2.2.2.2.2.1
theorem dX3_recurs_48 : decode cX3_recurs 48 = .ok (.if_icmp .gt 46, 3) := db3_62.2.2.2.2.2.2.2.2.2.2.2.1
theorem dX3_recurs_51 : decode cX3_recurs 51 = .ok (.iload 4, 2) := db3_62.2.2.2.2.2.2.2.2.2.2.2.2.1
theorem dX3_recurs_53 : decode cX3_recurs 53 = .ok (.aload_n 0, 1) := db3_62.2.2.2.2.2.2.2.2.2.2.2.2.2.1
theorem dX3_recurs_54 : decode cX3_recurs 54 = .ok (.getfield 11, 3) := db3_62.2.2.2.2.2.2.2.2.2.2.2.2.2.2.1
theorem dX3_recurs_57 : decode cX3_recurs 57 = .ok (.iload_n 1, 1) := db3_62.2.2.2.2.2.2.2.2.2.2.2.2.2.2.2
theorem db3_63 : (decode cX3_recurs 58 = .ok (.aaload, 1)) ∧ (decode cX3_recurs 59 = .ok (.bipush 12, 2)) ∧ (decode cX3_recurs 61 = .ok (.iload 5, 2)) ∧ (decode cX3_recurs 63 = .ok (.imul, 1)) ∧ (decode cX3_recurs 64 = .ok (.invokestatic 99, 3)) ∧ (decode cX3_recurs 67 = .ok (.invokestatic 64, 3)) ∧ (decode cX3_recurs 70 = .ok (.invokestatic 88, 3)) ∧ (decode cX3_recurs 73 = .ok (.iload_n 2, 1)) ∧ (decode cX3_recurs 74 = .ok (.if_icmp .ne 7, 3)) ∧ (decode cX3_recurs 77 = .ok (.iconst 1, 1)) ∧ (decode cX3_recurs 78 = .ok (.goto 4, 3)) ∧ (decode cX3_recurs 81 = .ok (.iconst 0, 1)) ∧ (decode cX3_recurs 82 = .ok (.invokestatic 121, 3)) ∧ (decode cX3_recurs 85 = .ok (.iadd, 1)) ∧ (decode cX3_recurs 86 = .ok (.istore 4, 2)) ∧ (decode cX3_recurs 88 = .ok (.iinc 5 1, 3)) := by decide +kernel
theorem dX3_recurs_58 : decode cX3_recurs 58 = .ok (.aaload, 1) := db3_63.1
theorem dX3_recurs_59 : decode cX3_recurs 59 = .ok (.bipush 12, 2) := db3_63.2.1
theorem dX3_recurs_61 : decode cX3_recurs 61 = .ok (.iload 5, 2) := db3_63.2.2.1
theorem dX3_recurs_63 : decode cX3_recurs 63 = .ok (.imul, 1) := db3_63.2.2.2.1
theorem dX3_recurs_64 : decode cX3_recurs 64 = .ok (.invokestatic 99, 3) := db3_63.2.2.2.2.1
theorem dX3_recurs_67 : decode cX3_recurs 67 = .ok (.invokestatic 64, 3) := db3_63.2.2.2.2.2.1
theorem dX3_recurs_70 : decode cX3_recurs 70 = .ok (.invokestatic 88, 3) := db3_63.2.2.2.2.2.2.1
theorem dX3_recurs_73 : decode cX3_recurs 73 = .ok (.iload_n 2, 1) := db3_63.2.2.2.2.2.2.2.1
theorem dX3_recurs_74 : decode cX3_recurs 74 = .ok (.if_icmp .ne 7, 3) := db3_63.2.2.2.2.2.2.2.2.1
theorem dX3_recurs_77 : decode cX3_recurs 77 = .ok (.iconst 1, 1) := db3_63.2.2.2.2.2.2.2.2.2.1
theorem dX3_recurs_78 : decode cX3_recurs 78 = .ok (.goto 4, 3) := db3_63.2.2.2.2.2.2.2.2.2.2.1
theorem dX3_recurs_81 : decode cX3_recurs 81 = .ok (.iconst 0, 1) := db3_63.2.2.2.2.2.2.2.2.2.2.2.1
theorem dX3_recurs_82 : decode cX3_recurs 82 = .ok (.invokestatic 121, 3) := db3_63.2.2.2.2.2.2.2.2.2.2.2.2.1
theorem dX3_recurs_85 : decode cX3_recurs 85 = .ok (.iadd, 1) := db3_63.2.2.2.2.2.2.2.2.2.2.2.2.2.1
theorem dX3_recurs_86 : decode cX3_recurs 86 = .ok (.istore 4, 2) := db3_63.2.2.2.2.2.2.2.2.2.2.2.2.2.2.1
theorem dX3_recurs_88 : decode cX3_recurs 88 = .ok (.iinc 5 1, 3) := db3_63.2.2.2.2.2.2.2.2.2.2.2.2.2.2.2
theorem db3_64 : (decode cX3_recurs 91 = .ok (.goto (-46), 3)) ∧ (decode cX3_recurs 94 = .ok (.iload 4, 2)) ∧ (decode cX3_recurs 96 = .ok (.ireturn, 1)) := by decide +kernel
theorem dX3_recurs_91 : decode cX3_recurs 91 = .ok (.goto (-46), 3) := db3_64.1
theorem dX3_recurs_94 : decode cX3_recurs 94 = .ok (.iload 4, 2) := db3_64.2.1
theorem dX3_recurs_96 : decode cX3_recurs 96 = .ok (.ireturn, 1) := db3_64.2.2
theorem db3_65 : (decode cX3_age 0 = .ok (.aload_n 0, 1)) ∧ (decode cX3_age 1 = .ok (.iload_n 1, 1)) ∧ (decode cX3_age 2 = .ok (.iload_n 2, 1)) ∧ (decode cX3_age 3 = .ok (.invokestatic 93, 3)) ∧ (decode cX3_age 6 = .ok (.iload_n 1, 1)) ∧ (decode cX3_age 7 = .ok (.iload_n 2, 1)) ∧ (decode cX3_age 8 = .ok (.invokestatic 93, 3)) ∧ (decode cX3_age 11 = .ok (.ifCond .ne 16, 3)) ∧ (decode cX3_age 14 = .ok (.aload_n 0, 1)) ∧ (decode cX3_age 15 = .ok (.iload_n 2, 1)) ∧ (decode cX3_age 16 = .ok (.iload_n 1, 1)) ∧ (decode cX3_age 17 = .ok (.invokevirtual 125, 3)) ∧ (decode cX3_age 20 = .ok (.ifCond .eq 7, 3)) ∧ (decode cX3_age 23 = .ok (.iconst 1, 1)) ∧ (decode cX3_age 24 = .ok (.goto 4, 3)) ∧ (decode cX3_age 27 = .ok (.iconst 0, 1)) := by decide +kernel
theorem dX3_age_0 : decode cX3_age 0 = .ok (.aload_n 0, 1) := db3_65.1
theorem dX3_age_1 : decode cX3_age 1 = .ok (.iload_n 1, 1) := db3_65.2.1
theorem dX3_age_2 : decode cX3_age 2 = .ok (.iload_n 2, 1) := db3_65.2.2.1
theorem dX3_age_3 : decode cX3_age 3 = .ok (.invokestatic 93, 3) := db3_65.2.2.2.1
theorem dX3_age_6 : decode cX3_age 6 = .ok (.iload_n 1, 1) := db3_65.2.2.2.2.1
theorem dX3_age_7 : decode cX3_age 7 = .ok (.iload_n 2, 1) := db3_65.2.2.2.2.2.1
theorem dX3_age_8 : decode cX3_age 8 = .ok (.invokestatic 93, 3) := db3_65.2.2.2.2.2.2.1
theorem dX3_age_11 : decode cX3_age 11 = .ok (.ifCond .ne 16, 3) := db3_65.2.2.2.2.2.2.2.1
theorem dX3_age_14 : decode cX3_age 14 = .ok (.aload_n 0, 1) := db3_65.2.2.2.2.2.2.2.2.1
theorem dX3_age_15 : decode cX3_age 15 = .ok (.iload_n 2, 1) := db3_65.2.2.2.2.2.2.2.2.2.1
theorem dX3_age_16 : decode cX3_age 16 = .ok (.iload_n 1, 1) := db3_65.2.2.2.2.2.2.2.2.2.2.1
theorem dX3_age_17 : decode cX3_age 17 = .ok (.invokevirtual 125, 3) := db3_65.2.2.2.2.2.2.2.2.2.2.2.1
theorem dX3_age_20 : decode cX3_age 20 = .ok (.ifCond .eq 7, 3) := db3_65.2.2.2.2.2.2.2.2.2.2.2.2.1
theorem dX3_age_23 : decode cX3_age 23 = .ok (.iconst 1, 1) := db3_65.2.2.2.2.2.2.2.2.2.2.2.2.2.1
theorem dX3_age_24 : decode cX3_age 24 = .ok (.goto 4, 3) := db3_65.2.2.2.2.2.2.2.2.2.2.2.2.2.2.1
theorem dX3_age_27 : decode cX3_age 27 = .ok (.iconst 0, 1) := db3_65.2.2.2.2.2.2.2.2.2.2.2.2.2.2.2
theorem db3_66 : (decode cX3_age 28 = .ok (.iconst 0, 1)) ∧ (decode cX3_age 29 = .ok (.invokevirtual 77, 3)) ∧ (decode cX3_age 32 = .ok (.ifCond .eq 7, 3)) ∧ (decode cX3_age 35 = .ok (.iconst 0, 1)) ∧ (decode cX3_age 36 = .ok (.goto 21, 3)) ∧ (decode cX3_age 39 = .ok (.aload_n 0, 1)) ∧ (decode cX3_age 40 = .ok (.getfield 11, 3)) ∧ (decode cX3_age 43 = .ok (.iload_n 1, 1)) ∧ (decode cX3_age 44 = .ok (.aaload, 1)) ∧ (decode cX3_age 45 = .ok (.aload_n 0, 1)) ∧ (decode cX3_age 46 = .ok (.getfield 11, 3)) ∧ (decode cX3_age 49 = .ok (.iload_n 2, 1)) ∧ (decode cX3_age 50 = .ok (.aaload, 1)) ∧ (decode cX3_age 51 = .ok (.invokestatic 128, 3)) ∧ (decode cX3_age 54 = .ok (.bipush 12, 2)) ∧ (decode cX3_age 56 = .ok (.idiv, 1)) := by decide +kernel
theorem dX3_age_28 : decode cX3_age 28 = .ok (.iconst 0, 1) := db3_66.1
theorem dX3_age_29 : decode cX3_age 29 = .ok (.invokevirtual 77, 3) := db3_66.2.1
theorem dX3_age_32 : decode cX3_age 32 = .ok (.ifCond .eq 7, 3) := db3_66.2.2.1
theorem dX3_age_35 : decode cX3_age 35 = .ok (.iconst 0, 1) := db3_66.2.2.2.1
theorem dX3_age_36 : decode cX3_age 36 = .ok (.goto 21, 3) := db3_66.2.2.2.2.1
theorem dX3_age_39 : decode cX3_age 39 = .ok (.aload_n 0, 1) := db3_66.2.2.2.2.2.1
theorem dX3_age_40 : decode cX3_age 40 = .ok (.getfield 11, 3) := db3_66.2.2.2.2.2.2.1
theorem dX3_age_43 : decode cX3_age 43 = .ok (.iload_n 1, 1) := db3_66.2.2.2.2.2.2.2.1
theorem dX3_age_44 : decode cX3_age 44 = .ok (.aaload, 1) := db3_66.2.2.2.2.2.2.2.2.1
theorem dX3_age_45 : decode cX3_age 45 = .ok (.aload_n 0, 1) := db3_66.2.2.2.2.2.2.2.2.2.1
theorem dX3_age_46 : decode cX3_age 46 = .ok (.getfield 11, 3) := db3_66.2.2.2.2.2.2.2.2.2.2.1
theorem dX3_age_49 : decode cX3_age 49 = .ok (.iload_n 2, 1) := db3_66.2.2.2.2.2.2.2.2.2.2.2.1
theorem dX3_age_50 : decode cX3_age 50 = .ok (.aaload, 1) := db3_66.2.2.2.2.2.2.2.2.2.2.2.2.1
theorem dX3_age_51 : decode cX3_age 51 = .ok (.invokestatic 128, 3) := db3_66.2.2.2.2.2.2.2.2.2.2.2.2.2.1
theorem dX3_age_54 : decode cX3_age 54 = .ok (.bipush 12, 2) := db3_66.2.2.2.2.2.2.2.2.2.2.2.2.2.2.1
theorem dX3_age_56 : decode cX3_age 56 = .ok (.idiv, 1) := db3_66.2.2.2.2.2.2.2.2.2.2.2.2.2.2.2
theorem dX3_age_57 : decode cX3_age 57 = .ok (.ireturn, 1) := by decide +kernel
theorem db3_67 : (decode cX3_anniversary 0 = .ok (.aload_n 0, 1)) ∧ (decode cX3_anniversary 1 = .ok (.getfield 11, 3)) ∧ (decode cX3_anniversary 4 = .ok (.iload_n 1, 1)) ∧ (decode cX3_anniversary 5 = .ok (.aaload, 1)) ∧ (decode cX3_anniversary 6 = .ok (.astore 4, 2)) ∧ (decode cX3_anniversary 8 = .ok (.aload 4, 2)) ∧ (decode cX3_anniversary 10 = .ok (.iconst 0, 1)) ∧ (decode cX3_anniversary 11 = .ok (.iaload, 1)) ∧ (decode cX3_anniversary 12 = .ok (.bipush 12, 2)) ∧ (decode cX3_anniversary 14 = .ok (.iload_n 2, 1)) ∧ (decode cX3_anniversary 15 = .ok (.imul, 1)) ∧ (decode cX3_anniversary 16 = .ok (.iadd, 1)) ∧ (decode cX3_anniversary 17 = .ok (.istore 5, 2)) ∧ (decode cX3_anniversary 19 = .ok (.aload 4, 2)) ∧ (decode cX3_anniversary 21 = .ok (.iconst 1, 1)) ∧ (decode cX3_anniversary 22 = .ok (.iaload, 1)) := by decide +kernel
theorem dX3_anniversary_0 : decode cX3_anniversary 0 = .ok (.aload_n 0, 1) := db3_67.1
theorem dX3_anniversary_1 : decode cX3_anniversary 1 = .ok (.getfield 11, 3) := db3_67.2.1
theorem dX3_anniversary_4 : decode cX3_anniversary 4 = .ok (.iload_n 1, 1) := db3_67.2.2.1
theorem dX3_anniversary_5 : decode cX3_anniversary 5 = .ok (.aaload, 1) := db3_67.2.2.2.1
theorem dX3_anniversary_6 : decode cX3_anniversary 6 = .ok (.astore 4, 2) := db3_67.2.2.2.2.1
theorem dX3_anniversary_8 : decode cX3_anniversary 8 = .ok (.aload 4, 2) := db3_67.2.2.2.2.2.1
theorem dX3_anniversary_10 : decode cX3_anniversary 10 = .ok (.iconst 0, 1) := db3_67.2.2.2.2.2.2.1
theorem dX3_anniversary_11 : decode cX3_anniversary 11 = .ok (.iaload, 1) := db3_67.2.2.2.2.2.2.2.1
theorem dX3_anniversary_12 : decode cX3_anniversary 12 = .ok (.bipush 12, 2) := db3_67.2.2.2.2.2.2.2.2.1
theorem dX3_anniversary_14 : decode cX3_anniversary 14 = .ok (.iload_n 2, 1) := db3_67.2.2.2.2.2.2.2.2.2.1
theorem dX3_anniversary_15 : decode cX3_anniversary 15 = .ok (.imul, 1) := db3_67.2.2.2.2.2.2.2.2.2.2.1
theorem dX3_anniversary_16 : decode cX3_anniversary 16 = .ok (.iadd, 1) := db3_67.2.2.2.2.2.2.2.2.2.2.2.1
theorem dX3_anniversary_17 : decode cX3_anniversary 17 = .ok (.istore 5, 2) := db3_67.2.2.2.2.2.2.2.2.2.2.2.2.1
theorem dX3_anniversary_19 : decode cX3_anniversary 19 = .ok (.aload 4, 2) := db3_67.2.2.2.2.2.2.2.2.2.2.2.2.2.1
theorem dX3_anniversary_21 : decode cX3_anniversary 21 = .ok (.iconst 1, 1) := db3_67.2.2.2.2.2.2.2.2.2.2.2.2.2.2.1
theorem dX3_anniversary_22 : decode cX3_anniversary 22 = .ok (.iaload, 1) := db3_67.2.2.2.2.2.2.2.2.2.2.2.2.2.2.2
theorem db3_68 : (decode cX3_anniversary 23 = .ok (.iload 5, 2)) ∧ (decode cX3_anniversary 25 = .ok (.invokestatic 54, 3)) ∧ (decode cX3_anniversary 28 = .ok (.if_icmp .gt 16, 3)) ∧ (decode cX3_anniversary 31 = .ok (.iload 5, 2)) ∧ (decode cX3_anniversary 33 = .ok (.invokestatic 57, 3)) ∧ (decode cX3_anniversary 36 = .ok (.aload 4, 2)) ∧ (decode cX3_anniversary 38 = .ok (.iconst 1, 1)) ∧ (decode cX3_anniversary 39 = .ok (.iaload, 1)) ∧ (decode cX3_anniversary 40 = .ok (.iadd, 1)) ∧ (decode cX3_anniversary 41 = .ok (.iconst 1, 1)) ∧ (decode cX3_anniversary 42 = .ok (.isub, 1)) ∧ (decode cX3_anniversary 43 = .ok (.ireturn, 1)) ∧ (decode cX3_anniversary 44 = .ok (.iload_n 3, 1)) ∧ (decode cX3_anniversary 45 = .ok (.ifCond .eq 13, 3)) ∧ (decode cX3_anniversary 48 = .ok (.iload 5, 2)) ∧ (decode cX3_anniversary 50 = .ok (.iconst 1, 1)) := by decide +kernel
theorem dX3_anniversary_23 : decode cX3_anniversary 23 = .ok (.iload 5, 2) := db3_68.1
theorem dX3_anniversary_25 : decode cX3_anniversary 25 = .ok (.invokestatic 54, 3) := db3_68.2.1
theorem dX3_anniversary_28 : decode cX3_anniversary 28 = .ok (.if_icmp .gt 16, 3) := db3_68.2.2.1
theorem dX3_anniversary_31 : decode cX3_anniversary 31 = .ok (.iload 5, 2) := db3_68.2.2.2.1
theorem dX3_anniversary_33 : decode cX3_anniversary 33 = .ok (.invokestatic 57, 3) := db3_68.2.2.2.2.1
theorem dX3_anniversary_36 : decode cX3_anniversary 36 = .ok (.aload 4, 2) := db3_68.2.2.2.2.2.1
theorem dX3_anniversary_38 : decode cX3_anniversary 38 = .ok (.iconst 1, 1) := db3_68.2.2.2.2.2.2.1
theorem dX3_anniversary_39 : decode cX3_anniversary 39 = .ok (.iaload, 1) := db3_68.2.2.2.2.2.2.2.1
theorem dX3_anniversary_40 : decode cX3_anniversary 40 = .ok (.iadd, 1) := db3_68.2.2.2.2.2.2.2.2.1
theorem dX3_anniversary_41 : decode cX3_anniversary 41 = .ok (.iconst 1, 1) := db3_68.2.2.2.2.2.2.2.2.2.1
theorem dX3_anniversary_42 : decode cX3_anniversary 42 = .ok (.isub, 1) := db3_68.2.2.2.2.2.2.2.2.2.2.1
theorem dX3_anniversary_43 : decode cX3_anniversary 43 = .ok (.ireturn, 1) := db3_68.2.2.2.2.2.2.2.2.2.2.2.1
theorem dX3_anniversary_44 : decode cX3_anniversary 44 = .ok (.iload_n 3, 1) := db3_68.2.2.2.2.2.2.2.2.2.2.2.2.1
theorem dX3_anniversary_45 : decode cX3_anniversary 45 = .ok (.ifCond .eq 13, 3) := db3_68.2.2.2.2.2.2.2.2.2.2.2.2.2.1
theorem dX3_anniversary_48 : decode cX3_anniversary 48 = .ok (.iload 5, 2) := db3_68.2.2.2.2.2.2.2.2.2.2.2.2.2.2.1
theorem dX3_anniversary_50 : decode cX3_anniversary 50 = .ok (.iconst 1, 1) := db3_68.2.2.2.2.2.2.2.2.2.2.2.2.2.2.2
theorem db3_69 : (decode cX3_anniversary 51 = .ok (.iadd, 1)) ∧ (decode cX3_anniversary 52 = .ok (.invokestatic 57, 3)) ∧ (decode cX3_anniversary 55 = .ok (.goto 11, 3)) ∧ (decode cX3_anniversary 58 = .ok (.iload 5, 2)) ∧ (decode cX3_anniversary 60 = .ok (.invokestatic 57, 3)) ∧ (decode cX3_anniversary 63 = .ok (.bipush 27, 2)) ∧ (decode cX3_anniversary 65 = .ok (.iadd, 1)) ∧ (decode cX3_anniversary 66 = .ok (.ireturn, 1)) := by decide +kernel
theorem dX3_anniversary_51 : decode cX3_anniversary 51 = .ok (.iadd, 1) := db3_69.1
theorem dX3_anniversary_52 : decode cX3_anniversary 52 = .ok (.invokestatic 57, 3) := db3_69.2.1
theorem dX3_anniversary_55 : decode cX3_anniversary 55 = .ok (.goto 11, 3) := db3_69.2.2.1
theorem dX3_anniversary_58 : decode cX3_anniversary 58 = .ok (.iload 5, 2) := db3_69.2.2.2.1
theorem dX3_anniversary_60 : decode cX3_anniversary 60 = .ok (.invokestatic 57, 3) := db3_69.2.2.2.2.1
theorem dX3_anniversary_63 : decode cX3_anniversary 63 = .ok (.bipush 27, 2) := db3_69.2.2.2.2.2.1
theorem dX3_anniversary_65 : decode cX3_anniversary 65 = .ok (.iadd, 1) := db3_69.2.2.2.2.2.2.1
theorem dX3_anniversary_66 : decode cX3_anniversary 66 = .ok (.ireturn, 1) := db3_69.2.2.2.2.2.2.2
theorem db3_70 : (decode cX3_isFar 0 = .ok (.aload_n 0, 1)) ∧ (decode cX3_isFar 1 = .ok (.iload_n 2, 1)) ∧ (decode cX3_isFar 2 = .ok (.invokevirtual 85, 3)) ∧ (decode cX3_isFar 5 = .ok (.aload_n 0, 1)) ∧ (decode cX3_isFar 6 = .ok (.iload_n 1, 1)) ∧ (decode cX3_isFar 7 = .ok (.invokevirtual 85, 3)) ∧ (decode cX3_isFar 10 = .ok (.isub, 1)) ∧ (decode cX3_isFar 11 = .ok (.iconst 0, 1)) ∧ (decode cX3_isFar 12 = .ok (.ldc 215, 2)) ∧ (decode cX3_isFar 14 = .ok (.invokestatic 27, 3)) ∧ (decode cX3_isFar 17 = .ok (.ireturn, 1)) := by decide +kernel
theorem dX3_isFar_0 : decode cX3_isFar 0 = .ok (.aload_n 0, 1) := db3_70.1
theorem dX3_isFar_1 : decode cX3_isFar 1 = .ok (.iload_n 2, 1) := db3_70.2.1
theorem dX3_isFar_2 : decode cX3_isFar 2 = .ok (.invokevirtual 85, 3) := db3_70.2.2.1
theorem dX3_isFar_5 : decode cX3_isFar 5 = .ok (.aload_n 0, 1) := db3_70.2.2.2.1
theorem dX3_isFar_6 : decode cX3_isFar 6 = .ok (.iload_n 1, 1) := db3_70.2.2.2.2.1
theorem dX3_isFar_7 : decode cX3_isFar 7 = .ok (.invokevirtual 85, 3) := db3_70.2.2.2.2.2.1
theorem dX3_isFar_10 : decode cX3_isFar 10 = .ok (.isub, 1) := db3_70.2.2.2.2.2.2.1
theorem dX3_isFar_11 : decode cX3_isFar 11 = .ok (.iconst 0, 1) := db3_70.2.2.2.2.2.2.2.1
theorem dX3_isFar_12 : decode cX3_isFar 12 = .ok (.ldc 215, 2) := db3_70.2.2.2.2.2.2.2.2.1
theorem dX3_isFar_14 : decode cX3_isFar 14 = .ok (.invokestatic 27, 3) := db3_70.2.2.2.2.2.2.2.2.2.1
theorem dX3_isFar_17 : decode cX3_isFar 17 = .ok (.ireturn, 1) := db3_70.2.2.2.2.2.2.2.2.2.2
theorem db3_71 : (decode cX3_came 0 = .ok (.iconst 0, 1)) ∧ (decode cX3_came 1 = .ok (.istore 4, 2)) ∧ (decode cX3_came 3 = .ok (.aload_n 0, 1)) ∧ (decode cX3_came 4 = .ok (.iload_n 1, 1)) ∧ (decode cX3_came 5 = .ok (.iload 4, 2)) ∧ (decode cX3_came 7 = .ok (.iconst 1, 1)) ∧ (decode cX3_came 8 = .ok (.iadd, 1)) ∧ (decode cX3_came 9 = .ok (.iload_n 3, 1)) ∧ (decode cX3_came 10 = .ok (.invokevirtual 216, 3)) ∧ (decode cX3_came 13 = .ok (.aload_n 0, 1)) ∧ (decode cX3_came 14 = .ok (.iload_n 2, 1)) ∧ (decode cX3_came 15 = .ok (.invokevirtual 85, 3)) ∧ (decode cX3_came 18 = .ok (.if_icmp .gt 9, 3)) ∧ (decode cX3_came 21 = .ok (.iinc 4 1, 3)) ∧ (decode cX3_came 24 = .ok (.goto (-21), 3)) ∧ (decode cX3_came 27 = .ok (.iload 4, 2)) := by decide +kernel
theorem dX3_came_0 : decode cX3_came 0 = .ok (.iconst 0, 1) := db3_71.1
theorem dX3_came_1 : decode cX3_came 1 = .ok (.istore 4, 2) := db3_71.2.1
theorem dX3_came_3 : decode cX3_came 3 = .ok (.aload_n 0, 1) := db3_71.2.2.1
theorem dX3_came_4 : decode cX3_came 4 = .ok (.iload_n 1, 1) := db3_71.2.2.2.1
theorem dX3_came_5 : decode cX3_came 5 = .ok (.iload 4, 2) := db3_71.2.2.2.2.1
theorem dX3_came_7 : decode cX3_came 7 = .ok (.iconst 1, 1) := db3_71.2.2.2.2.2.1
theorem dX3_came_8 : decode cX3_came 8 = .ok (.iadd, 1) := db3_71.2.2.2.2.2.2.1
theorem dX3_came_9 : decode cX3_came 9 = .ok (.iload_n 3, 1) := db3_71.2.2.2.2.2.2.2.1
theorem dX3_came_10 : decode cX3_came 10 = .ok (.invokevirtual 216, 3) := db3_71.2.2.2.2.2.2.2.2.1
theorem dX3_came_13 : decode cX3_came 13 = .ok (.aload_n 0, 1) := db3_71.2.2.2.2.2.2.2.2.2.1
theorem dX3_came_14 : decode cX3_came 14 = .ok (.iload_n 2, 1) := db3_71.2.2.2.2.2.2.2.2.2.2.1
theorem dX3_came_15 : decode cX3_came 15 = .ok (.invokevirtual 85, 3) := db3_71.2.2.2.2.2.2.2.2.2.2.2.1
theorem dX3_came_18 : decode cX3_came 18 = .ok (.if_icmp .gt 9, 3) := db3_71.2.2.2.2.2.2.2.2.2.2.2.2.1
theorem dX3_came_21 : decode cX3_came 21 = .ok (.iinc 4 1, 3) := db3_71.2.2.2.2.2.2.2.2.2.2.2.2.2.1
theorem dX3_came_24 : decode cX3_came 24 = .ok (.goto (-21), 3) := db3_71.2.2.2.2.2.2.2.2.2.2.2.2.2.2.1
theorem dX3_came_27 : decode cX3_came 27 = .ok (.iload 4, 2) := db3_71.2.2.2.2.2.2.2.2.2.2.2.2.2.2.2
theorem dX3_came_29 : decode cX3_came 29 = .ok (.ireturn, 1) := by decide +kernel
theorem db3_72 : (decode cX3_no 0 = .ok (.aload_n 0, 1)) ∧ (decode cX3_no 1 = .ok (.dup, 1)) ∧ (decode cX3_no 2 = .ok (.getfield 220, 3)) ∧ (decode cX3_no 5 = .ok (.iconst 1, 1)) ∧ (decode cX3_no 6 = .ok (.iadd, 1)) ∧ (decode cX3_no 7 = .ok (.putfield 220, 3)) ∧ (decode cX3_no 10 = .ok (.bipush (-9), 2)) ∧ (decode cX3_no 12 = .ok (.ireturn, 1)) := by decide +kernel
theorem dX3_no_0 : decode cX3_no 0 = .ok (.aload_n 0, 1) := db3_72.1
theorem dX3_no_1 : decode cX3_no 1 = .ok (.dup, 1) := db3_72.2.1
theorem dX3_no_2 : decode cX3_no 2 = .ok (.getfield 220, 3) := db3_72.2.2.1
theorem dX3_no_5 : decode cX3_no 5 = .ok (.iconst 1, 1) := db3_72.2.2.2.1
theorem dX3_no_6 : decode cX3_no 6 = .ok (.iadd, 1) := db3_72.2.2.2.2.1
theorem dX3_no_7 : decode cX3_no 7 = .ok (.putfield 220, 3) := db3_72.2.2.2.2.2.1
theorem dX3_no_10 : decode cX3_no 10 = .ok (.bipush (-9), 2) := db3_72.2.2.2.2.2.2.1
theorem dX3_no_12 : decode cX3_no 12 = .ok (.ireturn, 1) := db3_72.2.2.2.2.2.2.2
theorem db3_73 : (decode cX3_anniversaries 0 = .ok (.aload_n 0, 1)) ∧ (decode cX3_anniversaries 1 = .ok (.iload_n 1, 1)) ∧ (decode cX3_anniversaries 2 = .ok (.iload_n 2, 1)) ∧ (decode cX3_anniversaries 3 = .ok (.invokestatic 93, 3)) ∧ (decode cX3_anniversaries 6 = .ok (.iconst 0, 1)) ∧ (decode cX3_anniversaries 7 = .ok (.iconst 0, 1)) ∧ (decode cX3_anniversaries 8 = .ok (.invokevirtual 77, 3)) ∧ (decode cX3_anniversaries 11 = .ok (.ifCond .eq 5, 3)) ∧ (decode cX3_anniversaries 14 = .ok (.iconst 0, 1)) ∧ (decode cX3_anniversaries 15 = .ok (.ireturn, 1)) ∧ (decode cX3_anniversaries 16 = .ok (.aload_n 0, 1)) ∧ (decode cX3_anniversaries 17 = .ok (.iload_n 1, 1)) ∧ (decode cX3_anniversaries 18 = .ok (.iload_n 2, 1)) ∧ (decode cX3_anniversaries 19 = .ok (.invokevirtual 223, 3)) ∧ (decode cX3_anniversaries 22 = .ok (.ifCond .eq 10, 3)) ∧ (decode cX3_anniversaries 25 = .ok (.aload_n 0, 1)) := by decide +kernel
theorem dX3_anniversaries_0 : decode cX3_anniversaries 0 = .ok (.aload_n 0, 1) := db3_73.1
theorem dX3_anniversaries_1 : decode cX3_anniversaries 1 = .ok (.iload_n 1, 1) := db3_73.2.1
theorem dX3_anniversaries_2 : decode cX3_anniversaries 2 = .ok (.iload_n 2, 1) := db3_73.2.2.1
theorem dX3_anniversaries_3 : decode cX3_anniversaries 3 = .ok (.invokestatic 93, 3) := db3_73.2.2.2.1
theorem dX3_anniversaries_6 : decode cX3_anniversaries 6 = .ok (.iconst 0, 1) := db3_73.2.2.2.2.1
theorem dX3_anniversaries_7 : decode cX3_anniversaries 7 = .ok (.iconst 0, 1) := db3_73.2.2.2.2.2.1
theorem dX3_anniversaries_8 : decode cX3_anniversaries 8 = .ok (.invokevirtual 77, 3) := db3_73.2.2.2.2.2.2.1
theorem dX3_anniversaries_11 : decode cX3_anniversaries 11 = .ok (.ifCond .eq 5, 3) := db3_73.2.2.2.2.2.2.2.1
theorem dX3_anniversaries_14 : decode cX3_anniversaries 14 = .ok (.iconst 0, 1) := db3_73.2.2.2.2.2.2.2.2.1
theorem dX3_anniversaries_15 : decode cX3_anniversaries 15 = .ok (.ireturn, 1) := db3_73.2.2.2.2.2.2.2.2.2.1
theorem dX3_anniversaries_16 : decode cX3_anniversaries 16 = .ok (.aload_n 0, 1) := db3_73.2.2.2.2.2.2.2.2.2.2.1
theorem dX3_anniversaries_17 : decode cX3_anniversaries 17 = .ok (.iload_n 1, 1) := db3_73.2.2.2.2.2.2.2.2.2.2.2.1
theorem dX3_anniversaries_18 : decode cX3_anniversaries 18 = .ok (.iload_n 2, 1) := db3_73.2.2.2.2.2.2.2.2.2.2.2.2.1
theorem dX3_anniversaries_19 : decode cX3_anniversaries 19 = .ok (.invokevirtual 223, 3) := db3_73.2.2.2.2.2.2.2.2.2.2.2.2.2.1
theorem dX3_anniversaries_22 : decode cX3_anniversaries 22 = .ok (.ifCond .eq 10, 3) := db3_73.2.2.2.2.2.2.2.2.2.2.2.2.2.2.1
theorem dX3_anniversaries_25 : decode cX3_anniversaries 25 = .ok (.aload_n 0, 1) := db3_73.2.2.2.2.2.2.2.2.2.2.2.2.2.2.2
theorem db3_74 : (decode cX3_anniversaries 26 = .ok (.invokevirtual 226, 3)) ∧ (decode cX3_anniversaries 29 = .ok (.goto 10, 3)) ∧ (decode cX3_anniversaries 32 = .ok (.aload_n 0, 1)) ∧ (decode cX3_anniversaries 33 = .ok (.iload_n 1, 1)) ∧ (decode cX3_anniversaries 34 = .ok (.iload_n 2, 1)) ∧ (decode cX3_anniversaries 35 = .ok (.iload_n 3, 1)) ∧ (decode cX3_anniversaries 36 = .ok (.invokevirtual 229, 3)) ∧ (decode cX3_anniversaries 39 = .ok (.ireturn, 1)) := by decide +kernel
theorem dX3_anniversaries_26 : decode cX3_anniversaries 26 = .ok (.invokevirtual 226, 3) := db3_74.1
theorem dX3_anniversaries_29 : decode cX3_anniversaries 29 = .ok (.goto 10, 3) := db3_74.2.1
theorem dX3_anniversaries_32 : decode cX3_anniversaries 32 = .ok (.aload_n 0, 1) := db3_74.2.2.1
theorem dX3_anniversaries_33 : decode cX3_anniversaries 33 = .ok (.iload_n 1, 1) := db3_74.2.2.2.1
theorem dX3_anniversaries_34 : decode cX3_anniversaries 34 = .ok (.iload_n 2, 1) := db3_74.2.2.2.2.1
theorem dX3_anniversaries_35 : decode cX3_anniversaries 35 = .ok (.iload_n 3, 1) := db3_74.2.2.2.2.2.1
theorem dX3_anniversaries_36 : decode cX3_anniversaries 36 = .ok (.invokevirtual 229, 3) := db3_74.2.2.2.2.2.2.1
theorem dX3_anniversaries_39 : decode cX3_anniversaries 39 = .ok (.ireturn, 1) := db3_74.2.2.2.2.2.2.2
theorem db3_75 : (decode cX3_toNext 0 = .ok (.aload_n 0, 1)) ∧ (decode cX3_toNext 1 = .ok (.iload_n 1, 1)) ∧ (decode cX3_toNext 2 = .ok (.iload_n 2, 1)) ∧ (decode cX3_toNext 3 = .ok (.invokestatic 93, 3)) ∧ (decode cX3_toNext 6 = .ok (.iconst 0, 1)) ∧ (decode cX3_toNext 7 = .ok (.iconst 0, 1)) ∧ (decode cX3_toNext 8 = .ok (.invokevirtual 77, 3)) ∧ (decode cX3_toNext 11 = .ok (.ifCond .eq 5, 3)) ∧ (decode cX3_toNext 14 = .ok (.iconst 0, 1)) ∧ (decode cX3_toNext 15 = .ok (.ireturn, 1)) ∧ (decode cX3_toNext 16 = .ok (.aload_n 0, 1)) ∧ (decode cX3_toNext 17 = .ok (.iload_n 1, 1)) ∧ (decode cX3_toNext 18 = .ok (.iload_n 2, 1)) ∧ (decode cX3_toNext 19 = .ok (.invokevirtual 223, 3)) ∧ (decode cX3_toNext 22 = .ok (.ifCond .eq 10, 3)) ∧ (decode cX3_toNext 25 = .ok (.aload_n 0, 1)) := by decide +kernel
theorem dX3_toNext_0 : decode cX3_toNext 0 = .ok (.aload_n 0, 1) := db3_75.1
theorem dX3_toNext_1 : decode cX3_toNext 1 = .ok (.iload_n 1, 1) := db3_75.2.1
theorem dX3_toNext_2 : decode cX3_toNext 2 = .ok (.iload_n 2, 1) := db3_75.2.2.1
theorem dX3_toNext_3 : decode cX3_toNext 3 = .ok (.invokestatic 93, 3) := db3_75.2.2.2.1
theorem dX3_toNext_6 : decode cX3_toNext 6 = .ok (.iconst 0, 1) := db3_75.2.2.2.2.1
theorem dX3_toNext_7 : decode cX3_toNext 7 = .ok (.iconst 0, 1) := db3_75.2.2.2.2.2.1
theorem dX3_toNext_8 : decode cX3_toNext 8 = .ok (.invokevirtual 77, 3) := db3_75.2.2.2.2.2.2.1
theorem dX3_toNext_11 : decode cX3_toNext 11 = .ok (.ifCond .eq 5, 3) := db3_75.2.2.2.2.2.2.2.1
theorem dX3_toNext_14 : decode cX3_toNext 14 = .ok (.iconst 0, 1) := db3_75.2.2.2.2.2.2.2.2.1
theorem dX3_toNext_15 : decode cX3_toNext 15 = .ok (.ireturn, 1) := db3_75.2.2.2.2.2.2.2.2.2.1
theorem dX3_toNext_16 : decode cX3_toNext 16 = .ok (.aload_n 0, 1) := db3_75.2.2.2.2.2.2.2.2.2.2.1
theorem dX3_toNext_17 : decode cX3_toNext 17 = .ok (.iload_n 1, 1) := db3_75.2.2.2.2.2.2.2.2.2.2.2.1
theorem dX3_toNext_18 : decode cX3_toNext 18 = .ok (.iload_n 2, 1) := db3_75.2.2.2.2.2.2.2.2.2.2.2.2.1
theorem dX3_toNext_19 : decode cX3_toNext 19 = .ok (.invokevirtual 223, 3) := db3_75.2.2.2.2.2.2.2.2.2.2.2.2.2.1
theorem dX3_toNext_22 : decode cX3_toNext 22 = .ok (.ifCond .eq 10, 3) := db3_75.2.2.2.2.2.2.2.2.2.2.2.2.2.2.1
theorem dX3_toNext_25 : decode cX3_toNext 25 = .ok (.aload_n 0, 1) := db3_75.2.2.2.2.2.2.2.2.2.2.2.2.2.2.2
theorem db3_76 : (decode cX3_toNext 26 = .ok (.invokevirtual 226, 3)) ∧ (decode cX3_toNext 29 = .ok (.goto 24, 3)) ∧ (decode cX3_toNext 32 = .ok (.aload_n 0, 1)) ∧ (decode cX3_toNext 33 = .ok (.iload_n 1, 1)) ∧ (decode cX3_toNext 34 = .ok (.aload_n 0, 1)) ∧ (decode cX3_toNext 35 = .ok (.iload_n 1, 1)) ∧ (decode cX3_toNext 36 = .ok (.iload_n 2, 1)) ∧ (decode cX3_toNext 37 = .ok (.iload_n 3, 1)) ∧ (decode cX3_toNext 38 = .ok (.invokevirtual 229, 3)) ∧ (decode cX3_toNext 41 = .ok (.iconst 1, 1)) ∧ (decode cX3_toNext 42 = .ok (.iadd, 1)) ∧ (decode cX3_toNext 43 = .ok (.iload_n 3, 1)) ∧ (decode cX3_toNext 44 = .ok (.invokevirtual 216, 3)) ∧ (decode cX3_toNext 47 = .ok (.aload_n 0, 1)) ∧ (decode cX3_toNext 48 = .ok (.iload_n 2, 1)) ∧ (decode cX3_toNext 49 = .ok (.invokevirtual 85, 3)) := by decide +kernel
theorem dX3_toNext_26 : decode cX3_toNext 26 = .ok (.invokevirtual 226, 3) := db3_76.1
theorem dX3_toNext_29 : decode cX3_toNext 29 = .ok (.goto 24, 3) := db3_76.2.1
theorem dX3_toNext_32 : decode cX3_toNext 32 = .ok (.aload_n 0, 1) := db3_76.2.2.1
theorem dX3_toNext_33 : decode cX3_toNext 33 = .ok (.iload_n 1, 1) := db3_76.2.2.2.1
theorem dX3_toNext_34 : decode cX3_toNext 34 = .ok (.aload_n 0, 1) := db3_76.2.2.2.2.1
theorem dX3_toNext_35 : decode cX3_toNext 35 = .ok (.iload_n 1, 1) := db3_76.2.2.2.2.2.1
theorem dX3_toNext_36 : decode cX3_toNext 36 = .ok (.iload_n 2, 1) := db3_76.2.2.2.2.2.2.1
theorem dX3_toNext_37 : decode cX3_toNext 37 = .ok (.iload_n 3, 1) := db3_76.2.2.2.2.2.2.2.1
theorem dX3_toNext_38 : decode cX3_toNext 38 = .ok (.invokevirtual 229, 3) := db3_76.2.2.2.2.2.2.2.2.1
theorem dX3_toNext_41 : decode cX3_toNext 41 = .ok (.iconst 1, 1) := db3_76.2.2.2.2.2.2.2.2.2.1
theorem dX3_toNext_42 : decode cX3_toNext 42 = .ok (.iadd, 1) := db3_76.2.2.2.2.2.2.2.2.2.2.1
theorem dX3_toNext_43 : decode cX3_toNext 43 = .ok (.iload_n 3, 1) := db3_76.2.2.2.2.2.2.2.2.2.2.2.1
theorem dX3_toNext_44 : decode cX3_toNext 44 = .ok (.invokevirtual 216, 3) := db3_76.2.2.2.2.2.2.2.2.2.2.2.2.1
theorem dX3_toNext_47 : decode cX3_toNext 47 = .ok (.aload_n 0, 1) := db3_76.2.2.2.2.2.2.2.2.2.2.2.2.2.1
theorem dX3_toNext_48 : decode cX3_toNext 48 = .ok (.iload_n 2, 1) := db3_76.2.2.2.2.2.2.2.2.2.2.2.2.2.2.1
theorem dX3_toNext_49 : decode cX3_toNext 49 = .ok (.invokevirtual 85, 3) := db3_76.2.2.2.2.2.2.2.2.2.2.2.2.2.2.2
theorem db3_77 : (decode cX3_toNext 52 = .ok (.isub, 1)) ∧ (decode cX3_toNext 53 = .ok (.ireturn, 1)) := by decide +kernel
theorem dX3_toNext_52 : decode cX3_toNext 52 = .ok (.isub, 1) := db3_77.1
theorem dX3_toNext_53 : decode cX3_toNext 53 = .ok (.ireturn, 1) := db3_77.2
theorem db3_78 : (decode cX3_monthsNow 0 = .ok (.aload_n 0, 1)) ∧ (decode cX3_monthsNow 1 = .ok (.iload_n 2, 1)) ∧ (decode cX3_monthsNow 2 = .ok (.iload_n 1, 1)) ∧ (decode cX3_monthsNow 3 = .ok (.invokevirtual 125, 3)) ∧ (decode cX3_monthsNow 6 = .ok (.ifCond .eq 22, 3)) ∧ (decode cX3_monthsNow 9 = .ok (.aload_n 0, 1)) ∧ (decode cX3_monthsNow 10 = .ok (.getfield 11, 3)) ∧ (decode cX3_monthsNow 13 = .ok (.iload_n 2, 1)) ∧ (decode cX3_monthsNow 14 = .ok (.aaload, 1)) ∧ (decode cX3_monthsNow 15 = .ok (.aload_n 0, 1)) ∧ (decode cX3_monthsNow 16 = .ok (.getfield 11, 3)) ∧ (decode cX3_monthsNow 19 = .ok (.iload_n 1, 1)) ∧ (decode cX3_monthsNow 20 = .ok (.aaload, 1)) ∧ (decode cX3_monthsNow 21 = .ok (.invokestatic 128, 3)) ∧ (decode cX3_monthsNow 24 = .ok (.ineg, 1)) ∧ (decode cX3_monthsNow 25 = .ok (.goto 18, 3)) := by decide +kernel
theorem dX3_monthsNow_0 : decode cX3_monthsNow 0 = .ok (.aload_n 0, 1) := db3_78.1
theorem dX3_monthsNow_1 : decode cX3_monthsNow 1 = .ok (.iload_n 2, 1) := db3_78.2.1
theorem dX3_monthsNow_2 : decode cX3_monthsNow 2 = .ok (.iload_n 1, 1) := db3_78.2.2.1
theorem dX3_monthsNow_3 : decode cX3_monthsNow 3 = .ok (.invokevirtual 125, 3) := db3_78.2.2.2.1
theorem dX3_monthsNow_6 : decode cX3_monthsNow 6 = .ok (.ifCond .eq 22, 3) := db3_78.2.2.2.2.1
theorem dX3_monthsNow_9 : decode cX3_monthsNow 9 = .ok (.aload_n 0, 1) := db3_78.2.2.2.2.2.1
theorem dX3_monthsNow_10 : decode cX3_monthsNow 10 = .ok (.getfield 11, 3) := db3_78.2.2.2.2.2.2.1
theorem dX3_monthsNow_13 : decode cX3_monthsNow 13 = .ok (.iload_n 2, 1) := db3_78.2.2.2.2.2.2.2.1
theorem dX3_monthsNow_14 : decode cX3_monthsNow 14 = .ok (.aaload, 1) := db3_78.2.2.2.2.2.2.2.2.1
theorem dX3_monthsNow_15 : decode cX3_monthsNow 15 = .ok (.aload_n 0, 1) := db3_78.2.2.2.2.2.2.2.2.2.1
theorem dX3_monthsNow_16 : decode cX3_monthsNow 16 = .ok (.getfield 11, 3) := db3_78.2.2.2.2.2.2.2.2.2.2.1
theorem dX3_monthsNow_19 : decode cX3_monthsNow 19 = .ok (.iload_n 1, 1) := db3_78.2.2.2.2.2.2.2.2.2.2.2.1
theorem dX3_monthsNow_20 : decode cX3_monthsNow 20 = .ok (.aaload, 1) := db3_78.2.2.2.2.2.2.2.2.2.2.2.2.1
theorem dX3_monthsNow_21 : decode cX3_monthsNow 21 = .ok (.invokestatic 128, 3) := db3_78.2.2.2.2.2.2.2.2.2.2.2.2.2.1
theorem dX3_monthsNow_24 : decode cX3_monthsNow 24 = .ok (.ineg, 1) := db3_78.2.2.2.2.2.2.2.2.2.2.2.2.2.2.1
theorem dX3_monthsNow_25 : decode cX3_monthsNow 25 = .ok (.goto 18, 3) := db3_78.2.2.2.2.2.2.2.2.2.2.2.2.2.2.2
theorem db3_79 : (decode cX3_monthsNow 28 = .ok (.aload_n 0, 1)) ∧ (decode cX3_monthsNow 29 = .ok (.getfield 11, 3)) ∧ (decode cX3_monthsNow 32 = .ok (.iload_n 1, 1)) ∧ (decode cX3_monthsNow 33 = .ok (.aaload, 1)) ∧ (decode cX3_monthsNow 34 = .ok (.aload_n 0, 1)) ∧ (decode cX3_monthsNow 35 = .ok (.getfield 11, 3)) ∧ (decode cX3_monthsNow 38 = .ok (.iload_n 2, 1)) ∧ (decode cX3_monthsNow 39 = .ok (.aaload, 1)) ∧ (decode cX3_monthsNow 40 = .ok (.invokestatic 128, 3)) ∧ (decode cX3_monthsNow 43 = .ok (.ireturn, 1)) := by decide +kernel
theorem dX3_monthsNow_28 : decode cX3_monthsNow 28 = .ok (.aload_n 0, 1) := db3_79.1
theorem dX3_monthsNow_29 : decode cX3_monthsNow 29 = .ok (.getfield 11, 3) := db3_79.2.1
theorem dX3_monthsNow_32 : decode cX3_monthsNow 32 = .ok (.iload_n 1, 1) := db3_79.2.2.1
theorem dX3_monthsNow_33 : decode cX3_monthsNow 33 = .ok (.aaload, 1) := db3_79.2.2.2.1
theorem dX3_monthsNow_34 : decode cX3_monthsNow 34 = .ok (.aload_n 0, 1) := db3_79.2.2.2.2.1
theorem dX3_monthsNow_35 : decode cX3_monthsNow 35 = .ok (.getfield 11, 3) := db3_79.2.2.2.2.2.1
theorem dX3_monthsNow_38 : decode cX3_monthsNow 38 = .ok (.iload_n 2, 1) := db3_79.2.2.2.2.2.2.1
theorem dX3_monthsNow_39 : decode cX3_monthsNow 39 = .ok (.aaload, 1) := db3_79.2.2.2.2.2.2.2.1
theorem dX3_monthsNow_40 : decode cX3_monthsNow 40 = .ok (.invokestatic 128, 3) := db3_79.2.2.2.2.2.2.2.2.1
theorem dX3_monthsNow_43 : decode cX3_monthsNow 43 = .ok (.ireturn, 1) := db3_79.2.2.2.2.2.2.2.2.2
theorem db3_80 : (decode cX3_wholeMonths 0 = .ok (.aload_n 0, 1)) ∧ (decode cX3_wholeMonths 1 = .ok (.iload_n 1, 1)) ∧ (decode cX3_wholeMonths 2 = .ok (.iload_n 2, 1)) ∧ (decode cX3_wholeMonths 3 = .ok (.invokestatic 93, 3)) ∧ (decode cX3_wholeMonths 6 = .ok (.iconst 0, 1)) ∧ (decode cX3_wholeMonths 7 = .ok (.iconst 0, 1)) ∧ (decode cX3_wholeMonths 8 = .ok (.invokevirtual 77, 3)) ∧ (decode cX3_wholeMonths 11 = .ok (.ifCond .eq 7, 3)) ∧ (decode cX3_wholeMonths 14 = .ok (.iconst 0, 1)) ∧ (decode cX3_wholeMonths 15 = .ok (.goto 9, 3)) ∧ (decode cX3_wholeMonths 18 = .ok (.aload_n 0, 1)) ∧ (decode cX3_wholeMonths 19 = .ok (.iload_n 1, 1)) ∧ (decode cX3_wholeMonths 20 = .ok (.iload_n 2, 1)) ∧ (decode cX3_wholeMonths 21 = .ok (.invokevirtual 232, 3)) ∧ (decode cX3_wholeMonths 24 = .ok (.ireturn, 1)) := by decide +kernel
theorem dX3_wholeMonths_0 : decode cX3_wholeMonths 0 = .ok (.aload_n 0, 1) := db3_80.1
theorem dX3_wholeMonths_1 : decode cX3_wholeMonths 1 = .ok (.iload_n 1, 1) := db3_80.2.1
theorem dX3_wholeMonths_2 : decode cX3_wholeMonths 2 = .ok (.iload_n 2, 1) := db3_80.2.2.1
theorem dX3_wholeMonths_3 : decode cX3_wholeMonths 3 = .ok (.invokestatic 93, 3) := db3_80.2.2.2.1
theorem dX3_wholeMonths_6 : decode cX3_wholeMonths 6 = .ok (.iconst 0, 1) := db3_80.2.2.2.2.1
theorem dX3_wholeMonths_7 : decode cX3_wholeMonths 7 = .ok (.iconst 0, 1) := db3_80.2.2.2.2.2.1
theorem dX3_wholeMonths_8 : decode cX3_wholeMonths 8 = .ok (.invokevirtual 77, 3) := db3_80.2.2.2.2.2.2.1
theorem dX3_wholeMonths_11 : decode cX3_wholeMonths 11 = .ok (.ifCond .eq 7, 3) := db3_80.2.2.2.2.2.2.2.1
theorem dX3_wholeMonths_14 : decode cX3_wholeMonths 14 = .ok (.iconst 0, 1) := db3_80.2.2.2.2.2.2.2.2.1
theorem dX3_wholeMonths_15 : decode cX3_wholeMonths 15 = .ok (.goto 9, 3) := db3_80.2.2.2.2.2.2.2.2.2.1
theorem dX3_wholeMonths_18 : decode cX3_wholeMonths 18 = .ok (.aload_n 0, 1) := db3_80.2.2.2.2.2.2.2.2.2.2.1
theorem dX3_wholeMonths_19 : decode cX3_wholeMonths 19 = .ok (.iload_n 1, 1) := db3_80.2.2.2.2.2.2.2.2.2.2.2.1
theorem dX3_wholeMonths_20 : decode cX3_wholeMonths 20 = .ok (.iload_n 2, 1) := db3_80.2.2.2.2.2.2.2.2.2.2.2.2.1
theorem dX3_wholeMonths_21 : decode cX3_wholeMonths 21 = .ok (.invokevirtual 232, 3) := db3_80.2.2.2.2.2.2.2.2.2.2.2.2.2.1
theorem dX3_wholeMonths_24 : decode cX3_wholeMonths 24 = .ok (.ireturn, 1) := db3_80.2.2.2.2.2.2.2.2.2.2.2.2.2.2
theorem db3_81 : (decode cX3_year 0 = .ok (.aload_n 0, 1)) ∧ (decode cX3_year 1 = .ok (.iload_n 1, 1)) ∧ (decode cX3_year 2 = .ok (.invokestatic 31, 3)) ∧ (decode cX3_year 5 = .ok (.iconst 0, 1)) ∧ (decode cX3_year 6 = .ok (.iconst 0, 1)) ∧ (decode cX3_year 7 = .ok (.invokevirtual 77, 3)) ∧ (decode cX3_year 10 = .ok (.ifCond .eq 7, 3)) ∧ (decode cX3_year 13 = .ok (.iconst 0, 1)) ∧ (decode cX3_year 14 = .ok (.goto 16, 3)) ∧ (decode cX3_year 17 = .ok (.aload_n 0, 1)) ∧ (decode cX3_year 18 = .ok (.getfield 11, 3)) ∧ (decode cX3_year 21 = .ok (.iload_n 1, 1)) ∧ (decode cX3_year 22 = .ok (.aaload, 1)) ∧ (decode cX3_year 23 = .ok (.iconst 0, 1)) ∧ (decode cX3_year 24 = .ok (.iaload, 1)) ∧ (decode cX3_year 25 = .ok (.bipush 12, 2)) := by decide +kernel
theorem dX3_year_0 : decode cX3_year 0 = .ok (.aload_n 0, 1) := db3_81.1
theorem dX3_year_1 : decode cX3_year 1 = .ok (.iload_n 1, 1) := db3_81.2.1
theorem dX3_year_2 : decode cX3_year 2 = .ok (.invokestatic 31, 3) := db3_81.2.2.1
theorem dX3_year_5 : decode cX3_year 5 = .ok (.iconst 0, 1) := db3_81.2.2.2.1
theorem dX3_year_6 : decode cX3_year 6 = .ok (.iconst 0, 1) := db3_81.2.2.2.2.1
theorem dX3_year_7 : decode cX3_year 7 = .ok (.invokevirtual 77, 3) := db3_81.2.2.2.2.2.1
theorem dX3_year_10 : decode cX3_year 10 = .ok (.ifCond .eq 7, 3) := db3_81.2.2.2.2.2.2.1
theorem dX3_year_13 : decode cX3_year 13 = .ok (.iconst 0, 1) := db3_81.2.2.2.2.2.2.2.1
theorem dX3_year_14 : decode cX3_year 14 = .ok (.goto 16, 3) := db3_81.2.2.2.2.2.2.2.2.1
theorem dX3_year_17 : decode cX3_year 17 = .ok (.aload_n 0, 1) := db3_81.2.2.2.2.2.2.2.2.2.1
theorem dX3_year_18 : decode cX3_year 18 = .ok (.getfield 11, 3) := db3_81.2.2.2.2.2.2.2.2.2.2.1
theorem dX3_year_21 : decode cX3_year 21 = .ok (.iload_n 1, 1) := db3_81.2.2.2.2.2.2.2.2.2.2.2.1
theorem dX3_year_22 : decode cX3_year 22 = .ok (.aaload, 1) := db3_81.2.2.2.2.2.2.2.2.2.2.2.2.1
theorem dX3_year_23 : decode cX3_year 23 = .ok (.iconst 0, 1) := db3_81.2.2.2.2.2.2.2.2.2.2.2.2.2.1
theorem dX3_year_24 : decode cX3_year 24 = .ok (.iaload, 1) := db3_81.2.2.2.2.2.2.2.2.2.2.2.2.2.2.1
theorem dX3_year_25 : decode cX3_year 25 = .ok (.bipush 12, 2) := db3_81.2.2.2.2.2.2.2.2.2.2.2.2.2.2.2
theorem db3_82 : (decode cX3_year 27 = .ok (.invokestatic 35, 3)) ∧ (decode cX3_year 30 = .ok (.ireturn, 1)) := by decide +kernel
theorem dX3_year_27 : decode cX3_year 27 = .ok (.invokestatic 35, 3) := db3_82.1
theorem dX3_year_30 : decode cX3_year 30 = .ok (.ireturn, 1) := db3_82.2
theorem db3_83 : (decode cX3_monthOfYear 0 = .ok (.aload_n 0, 1)) ∧ (decode cX3_monthOfYear 1 = .ok (.iload_n 1, 1)) ∧ (decode cX3_monthOfYear 2 = .ok (.invokestatic 31, 3)) ∧ (decode cX3_monthOfYear 5 = .ok (.iconst 0, 1)) ∧ (decode cX3_monthOfYear 6 = .ok (.iconst 0, 1)) ∧ (decode cX3_monthOfYear 7 = .ok (.invokevirtual 77, 3)) ∧ (decode cX3_monthOfYear 10 = .ok (.ifCond .eq 7, 3)) ∧ (decode cX3_monthOfYear 13 = .ok (.iconst 0, 1)) ∧ (decode cX3_monthOfYear 14 = .ok (.goto 18, 3)) ∧ (decode cX3_monthOfYear 17 = .ok (.iconst 1, 1)) ∧ (decode cX3_monthOfYear 18 = .ok (.aload_n 0, 1)) ∧ (decode cX3_monthOfYear 19 = .ok (.getfield 11, 3)) ∧ (decode cX3_monthOfYear 22 = .ok (.iload_n 1, 1)) ∧ (decode cX3_monthOfYear 23 = .ok (.aaload, 1)) ∧ (decode cX3_monthOfYear 24 = .ok (.iconst 0, 1)) ∧ (decode cX3_monthOfYear 25 = .ok (.iaload, 1)) := by decide +kernel
theorem dX3_monthOfYear_0 : decode cX3_monthOfYear 0 = .ok (.aload_n 0, 1) := db3_83.1
theorem dX3_monthOfYear_1 : decode cX3_monthOfYear 1 = .ok (.iload_n 1, 1) := db3_83.2.1
theorem dX3_monthOfYear_2 : decode cX3_monthOfYear 2 = .ok (.invokestatic 31, 3) := db3_83.2.2.1
theorem dX3_monthOfYear_5 : decode cX3_monthOfYear 5 = .ok (.iconst 0, 1) := db3_83.2.2.2.1
theorem dX3_monthOfYear_6 : decode cX3_monthOfYear 6 = .ok (.iconst 0, 1) := db3_83.2.2.2.2.1
theorem dX3_monthOfYear_7 : decode cX3_monthOfYear 7 = .ok (.invokevirtual 77, 3) := db3_83.2.2.2.2.2.1
theorem dX3_monthOfYear_10 : decode cX3_monthOfYear 10 = .ok (.ifCond .eq 7, 3) := db3_83.2.2.2.2.2.2.1
theorem dX3_monthOfYear_13 : decode cX3_monthOfYear 13 = .ok (.iconst 0, 1) := db3_83.2.2.2.2.2.2.2.1
theorem dX3_monthOfYear_14 : decode cX3_monthOfYear 14 = .ok (.goto 18, 3) := db3_83.2.2.2.2.2.2.2.2.1
theorem dX3_monthOfYear_17 : decode cX3_monthOfYear 17 = .ok (.iconst 1, 1) := db3_83.2.2.2.2.2.2.2.2.2.1
theorem dX3_monthOfYear_18 : decode cX3_monthOfYear 18 = .ok (.aload_n 0, 1) := db3_83.2.2.2.2.2.2.2.2.2.2.1
theorem dX3_monthOfYear_19 : decode cX3_monthOfYear 19 = .ok (.getfield 11, 3) := db3_83.2.2.2.2.2.2.2.2.2.2.2.1
theorem dX3_monthOfYear_22 : decode cX3_monthOfYear 22 = .ok (.iload_n 1, 1) := db3_83.2.2.2.2.2.2.2.2.2.2.2.2.1
theorem dX3_monthOfYear_23 : decode cX3_monthOfYear 23 = .ok (.aaload, 1) := db3_83.2.2.2.2.2.2.2.2.2.2.2.2.2.1
theorem dX3_monthOfYear_24 : decode cX3_monthOfYear 24 = .ok (.iconst 0, 1) := db3_83.2.2.2.2.2.2.2.2.2.2.2.2.2.2.1
theorem dX3_monthOfYear_25 : decode cX3_monthOfYear 25 = .ok (.iaload, 1) := db3_83.2.2.2.2.2.2.2.2.2.2.2.2.2.2.2
theorem db3_84 : (decode cX3_monthOfYear 26 = .ok (.bipush 12, 2)) ∧ (decode cX3_monthOfYear 28 = .ok (.invokestatic 39, 3)) ∧ (decode cX3_monthOfYear 31 = .ok (.iadd, 1)) ∧ (decode cX3_monthOfYear 32 = .ok (.ireturn, 1)) := by decide +kernel
theorem dX3_monthOfYear_26 : decode cX3_monthOfYear 26 = .ok (.bipush 12, 2) := db3_84.1
theorem dX3_monthOfYear_28 : decode cX3_monthOfYear 28 = .ok (.invokestatic 39, 3) := db3_84.2.1
theorem dX3_monthOfYear_31 : decode cX3_monthOfYear 31 = .ok (.iadd, 1) := db3_84.2.2.1
theorem dX3_monthOfYear_32 : decode cX3_monthOfYear 32 = .ok (.ireturn, 1) := db3_84.2.2.2
theorem db3_85 : (decode cX3_day 0 = .ok (.aload_n 0, 1)) ∧ (decode cX3_day 1 = .ok (.iload_n 1, 1)) ∧ (decode cX3_day 2 = .ok (.invokestatic 31, 3)) ∧ (decode cX3_day 5 = .ok (.iconst 0, 1)) ∧ (decode cX3_day 6 = .ok (.iconst 0, 1)) ∧ (decode cX3_day 7 = .ok (.invokevirtual 77, 3)) ∧ (decode cX3_day 10 = .ok (.ifCond .eq 7, 3)) ∧ (decode cX3_day 13 = .ok (.iconst 0, 1)) ∧ (decode cX3_day 14 = .ok (.goto 11, 3)) ∧ (decode cX3_day 17 = .ok (.aload_n 0, 1)) ∧ (decode cX3_day 18 = .ok (.getfield 11, 3)) ∧ (decode cX3_day 21 = .ok (.iload_n 1, 1)) ∧ (decode cX3_day 22 = .ok (.aaload, 1)) ∧ (decode cX3_day 23 = .ok (.iconst 1, 1)) ∧ (decode cX3_day 24 = .ok (.iaload, 1)) ∧ (decode cX3_day 25 = .ok (.ireturn, 1)) := by decide +kernel
theorem dX3_day_0 : decode cX3_day 0 = .ok (.aload_n 0, 1) := db3_85.1
theorem dX3_day_1 : decode cX3_day 1 = .ok (.iload_n 1, 1) := db3_85.2.1
theorem dX3_day_2 : decode cX3_day 2 = .ok (.invokestatic 31, 3) := db3_85.2.2.1
theorem dX3_day_5 : decode cX3_day 5 = .ok (.iconst 0, 1) := db3_85.2.2.2.1
theorem dX3_day_6 : decode cX3_day 6 = .ok (.iconst 0, 1) := db3_85.2.2.2.2.1
theorem dX3_day_7 : decode cX3_day 7 = .ok (.invokevirtual 77, 3) := db3_85.2.2.2.2.2.1
theorem dX3_day_10 : decode cX3_day 10 = .ok (.ifCond .eq 7, 3) := db3_85.2.2.2.2.2.2.1
theorem dX3_day_13 : decode cX3_day 13 = .ok (.iconst 0, 1) := db3_85.2.2.2.2.2.2.2.1
theorem dX3_day_14 : decode cX3_day 14 = .ok (.goto 11, 3) := db3_85.2.2.2.2.2.2.2.2.1
theorem dX3_day_17 : decode cX3_day 17 = .ok (.aload_n 0, 1) := db3_85.2.2.2.2.2.2.2.2.2.1
theorem dX3_day_18 : decode cX3_day 18 = .ok (.getfield 11, 3) := db3_85.2.2.2.2.2.2.2.2.2.2.1
theorem dX3_day_21 : decode cX3_day 21 = .ok (.iload_n 1, 1) := db3_85.2.2.2.2.2.2.2.2.2.2.2.1
theorem dX3_day_22 : decode cX3_day 22 = .ok (.aaload, 1) := db3_85.2.2.2.2.2.2.2.2.2.2.2.2.1
theorem dX3_day_23 : decode cX3_day 23 = .ok (.iconst 1, 1) := db3_85.2.2.2.2.2.2.2.2.2.2.2.2.2.1
theorem dX3_day_24 : decode cX3_day 24 = .ok (.iaload, 1) := db3_85.2.2.2.2.2.2.2.2.2.2.2.2.2.2.1
theorem dX3_day_25 : decode cX3_day 25 = .ok (.ireturn, 1) := db3_85.2.2.2.2.2.2.2.2.2.2.2.2.2.2.2
theorem db3_86 : (decode cX3_dayOfYearNow 0 = .ok (.aload_n 0, 1)) ∧ (decode cX3_dayOfYearNow 1 = .ok (.iload_n 1, 1)) ∧ (decode cX3_dayOfYearNow 2 = .ok (.invokevirtual 85, 3)) ∧ (decode cX3_dayOfYearNow 5 = .ok (.bipush 12, 2)) ∧ (decode cX3_dayOfYearNow 7 = .ok (.aload_n 0, 1)) ∧ (decode cX3_dayOfYearNow 8 = .ok (.getfield 11, 3)) ∧ (decode cX3_dayOfYearNow 11 = .ok (.iload_n 1, 1)) ∧ (decode cX3_dayOfYearNow 12 = .ok (.aaload, 1)) ∧ (decode cX3_dayOfYearNow 13 = .ok (.iconst 0, 1)) ∧ (decode cX3_dayOfYearNow 14 = .ok (.iaload, 1)) ∧ (decode cX3_dayOfYearNow 15 = .ok (.bipush 12, 2)) ∧ (decode cX3_dayOfYearNow 17 = .ok (.invokestatic 35, 3)) ∧ (decode cX3_dayOfYearNow 20 = .ok (.imul, 1)) ∧ (decode cX3_dayOfYearNow 21 = .ok (.invokestatic 57, 3)) ∧ (decode cX3_dayOfYearNow 24 = .ok (.isub, 1)) ∧ (decode cX3_dayOfYearNow 25 = .ok (.iconst 1, 1)) := by decide +kernel
theorem dX3_dayOfYearNow_0 : decode cX3_dayOfYearNow 0 = .ok (.aload_n 0, 1) := db3_86.1
theorem dX3_dayOfYearNow_1 : decode cX3_dayOfYearNow 1 = .ok (.iload_n 1, 1) := db3_86.2.1
theorem dX3_dayOfYearNow_2 : decode cX3_dayOfYearNow 2 = .ok (.invokevirtual 85, 3) := db3_86.2.2.1
theorem dX3_dayOfYearNow_5 : decode cX3_dayOfYearNow 5 = .ok (.bipush 12, 2) := db3_86.2.2.2.1
theorem dX3_dayOfYearNow_7 : decode cX3_dayOfYearNow 7 = .ok (.aload_n 0, 1) := db3_86.2.2.2.2.1
theorem dX3_dayOfYearNow_8 : decode cX3_dayOfYearNow 8 = .ok (.getfield 11, 3) := db3_86.2.2.2.2.2.1
theorem dX3_dayOfYearNow_11 : decode cX3_dayOfYearNow 11 = .ok (.iload_n 1, 1) := db3_86.2.2.2.2.2.2.1
theorem dX3_dayOfYearNow_12 : decode cX3_dayOfYearNow 12 = .ok (.aaload, 1) := db3_86.2.2.2.2.2.2.2.1
theorem dX3_dayOfYearNow_13 : decode cX3_dayOfYearNow 13 = .ok (.iconst 0, 1) := db3_86.2.2.2.2.2.2.2.2.1
theorem dX3_dayOfYearNow_14 : decode cX3_dayOfYearNow 14 = .ok (.iaload, 1) := db3_86.2.2.2.2.2.2.2.2.2.1
theorem dX3_dayOfYearNow_15 : decode cX3_dayOfYearNow 15 = .ok (.bipush 12, 2) := db3_86.2.2.2.2.2.2.2.2.2.2.1
theorem dX3_dayOfYearNow_17 : decode cX3_dayOfYearNow 17 = .ok (.invokestatic 35, 3) := db3_86.2.2.2.2.2.2.2.2.2.2.2.1
theorem dX3_dayOfYearNow_20 : decode cX3_dayOfYearNow 20 = .ok (.imul, 1) := db3_86.2.2.2.2.2.2.2.2.2.2.2.2.1
theorem dX3_dayOfYearNow_21 : decode cX3_dayOfYearNow 21 = .ok (.invokestatic 57, 3) := db3_86.2.2.2.2.2.2.2.2.2.2.2.2.2.1
theorem dX3_dayOfYearNow_24 : decode cX3_dayOfYearNow 24 = .ok (.isub, 1) := db3_86.2.2.2.2.2.2.2.2.2.2.2.2.2.2.1
theorem dX3_dayOfYearNow_25 : decode cX3_dayOfYearNow 25 = .ok (.iconst 1, 1) := db3_86.2.2.2.2.2.2.2.2.2.2.2.2.2.2.2
theorem db3_87 : (decode cX3_dayOfYearNow 26 = .ok (.iadd, 1)) ∧ (decode cX3_dayOfYearNow 27 = .ok (.ireturn, 1)) := by decide +kernel
theorem dX3_dayOfYearNow_26 : decode cX3_dayOfYearNow 26 = .ok (.iadd, 1) := db3_87.1
theorem dX3_dayOfYearNow_27 : decode cX3_dayOfYearNow 27 = .ok (.ireturn, 1) := db3_87.2
theorem db3_88 : (decode cX3_dayOfYear 0 = .ok (.aload_n 0, 1)) ∧ (decode cX3_dayOfYear 1 = .ok (.iload_n 1, 1)) ∧ (decode cX3_dayOfYear 2 = .ok (.invokestatic 31, 3)) ∧ (decode cX3_dayOfYear 5 = .ok (.iconst 0, 1)) ∧ (decode cX3_dayOfYear 6 = .ok (.iconst 0, 1)) ∧ (decode cX3_dayOfYear 7 = .ok (.invokevirtual 77, 3)) ∧ (decode cX3_dayOfYear 10 = .ok (.ifCond .eq 7, 3)) ∧ (decode cX3_dayOfYear 13 = .ok (.iconst 0, 1)) ∧ (decode cX3_dayOfYear 14 = .ok (.goto 8, 3)) ∧ (decode cX3_dayOfYear 17 = .ok (.aload_n 0, 1)) ∧ (decode cX3_dayOfYear 18 = .ok (.iload_n 1, 1)) ∧ (decode cX3_dayOfYear 19 = .ok (.invokevirtual 235, 3)) ∧ (decode cX3_dayOfYear 22 = .ok (.ireturn, 1)) := by decide +kernel
theorem dX3_dayOfYear_0 : decode cX3_dayOfYear 0 = .ok (.aload_n 0, 1) := db3_88.1
theorem dX3_dayOfYear_1 : decode cX3_dayOfYear 1 = .ok (.iload_n 1, 1) := db3_88.2.1
theorem dX3_dayOfYear_2 : decode cX3_dayOfYear 2 = .ok (.invokestatic 31, 3) := db3_88.2.2.1
theorem dX3_dayOfYear_5 : decode cX3_dayOfYear 5 = .ok (.iconst 0, 1) := db3_88.2.2.2.1
theorem dX3_dayOfYear_6 : decode cX3_dayOfYear 6 = .ok (.iconst 0, 1) := db3_88.2.2.2.2.1
theorem dX3_dayOfYear_7 : decode cX3_dayOfYear 7 = .ok (.invokevirtual 77, 3) := db3_88.2.2.2.2.2.1
theorem dX3_dayOfYear_10 : decode cX3_dayOfYear 10 = .ok (.ifCond .eq 7, 3) := db3_88.2.2.2.2.2.2.1
theorem dX3_dayOfYear_13 : decode cX3_dayOfYear 13 = .ok (.iconst 0, 1) := db3_88.2.2.2.2.2.2.2.1
theorem dX3_dayOfYear_14 : decode cX3_dayOfYear 14 = .ok (.goto 8, 3) := db3_88.2.2.2.2.2.2.2.2.1
theorem dX3_dayOfYear_17 : decode cX3_dayOfYear 17 = .ok (.aload_n 0, 1) := db3_88.2.2.2.2.2.2.2.2.2.1
theorem dX3_dayOfYear_18 : decode cX3_dayOfYear 18 = .ok (.iload_n 1, 1) := db3_88.2.2.2.2.2.2.2.2.2.2.1
theorem dX3_dayOfYear_19 : decode cX3_dayOfYear 19 = .ok (.invokevirtual 235, 3) := db3_88.2.2.2.2.2.2.2.2.2.2.2.1
theorem dX3_dayOfYear_22 : decode cX3_dayOfYear 22 = .ok (.ireturn, 1) := db3_88.2.2.2.2.2.2.2.2.2.2.2.2
theorem db3_89 : (decode cX3_number 0 = .ok (.aload_n 0, 1)) ∧ (decode cX3_number 1 = .ok (.iload_n 1, 1)) ∧ (decode cX3_number 2 = .ok (.invokestatic 31, 3)) ∧ (decode cX3_number 5 = .ok (.iconst 0, 1)) ∧ (decode cX3_number 6 = .ok (.iconst 0, 1)) ∧ (decode cX3_number 7 = .ok (.invokevirtual 77, 3)) ∧ (decode cX3_number 10 = .ok (.ifCond .eq 7, 3)) ∧ (decode cX3_number 13 = .ok (.iconst 0, 1)) ∧ (decode cX3_number 14 = .ok (.goto 8, 3)) ∧ (decode cX3_number 17 = .ok (.aload_n 0, 1)) ∧ (decode cX3_number 18 = .ok (.iload_n 1, 1)) ∧ (decode cX3_number 19 = .ok (.invokevirtual 85, 3)) ∧ (decode cX3_number 22 = .ok (.ireturn, 1)) := by decide +kernel
theorem dX3_number_0 : decode cX3_number 0 = .ok (.aload_n 0, 1) := db3_89.1
theorem dX3_number_1 : decode cX3_number 1 = .ok (.iload_n 1, 1) := db3_89.2.1
theorem dX3_number_2 : decode cX3_number 2 = .ok (.invokestatic 31, 3) := db3_89.2.2.1
theorem dX3_number_5 : decode cX3_number 5 = .ok (.iconst 0, 1) := db3_89.2.2.2.1
theorem dX3_number_6 : decode cX3_number 6 = .ok (.iconst 0, 1) := db3_89.2.2.2.2.1
theorem dX3_number_7 : decode cX3_number 7 = .ok (.invokevirtual 77, 3) := db3_89.2.2.2.2.2.1
theorem dX3_number_10 : decode cX3_number 10 = .ok (.ifCond .eq 7, 3) := db3_89.2.2.2.2.2.2.1
theorem dX3_number_13 : decode cX3_number 13 = .ok (.iconst 0, 1) := db3_89.2.2.2.2.2.2.2.1
theorem dX3_number_14 : decode cX3_number 14 = .ok (.goto 8, 3) := db3_89.2.2.2.2.2.2.2.2.1
theorem dX3_number_17 : decode cX3_number 17 = .ok (.aload_n 0, 1) := db3_89.2.2.2.2.2.2.2.2.2.1
theorem dX3_number_18 : decode cX3_number 18 = .ok (.iload_n 1, 1) := db3_89.2.2.2.2.2.2.2.2.2.2.1
theorem dX3_number_19 : decode cX3_number 19 = .ok (.invokevirtual 85, 3) := db3_89.2.2.2.2.2.2.2.2.2.2.2.1
theorem dX3_number_22 : decode cX3_number 22 = .ok (.ireturn, 1) := db3_89.2.2.2.2.2.2.2.2.2.2.2.2
theorem db3_90 : (decode cX3_lengthOfMonth 0 = .ok (.aload_n 0, 1)) ∧ (decode cX3_lengthOfMonth 1 = .ok (.iload_n 1, 1)) ∧ (decode cX3_lengthOfMonth 2 = .ok (.invokestatic 31, 3)) ∧ (decode cX3_lengthOfMonth 5 = .ok (.iconst 0, 1)) ∧ (decode cX3_lengthOfMonth 6 = .ok (.iconst 0, 1)) ∧ (decode cX3_lengthOfMonth 7 = .ok (.invokevirtual 77, 3)) ∧ (decode cX3_lengthOfMonth 10 = .ok (.ifCond .eq 7, 3)) ∧ (decode cX3_lengthOfMonth 13 = .ok (.iconst 0, 1)) ∧ (decode cX3_lengthOfMonth 14 = .ok (.goto 14, 3)) ∧ (decode cX3_lengthOfMonth 17 = .ok (.aload_n 0, 1)) ∧ (decode cX3_lengthOfMonth 18 = .ok (.getfield 11, 3)) ∧ (decode cX3_lengthOfMonth 21 = .ok (.iload_n 1, 1)) ∧ (decode cX3_lengthOfMonth 22 = .ok (.aaload, 1)) ∧ (decode cX3_lengthOfMonth 23 = .ok (.iconst 0, 1)) ∧ (decode cX3_lengthOfMonth 24 = .ok (.iaload, 1)) ∧ (decode cX3_lengthOfMonth 25 = .ok (.invokestatic 54, 3)) := by decide +kernel
theorem dX3_lengthOfMonth_0 : decode cX3_lengthOfMonth 0 = .ok (.aload_n 0, 1) := db3_90.1
theorem dX3_lengthOfMonth_1 : decode cX3_lengthOfMonth 1 = .ok (.iload_n 1, 1) := db3_90.2.1
theorem dX3_lengthOfMonth_2 : decode cX3_lengthOfMonth 2 = .ok (.invokestatic 31, 3) := db3_90.2.2.1
theorem dX3_lengthOfMonth_5 : decode cX3_lengthOfMonth 5 = .ok (.iconst 0, 1) := db3_90.2.2.2.1
theorem dX3_lengthOfMonth_6 : decode cX3_lengthOfMonth 6 = .ok (.iconst 0, 1) := db3_90.2.2.2.2.1
theorem dX3_lengthOfMonth_7 : decode cX3_lengthOfMonth 7 = .ok (.invokevirtual 77, 3) := db3_90.2.2.2.2.2.1
theorem dX3_lengthOfMonth_10 : decode cX3_lengthOfMonth 10 = .ok (.ifCond .eq 7, 3) := db3_90.2.2.2.2.2.2.1
theorem dX3_lengthOfMonth_13 : decode cX3_lengthOfMonth 13 = .ok (.iconst 0, 1) := db3_90.2.2.2.2.2.2.2.1
theorem dX3_lengthOfMonth_14 : decode cX3_lengthOfMonth 14 = .ok (.goto 14, 3) := db3_90.2.2.2.2.2.2.2.2.1
theorem dX3_lengthOfMonth_17 : decode cX3_lengthOfMonth 17 = .ok (.aload_n 0, 1) := db3_90.2.2.2.2.2.2.2.2.2.1
theorem dX3_lengthOfMonth_18 : decode cX3_lengthOfMonth 18 = .ok (.getfield 11, 3) := db3_90.2.2.2.2.2.2.2.2.2.2.1
theorem dX3_lengthOfMonth_21 : decode cX3_lengthOfMonth 21 = .ok (.iload_n 1, 1) := db3_90.2.2.2.2.2.2.2.2.2.2.2.1
theorem dX3_lengthOfMonth_22 : decode cX3_lengthOfMonth 22 = .ok (.aaload, 1) := db3_90.2.2.2.2.2.2.2.2.2.2.2.2.1
theorem dX3_lengthOfMonth_23 : decode cX3_lengthOfMonth 23 = .ok (.iconst 0, 1) := db3_90.2.2.2.2.2.2.2.2.2.2.2.2.2.1
theorem dX3_lengthOfMonth_24 : decode cX3_lengthOfMonth 24 = .ok (.iaload, 1) := db3_90.2.2.2.2.2.2.2.2.2.2.2.2.2.2.1
theorem dX3_lengthOfMonth_25 : decode cX3_lengthOfMonth 25 = .ok (.invokestatic 54, 3) := db3_90.2.2.2.2.2.2.2.2.2.2.2.2.2.2.2
theorem dX3_lengthOfMonth_28 : decode cX3_lengthOfMonth 28 = .ok (.ireturn, 1) := by decide +kernel
theorem db3_91 : (decode cX3_isLeapYear 0 = .ok (.aload_n 0, 1)) ∧ (decode cX3_isLeapYear 1 = .ok (.iload_n 1, 1)) ∧ (decode cX3_isLeapYear 2 = .ok (.invokestatic 31, 3)) ∧ (decode cX3_isLeapYear 5 = .ok (.iconst 0, 1)) ∧ (decode cX3_isLeapYear 6 = .ok (.iconst 0, 1)) ∧ (decode cX3_isLeapYear 7 = .ok (.invokevirtual 77, 3)) ∧ (decode cX3_isLeapYear 10 = .ok (.ifCond .ne 26, 3)) ∧ (decode cX3_isLeapYear 13 = .ok (.aload_n 0, 1)) ∧ (decode cX3_isLeapYear 14 = .ok (.getfield 11, 3)) ∧ (decode cX3_isLeapYear 17 = .ok (.iload_n 1, 1)) ∧ (decode cX3_isLeapYear 18 = .ok (.aaload, 1)) ∧ (decode cX3_isLeapYear 19 = .ok (.iconst 0, 1)) ∧ (decode cX3_isLeapYear 20 = .ok (.iaload, 1)) ∧ (decode cX3_isLeapYear 21 = .ok (.bipush 12, 2)) ∧ (decode cX3_isLeapYear 23 = .ok (.invokestatic 35, 3)) ∧ (decode cX3_isLeapYear 26 = .ok (.invokestatic 42, 3)) := by decide +kernel
theorem dX3_isLeapYear_0 : decode cX3_isLeapYear 0 = .ok (.aload_n 0, 1) := db3_91.1
theorem dX3_isLeapYear_1 : decode cX3_isLeapYear 1 = .ok (.iload_n 1, 1) := db3_91.2.1
theorem dX3_isLeapYear_2 : decode cX3_isLeapYear 2 = .ok (.invokestatic 31, 3) := db3_91.2.2.1
theorem dX3_isLeapYear_5 : decode cX3_isLeapYear 5 = .ok (.iconst 0, 1) := db3_91.2.2.2.1
theorem dX3_isLeapYear_6 : decode cX3_isLeapYear 6 = .ok (.iconst 0, 1) := db3_91.2.2.2.2.1
theorem dX3_isLeapYear_7 : decode cX3_isLeapYear 7 = .ok (.invokevirtual 77, 3) := db3_91.2.2.2.2.2.1
theorem dX3_isLeapYear_10 : decode cX3_isLeapYear 10 = .ok (.ifCond .ne 26, 3) := db3_91.2.2.2.2.2.2.1
theorem dX3_isLeapYear_13 : decode cX3_isLeapYear 13 = .ok (.aload_n 0, 1) := db3_91.2.2.2.2.2.2.2.1
theorem dX3_isLeapYear_14 : decode cX3_isLeapYear 14 = .ok (.getfield 11, 3) := db3_91.2.2.2.2.2.2.2.2.1
theorem dX3_isLeapYear_17 : decode cX3_isLeapYear 17 = .ok (.iload_n 1, 1) := db3_91.2.2.2.2.2.2.2.2.2.1
theorem dX3_isLeapYear_18 : decode cX3_isLeapYear 18 = .ok (.aaload, 1) := db3_91.2.2.2.2.2.2.2.2.2.2.1
theorem dX3_isLeapYear_19 : decode cX3_isLeapYear 19 = .ok (.iconst 0, 1) := db3_91.2.2.2.2.2.2.2.2.2.2.2.1
theorem dX3_isLeapYear_20 : decode cX3_isLeapYear 20 = .ok (.iaload, 1) := db3_91.2.2.2.2.2.2.2.2.2.2.2.2.1
theorem dX3_isLeapYear_21 : decode cX3_isLeapYear 21 = .ok (.bipush 12, 2) := db3_91.2.2.2.2.2.2.2.2.2.2.2.2.2.1
theorem dX3_isLeapYear_23 : decode cX3_isLeapYear 23 = .ok (.invokestatic 35, 3) := db3_91.2.2.2.2.2.2.2.2.2.2.2.2.2.2.1
theorem dX3_isLeapYear_26 : decode cX3_isLeapYear 26 = .ok (.invokestatic 42, 3) := db3_91.2.2.2.2.2.2.2.2.2.2.2.2.2.2.2
theorem db3_92 : (decode cX3_isLeapYear 29 = .ok (.ifCond .eq 7, 3)) ∧ (decode cX3_isLeapYear 32 = .ok (.iconst 1, 1)) ∧ (decode cX3_isLeapYear 33 = .ok (.goto 4, 3)) ∧ (decode cX3_isLeapYear 36 = .ok (.iconst 0, 1)) ∧ (decode cX3_isLeapYear 37 = .ok (.ireturn, 1)) := by decide +kernel
theorem dX3_isLeapYear_29 : decode cX3_isLeapYear 29 = .ok (.ifCond .eq 7, 3) := db3_92.1
theorem dX3_isLeapYear_32 : decode cX3_isLeapYear 32 = .ok (.iconst 1, 1) := db3_92.2.1
theorem dX3_isLeapYear_33 : decode cX3_isLeapYear 33 = .ok (.goto 4, 3) := db3_92.2.2.1
theorem dX3_isLeapYear_36 : decode cX3_isLeapYear 36 = .ok (.iconst 0, 1) := db3_92.2.2.2.1
theorem dX3_isLeapYear_37 : decode cX3_isLeapYear 37 = .ok (.ireturn, 1) := db3_92.2.2.2.2
theorem db3_93 : (decode cX3_digits 0 = .ok (.new 191, 3)) ∧ (decode cX3_digits 3 = .ok (.dup, 1)) ∧ (decode cX3_digits 4 = .ok (.invokespecial 193, 3)) ∧ (decode cX3_digits 7 = .ok (.ldc 175, 2)) ∧ (decode cX3_digits 9 = .ok (.invokevirtual 194, 3)) ∧ (decode cX3_digits 12 = .ok (.iload_n 0, 1)) ∧ (decode cX3_digits 13 = .ok (.invokevirtual 205, 3)) ∧ (decode cX3_digits 16 = .ok (.invokevirtual 208, 3)) ∧ (decode cX3_digits 19 = .ok (.astore_n 2, 1)) ∧ (decode cX3_digits 20 = .ok (.aload_n 2, 1)) ∧ (decode cX3_digits 21 = .ok (.invokevirtual 238, 3)) ∧ (decode cX3_digits 24 = .ok (.iload_n 1, 1)) ∧ (decode cX3_digits 25 = .ok (.if_icmp .ge 26, 3)) ∧ (decode cX3_digits 28 = .ok (.new 191, 3)) ∧ (decode cX3_digits 31 = .ok (.dup, 1)) ∧ (decode cX3_digits 32 = .ok (.invokespecial 193, 3)) := by decide +kernel
theorem dX3_digits_0 : decode cX3_digits 0 = .ok (.new 191, 3) := db3_93.1
theorem dX3_digits_3 : decode cX3_digits 3 = .ok (.dup, 1) := db3_93.2.1
theorem dX3_digits_4 : decode cX3_digits 4 = .ok (.invokespecial 193, 3) := db3_93.2.2.1
theorem dX3_digits_7 : decode cX3_digits 7 = .ok (.ldc 175, 2) := db3_93.2.2.2.1
theorem dX3_digits_9 : decode cX3_digits 9 = .ok (.invokevirtual 194, 3) := db3_93.2.2.2.2.1
theorem dX3_digits_12 : decode cX3_digits 12 = .ok (.iload_n 0, 1) := db3_93.2.2.2.2.2.1
theorem dX3_digits_13 : decode cX3_digits 13 = .ok (.invokevirtual 205, 3) := db3_93.2.2.2.2.2.2.1
theorem dX3_digits_16 : decode cX3_digits 16 = .ok (.invokevirtual 208, 3) := db3_93.2.2.2.2.2.2.2.1
theorem dX3_digits_19 : decode cX3_digits 19 = .ok (.astore_n 2, 1) := db3_93.2.2.2.2.2.2.2.2.1
theorem dX3_digits_20 : decode cX3_digits 20 = .ok (.aload_n 2, 1) := db3_93.2.2.2.2.2.2.2.2.2.1
theorem dX3_digits_21 : decode cX3_digits 21 = .ok (.invokevirtual 238, 3) := db3_93.2.2.2.2.2.2.2.2.2.2.1
theorem dX3_digits_24 : decode cX3_digits 24 = .ok (.iload_n 1, 1) := db3_93.2.2.2.2.2.2.2.2.2.2.2.1
theorem dX3_digits_25 : decode cX3_digits 25 = .ok (.if_icmp .ge 26, 3) := db3_93.2.2.2.2.2.2.2.2.2.2.2.2.1
theorem dX3_digits_28 : decode cX3_digits 28 = .ok (.new 191, 3) := db3_93.2.2.2.2.2.2.2.2.2.2.2.2.2.1
theorem dX3_digits_31 : decode cX3_digits 31 = .ok (.dup, 1) := db3_93.2.2.2.2.2.2.2.2.2.2.2.2.2.2.1
theorem dX3_digits_32 : decode cX3_digits 32 = .ok (.invokespecial 193, 3) := db3_93.2.2.2.2.2.2.2.2.2.2.2.2.2.2.2
theorem db3_94 : (decode cX3_digits 35 = .ok (.ldc 240, 2)) ∧ (decode cX3_digits 37 = .ok (.invokevirtual 194, 3)) ∧ (decode cX3_digits 40 = .ok (.aload_n 2, 1)) ∧ (decode cX3_digits 41 = .ok (.invokevirtual 194, 3)) ∧ (decode cX3_digits 44 = .ok (.invokevirtual 208, 3)) ∧ (decode cX3_digits 47 = .ok (.astore_n 2, 1)) ∧ (decode cX3_digits 48 = .ok (.goto (-28), 3)) ∧ (decode cX3_digits 51 = .ok (.aload_n 2, 1)) ∧ (decode cX3_digits 52 = .ok (.areturn, 1)) := by decide +kernel
theorem dX3_digits_35 : decode cX3_digits 35 = .ok (.ldc 240, 2) := db3_94.1
theorem dX3_digits_37 : decode cX3_digits 37 = .ok (.invokevirtual 194, 3) := db3_94.2.1
theorem dX3_digits_40 : decode cX3_digits 40 = .ok (.aload_n 2, 1) := db3_94.2.2.1
theorem dX3_digits_41 : decode cX3_digits 41 = .ok (.invokevirtual 194, 3) := db3_94.2.2.2.1
theorem dX3_digits_44 : decode cX3_digits 44 = .ok (.invokevirtual 208, 3) := db3_94.2.2.2.2.1
theorem dX3_digits_47 : decode cX3_digits 47 = .ok (.astore_n 2, 1) := db3_94.2.2.2.2.2.1
theorem dX3_digits_48 : decode cX3_digits 48 = .ok (.goto (-28), 3) := db3_94.2.2.2.2.2.2.1
theorem dX3_digits_51 : decode cX3_digits 51 = .ok (.aload_n 2, 1) := db3_94.2.2.2.2.2.2.2.1
theorem dX3_digits_52 : decode cX3_digits 52 = .ok (.areturn, 1) := db3_94.2.2.2.2.2.2.2.2
theorem db3_95 : (decode cX3_textNow 0 = .ok (.aload_n 0, 1)) ∧ (decode cX3_textNow 1 = .ok (.getfield 11, 3)) ∧ (decode cX3_textNow 4 = .ok (.iload_n 1, 1)) ∧ (decode cX3_textNow 5 = .ok (.aaload, 1)) ∧ (decode cX3_textNow 6 = .ok (.iconst 0, 1)) ∧ (decode cX3_textNow 7 = .ok (.iaload, 1)) ∧ (decode cX3_textNow 8 = .ok (.bipush 12, 2)) ∧ (decode cX3_textNow 10 = .ok (.invokestatic 35, 3)) ∧ (decode cX3_textNow 13 = .ok (.istore_n 2, 1)) ∧ (decode cX3_textNow 14 = .ok (.new 191, 3)) ∧ (decode cX3_textNow 17 = .ok (.dup, 1)) ∧ (decode cX3_textNow 18 = .ok (.invokespecial 193, 3)) ∧ (decode cX3_textNow 21 = .ok (.iload_n 2, 1)) ∧ (decode cX3_textNow 22 = .ok (.ifCond .ge 8, 3)) ∧ (decode cX3_textNow 25 = .ok (.ldc 242, 2)) ∧ (decode cX3_textNow 27 = .ok (.goto 5, 3)) := by decide +kernel
theorem dX3_textNow_0 : decode cX3_textNow 0 = .ok (.aload_n 0, 1) := db3_95.1
theorem dX3_textNow_1 : decode cX3_textNow 1 = .ok (.getfield 11, 3) := db3_95.2.1
theorem dX3_textNow_4 : decode cX3_textNow 4 = .ok (.iload_n 1, 1) := db3_95.2.2.1
theorem dX3_textNow_5 : decode cX3_textNow 5 = .ok (.aaload, 1) := db3_95.2.2.2.1
theorem dX3_textNow_6 : decode cX3_textNow 6 = .ok (.iconst 0, 1) := db3_95.2.2.2.2.1
theorem dX3_textNow_7 : decode cX3_textNow 7 = .ok (.iaload, 1) := db3_95.2.2.2.2.2.1
theorem dX3_textNow_8 : decode cX3_textNow 8 = .ok (.bipush 12, 2) := db3_95.2.2.2.2.2.2.1
theorem dX3_textNow_10 : decode cX3_textNow 10 = .ok (.invokestatic 35, 3) := db3_95.2.2.2.2.2.2.2.1
theorem dX3_textNow_13 : decode cX3_textNow 13 = .ok (.istore_n 2, 1) := db3_95.2.2.2.2.2.2.2.2.1
theorem dX3_textNow_14 : decode cX3_textNow 14 = .ok (.new 191, 3) := db3_95.2.2.2.2.2.2.2.2.2.1
theorem dX3_textNow_17 : decode cX3_textNow 17 = .ok (.dup, 1) := db3_95.2.2.2.2.2.2.2.2.2.2.1
theorem dX3_textNow_18 : decode cX3_textNow 18 = .ok (.invokespecial 193, 3) := db3_95.2.2.2.2.2.2.2.2.2.2.2.1
theorem dX3_textNow_21 : decode cX3_textNow 21 = .ok (.iload_n 2, 1) := db3_95.2.2.2.2.2.2.2.2.2.2.2.2.1
theorem dX3_textNow_22 : decode cX3_textNow 22 = .ok (.ifCond .ge 8, 3) := db3_95.2.2.2.2.2.2.2.2.2.2.2.2.2.1
theorem dX3_textNow_25 : decode cX3_textNow 25 = .ok (.ldc 242, 2) := db3_95.2.2.2.2.2.2.2.2.2.2.2.2.2.2.1
theorem dX3_textNow_27 : decode cX3_textNow 27 = .ok (.goto 5, 3) := db3_95.2.2.2.2.2.2.2.2.2.2.2.2.2.2.2
theorem db3_96 : (decode cX3_textNow 30 = .ok (.ldc 175, 2)) ∧ (decode cX3_textNow 32 = .ok (.invokevirtual 194, 3)) ∧ (decode cX3_textNow 35 = .ok (.iload_n 2, 1)) ∧ (decode cX3_textNow 36 = .ok (.ifCond .ge 8, 3)) ∧ (decode cX3_textNow 39 = .ok (.iload_n 2, 1)) ∧ (decode cX3_textNow 40 = .ok (.ineg, 1)) ∧ (decode cX3_textNow 41 = .ok (.goto 4, 3)) ∧ (decode cX3_textNow 44 = .ok (.iload_n 2, 1)) ∧ (decode cX3_textNow 45 = .ok (.iconst 4, 1)) ∧ (decode cX3_textNow 46 = .ok (.invokestatic 244, 3)) ∧ (decode cX3_textNow 49 = .ok (.invokevirtual 194, 3)) ∧ (decode cX3_textNow 52 = .ok (.ldc 242, 2)) ∧ (decode cX3_textNow 54 = .ok (.invokevirtual 194, 3)) ∧ (decode cX3_textNow 57 = .ok (.iconst 1, 1)) ∧ (decode cX3_textNow 58 = .ok (.aload_n 0, 1)) ∧ (decode cX3_textNow 59 = .ok (.getfield 11, 3)) := by decide +kernel
theorem dX3_textNow_30 : decode cX3_textNow 30 = .ok (.ldc 175, 2) := db3_96.1
theorem dX3_textNow_32 : decode cX3_textNow 32 = .ok (.invokevirtual 194, 3) := db3_96.2.1
theorem dX3_textNow_35 : decode cX3_textNow 35 = .ok (.iload_n 2, 1) := db3_96.2.2.1
theorem dX3_textNow_36 : decode cX3_textNow 36 = .ok (.ifCond .ge 8, 3) := db3_96.2.2.2.1
theorem dX3_textNow_39 : decode cX3_textNow 39 = .ok (.iload_n 2, 1) := db3_96.2.2.2.2.1
theorem dX3_textNow_40 : decode cX3_textNow 40 = .ok (.ineg, 1) := db3_96.2.2.2.2.2.1
theorem dX3_textNow_41 : decode cX3_textNow 41 = .ok (.goto 4, 3) := db3_96.2.2.2.2.2.2.1
theorem dX3_textNow_44 : decode cX3_textNow 44 = .ok (.iload_n 2, 1) := db3_96.2.2.2.2.2.2.2.1
theorem dX3_textNow_45 : decode cX3_textNow 45 = .ok (.iconst 4, 1) := db3_96.2.2.2.2.2.2.2.2.1
theorem dX3_textNow_46 : decode cX3_textNow 46 = .ok (.invokestatic 244, 3) := db3_96.2.2.2.2.2.2.2.2.2.1
theorem dX3_textNow_49 : decode cX3_textNow 49 = .ok (.invokevirtual 194, 3) := db3_96.2.2.2.2.2.2.2.2.2.2.1
theorem dX3_textNow_52 : decode cX3_textNow 52 = .ok (.ldc 242, 2) := db3_96.2.2.2.2.2.2.2.2.2.2.2.1
theorem dX3_textNow_54 : decode cX3_textNow 54 = .ok (.invokevirtual 194, 3) := db3_96.2.2.2.2.2.2.2.2.2.2.2.2.1
theorem dX3_textNow_57 : decode cX3_textNow 57 = .ok (.iconst 1, 1) := db3_96.2.2.2.2.2.2.2.2.2.2.2.2.2.1
theorem dX3_textNow_58 : decode cX3_textNow 58 = .ok (.aload_n 0, 1) := db3_96.2.2.2.2.2.2.2.2.2.2.2.2.2.2.1
theorem dX3_textNow_59 : decode cX3_textNow 59 = .ok (.getfield 11, 3) := db3_96.2.2.2.2.2.2.2.2.2.2.2.2.2.2.2
theorem db3_97 : (decode cX3_textNow 62 = .ok (.iload_n 1, 1)) ∧ (decode cX3_textNow 63 = .ok (.aaload, 1)) ∧ (decode cX3_textNow 64 = .ok (.iconst 0, 1)) ∧ (decode cX3_textNow 65 = .ok (.iaload, 1)) ∧ (decode cX3_textNow 66 = .ok (.bipush 12, 2)) ∧ (decode cX3_textNow 68 = .ok (.invokestatic 39, 3)) ∧ (decode cX3_textNow 71 = .ok (.iadd, 1)) ∧ (decode cX3_textNow 72 = .ok (.iconst 2, 1)) ∧ (decode cX3_textNow 73 = .ok (.invokestatic 244, 3)) ∧ (decode cX3_textNow 76 = .ok (.invokevirtual 194, 3)) ∧ (decode cX3_textNow 79 = .ok (.ldc 242, 2)) ∧ (decode cX3_textNow 81 = .ok (.invokevirtual 194, 3)) ∧ (decode cX3_textNow 84 = .ok (.aload_n 0, 1)) ∧ (decode cX3_textNow 85 = .ok (.getfield 11, 3)) ∧ (decode cX3_textNow 88 = .ok (.iload_n 1, 1)) ∧ (decode cX3_textNow 89 = .ok (.aaload, 1)) := by decide +kernel
theorem dX3_textNow_62 : decode cX3_textNow 62 = .ok (.iload_n 1, 1) := db3_97.1
theorem dX3_textNow_63 : decode cX3_textNow 63 = .ok (.aaload, 1) := db3_97.2.1
theorem dX3_textNow_64 : decode cX3_textNow 64 = .ok (.iconst 0, 1) := db3_97.2.2.1
theorem dX3_textNow_65 : decode cX3_textNow 65 = .ok (.iaload, 1) := db3_97.2.2.2.1
theorem dX3_textNow_66 : decode cX3_textNow 66 = .ok (.bipush 12, 2) := db3_97.2.2.2.2.1
theorem dX3_textNow_68 : decode cX3_textNow 68 = .ok (.invokestatic 39, 3) := db3_97.2.2.2.2.2.1
theorem dX3_textNow_71 : decode cX3_textNow 71 = .ok (.iadd, 1) := db3_97.2.2.2.2.2.2.1
theorem dX3_textNow_72 : decode cX3_textNow 72 = .ok (.iconst 2, 1) := db3_97.2.2.2.2.2.2.2.1
theorem dX3_textNow_73 : decode cX3_textNow 73 = .ok (.invokestatic 244, 3) := db3_97.2.2.2.2.2.2.2.2.1
theorem dX3_textNow_76 : decode cX3_textNow 76 = .ok (.invokevirtual 194, 3) := db3_97.2.2.2.2.2.2.2.2.2.1
theorem dX3_textNow_79 : decode cX3_textNow 79 = .ok (.ldc 242, 2) := db3_97.2.2.2.2.2.2.2.2.2.2.1
theorem dX3_textNow_81 : decode cX3_textNow 81 = .ok (.invokevirtual 194, 3) := db3_97.2.2.2.2.2.2.2.2.2.2.2.1
theorem dX3_textNow_84 : decode cX3_textNow 84 = .ok (.aload_n 0, 1) := db3_97.2.2.2.2.2.2.2.2.2.2.2.2.1
theorem dX3_textNow_85 : decode cX3_textNow 85 = .ok (.getfield 11, 3) := db3_97.2.2.2.2.2.2.2.2.2.2.2.2.2.1
theorem dX3_textNow_88 : decode cX3_textNow 88 = .ok (.iload_n 1, 1) := db3_97.2.2.2.2.2.2.2.2.2.2.2.2.2.2.1
theorem dX3_textNow_89 : decode cX3_textNow 89 = .ok (.aaload, 1) := db3_97.2.2.2.2.2.2.2.2.2.2.2.2.2.2.2
theorem db3_98 : (decode cX3_textNow 90 = .ok (.iconst 1, 1)) ∧ (decode cX3_textNow 91 = .ok (.iaload, 1)) ∧ (decode cX3_textNow 92 = .ok (.iconst 2, 1)) ∧ (decode cX3_textNow 93 = .ok (.invokestatic 244, 3)) ∧ (decode cX3_textNow 96 = .ok (.invokevirtual 194, 3)) ∧ (decode cX3_textNow 99 = .ok (.invokevirtual 208, 3)) ∧ (decode cX3_textNow 102 = .ok (.areturn, 1)) := by decide +kernel
theorem dX3_textNow_90 : decode cX3_textNow 90 = .ok (.iconst 1, 1) := db3_98.1
theorem dX3_textNow_91 : decode cX3_textNow 91 = .ok (.iaload, 1) := db3_98.2.1
theorem dX3_textNow_92 : decode cX3_textNow 92 = .ok (.iconst 2, 1) := db3_98.2.2.1
theorem dX3_textNow_93 : decode cX3_textNow 93 = .ok (.invokestatic 244, 3) := db3_98.2.2.2.1
theorem dX3_textNow_96 : decode cX3_textNow 96 = .ok (.invokevirtual 194, 3) := db3_98.2.2.2.2.1
theorem dX3_textNow_99 : decode cX3_textNow 99 = .ok (.invokevirtual 208, 3) := db3_98.2.2.2.2.2.1
theorem dX3_textNow_102 : decode cX3_textNow 102 = .ok (.areturn, 1) := db3_98.2.2.2.2.2.2
theorem db3_99 : (decode cX3_text 0 = .ok (.aload_n 0, 1)) ∧ (decode cX3_text 1 = .ok (.iload_n 1, 1)) ∧ (decode cX3_text 2 = .ok (.invokestatic 31, 3)) ∧ (decode cX3_text 5 = .ok (.iconst 0, 1)) ∧ (decode cX3_text 6 = .ok (.iconst 0, 1)) ∧ (decode cX3_text 7 = .ok (.invokevirtual 77, 3)) ∧ (decode cX3_text 10 = .ok (.ifCond .eq 8, 3)) ∧ (decode cX3_text 13 = .ok (.ldc 175, 2)) ∧ (decode cX3_text 15 = .ok (.goto 8, 3)) ∧ (decode cX3_text 18 = .ok (.aload_n 0, 1)) ∧ (decode cX3_text 19 = .ok (.iload_n 1, 1)) ∧ (decode cX3_text 20 = .ok (.invokevirtual 248, 3)) ∧ (decode cX3_text 23 = .ok (.areturn, 1)) := by decide +kernel
theorem dX3_text_0 : decode cX3_text 0 = .ok (.aload_n 0, 1) := db3_99.1
theorem dX3_text_1 : decode cX3_text 1 = .ok (.iload_n 1, 1) := db3_99.2.1
theorem dX3_text_2 : decode cX3_text 2 = .ok (.invokestatic 31, 3) := db3_99.2.2.1
theorem dX3_text_5 : decode cX3_text 5 = .ok (.iconst 0, 1) := db3_99.2.2.2.1
theorem dX3_text_6 : decode cX3_text 6 = .ok (.iconst 0, 1) := db3_99.2.2.2.2.1
theorem dX3_text_7 : decode cX3_text 7 = .ok (.invokevirtual 77, 3) := db3_99.2.2.2.2.2.1
theorem dX3_text_10 : decode cX3_text 10 = .ok (.ifCond .eq 8, 3) := db3_99.2.2.2.2.2.2.1
theorem dX3_text_13 : decode cX3_text 13 = .ok (.ldc 175, 2) := db3_99.2.2.2.2.2.2.2.1
theorem dX3_text_15 : decode cX3_text 15 = .ok (.goto 8, 3) := db3_99.2.2.2.2.2.2.2.2.1
theorem dX3_text_18 : decode cX3_text 18 = .ok (.aload_n 0, 1) := db3_99.2.2.2.2.2.2.2.2.2.1
theorem dX3_text_19 : decode cX3_text 19 = .ok (.iload_n 1, 1) := db3_99.2.2.2.2.2.2.2.2.2.2.1
theorem dX3_text_20 : decode cX3_text 20 = .ok (.invokevirtual 248, 3) := db3_99.2.2.2.2.2.2.2.2.2.2.2.1
theorem dX3_text_23 : decode cX3_text 23 = .ok (.areturn, 1) := db3_99.2.2.2.2.2.2.2.2.2.2.2.2
theorem db3_100 : (decode cX3_order 0 = .ok (.aload_n 0, 1)) ∧ (decode cX3_order 1 = .ok (.iload_n 2, 1)) ∧ (decode cX3_order 2 = .ok (.iload_n 1, 1)) ∧ (decode cX3_order 3 = .ok (.invokevirtual 125, 3)) ∧ (decode cX3_order 6 = .ok (.invokestatic 121, 3)) ∧ (decode cX3_order 9 = .ok (.aload_n 0, 1)) ∧ (decode cX3_order 10 = .ok (.iload_n 1, 1)) ∧ (decode cX3_order 11 = .ok (.iload_n 2, 1)) ∧ (decode cX3_order 12 = .ok (.invokevirtual 125, 3)) ∧ (decode cX3_order 15 = .ok (.invokestatic 121, 3)) ∧ (decode cX3_order 18 = .ok (.isub, 1)) ∧ (decode cX3_order 19 = .ok (.ireturn, 1)) := by decide +kernel
theorem dX3_order_0 : decode cX3_order 0 = .ok (.aload_n 0, 1) := db3_100.1
theorem dX3_order_1 : decode cX3_order 1 = .ok (.iload_n 2, 1) := db3_100.2.1
theorem dX3_order_2 : decode cX3_order 2 = .ok (.iload_n 1, 1) := db3_100.2.2.1
theorem dX3_order_3 : decode cX3_order 3 = .ok (.invokevirtual 125, 3) := db3_100.2.2.2.1
theorem dX3_order_6 : decode cX3_order 6 = .ok (.invokestatic 121, 3) := db3_100.2.2.2.2.1
theorem dX3_order_9 : decode cX3_order 9 = .ok (.aload_n 0, 1) := db3_100.2.2.2.2.2.1
theorem dX3_order_10 : decode cX3_order 10 = .ok (.iload_n 1, 1) := db3_100.2.2.2.2.2.2.1
theorem dX3_order_11 : decode cX3_order 11 = .ok (.iload_n 2, 1) := db3_100.2.2.2.2.2.2.2.1
theorem dX3_order_12 : decode cX3_order 12 = .ok (.invokevirtual 125, 3) := db3_100.2.2.2.2.2.2.2.2.1
theorem dX3_order_15 : decode cX3_order 15 = .ok (.invokestatic 121, 3) := db3_100.2.2.2.2.2.2.2.2.2.1
theorem dX3_order_18 : decode cX3_order 18 = .ok (.isub, 1) := db3_100.2.2.2.2.2.2.2.2.2.2.1
theorem dX3_order_19 : decode cX3_order 19 = .ok (.ireturn, 1) := db3_100.2.2.2.2.2.2.2.2.2.2.2
theorem db3_101 : (decode cX3_compare 0 = .ok (.aload_n 0, 1)) ∧ (decode cX3_compare 1 = .ok (.iload_n 1, 1)) ∧ (decode cX3_compare 2 = .ok (.iload_n 2, 1)) ∧ (decode cX3_compare 3 = .ok (.invokestatic 93, 3)) ∧ (decode cX3_compare 6 = .ok (.iconst 0, 1)) ∧ (decode cX3_compare 7 = .ok (.iconst 0, 1)) ∧ (decode cX3_compare 8 = .ok (.invokevirtual 77, 3)) ∧ (decode cX3_compare 11 = .ok (.ifCond .eq 7, 3)) ∧ (decode cX3_compare 14 = .ok (.iconst 0, 1)) ∧ (decode cX3_compare 15 = .ok (.goto 9, 3)) ∧ (decode cX3_compare 18 = .ok (.aload_n 0, 1)) ∧ (decode cX3_compare 19 = .ok (.iload_n 1, 1)) ∧ (decode cX3_compare 20 = .ok (.iload_n 2, 1)) ∧ (decode cX3_compare 21 = .ok (.invokevirtual 252, 3)) ∧ (decode cX3_compare 24 = .ok (.ireturn, 1)) := by decide +kernel
theorem dX3_compare_0 : decode cX3_compare 0 = .ok (.aload_n 0, 1) := db3_101.1
theorem dX3_compare_1 : decode cX3_compare 1 = .ok (.iload_n 1, 1) := db3_101.2.1
theorem dX3_compare_2 : decode cX3_compare 2 = .ok (.iload_n 2, 1) := db3_101.2.2.1
theorem dX3_compare_3 : decode cX3_compare 3 = .ok (.invokestatic 93, 3) := db3_101.2.2.2.1
theorem dX3_compare_6 : decode cX3_compare 6 = .ok (.iconst 0, 1) := db3_101.2.2.2.2.1
theorem dX3_compare_7 : decode cX3_compare 7 = .ok (.iconst 0, 1) := db3_101.2.2.2.2.2.1
theorem dX3_compare_8 : decode cX3_compare 8 = .ok (.invokevirtual 77, 3) := db3_101.2.2.2.2.2.2.1
theorem dX3_compare_11 : decode cX3_compare 11 = .ok (.ifCond .eq 7, 3) := db3_101.2.2.2.2.2.2.2.1
theorem dX3_compare_14 : decode cX3_compare 14 = .ok (.iconst 0, 1) := db3_101.2.2.2.2.2.2.2.2.1
theorem dX3_compare_15 : decode cX3_compare 15 = .ok (.goto 9, 3) := db3_101.2.2.2.2.2.2.2.2.2.1
theorem dX3_compare_18 : decode cX3_compare 18 = .ok (.aload_n 0, 1) := db3_101.2.2.2.2.2.2.2.2.2.2.1
theorem dX3_compare_19 : decode cX3_compare 19 = .ok (.iload_n 1, 1) := db3_101.2.2.2.2.2.2.2.2.2.2.2.1
theorem dX3_compare_20 : decode cX3_compare 20 = .ok (.iload_n 2, 1) := db3_101.2.2.2.2.2.2.2.2.2.2.2.2.1
theorem dX3_compare_21 : decode cX3_compare 21 = .ok (.invokevirtual 252, 3) := db3_101.2.2.2.2.2.2.2.2.2.2.2.2.2.1
theorem dX3_compare_24 : decode cX3_compare 24 = .ok (.ireturn, 1) := db3_101.2.2.2.2.2.2.2.2.2.2.2.2.2.2
theorem db3_102 : (decode cX3_between 0 = .ok (.aload_n 0, 1)) ∧ (decode cX3_between 1 = .ok (.iload_n 1, 1)) ∧ (decode cX3_between 2 = .ok (.iload_n 2, 1)) ∧ (decode cX3_between 3 = .ok (.invokestatic 93, 3)) ∧ (decode cX3_between 6 = .ok (.iconst 0, 1)) ∧ (decode cX3_between 7 = .ok (.iconst 0, 1)) ∧ (decode cX3_between 8 = .ok (.invokevirtual 77, 3)) ∧ (decode cX3_between 11 = .ok (.ifCond .eq 7, 3)) ∧ (decode cX3_between 14 = .ok (.iconst 0, 1)) ∧ (decode cX3_between 15 = .ok (.goto 14, 3)) ∧ (decode cX3_between 18 = .ok (.aload_n 0, 1)) ∧ (decode cX3_between 19 = .ok (.iload_n 2, 1)) ∧ (decode cX3_between 20 = .ok (.invokevirtual 85, 3)) ∧ (decode cX3_between 23 = .ok (.aload_n 0, 1)) ∧ (decode cX3_between 24 = .ok (.iload_n 1, 1)) ∧ (decode cX3_between 25 = .ok (.invokevirtual 85, 3)) := by decide +kernel
theorem dX3_between_0 : decode cX3_between 0 = .ok (.aload_n 0, 1) := db3_102.1
theorem dX3_between_1 : decode cX3_between 1 = .ok (.iload_n 1, 1) := db3_102.2.1
theorem dX3_between_2 : decode cX3_between 2 = .ok (.iload_n 2, 1) := db3_102.2.2.1
theorem dX3_between_3 : decode cX3_between 3 = .ok (.invokestatic 93, 3) := db3_102.2.2.2.1
theorem dX3_between_6 : decode cX3_between 6 = .ok (.iconst 0, 1) := db3_102.2.2.2.2.1
theorem dX3_between_7 : decode cX3_between 7 = .ok (.iconst 0, 1) := db3_102.2.2.2.2.2.1
theorem dX3_between_8 : decode cX3_between 8 = .ok (.invokevirtual 77, 3) := db3_102.2.2.2.2.2.2.1
theorem dX3_between_11 : decode cX3_between 11 = .ok (.ifCond .eq 7, 3) := db3_102.2.2.2.2.2.2.2.1
theorem dX3_between_14 : decode cX3_between 14 = .ok (.iconst 0, 1) := db3_102.2.2.2.2.2.2.2.2.1
theorem dX3_between_15 : decode cX3_between 15 = .ok (.goto 14, 3) := db3_102.2.2.2.2.2.2.2.2.2.1
theorem dX3_between_18 : decode cX3_between 18 = .ok (.aload_n 0, 1) := db3_102.2.2.2.2.2.2.2.2.2.2.1
theorem dX3_between_19 : decode cX3_between 19 = .ok (.iload_n 2, 1) := db3_102.2.2.2.2.2.2.2.2.2.2.2.1
theorem dX3_between_20 : decode cX3_between 20 = .ok (.invokevirtual 85, 3) := db3_102.2.2.2.2.2.2.2.2.2.2.2.2.1
theorem dX3_between_23 : decode cX3_between 23 = .ok (.aload_n 0, 1) := db3_102.2.2.2.2.2.2.2.2.2.2.2.2.2.1
theorem dX3_between_24 : decode cX3_between 24 = .ok (.iload_n 1, 1) := db3_102.2.2.2.2.2.2.2.2.2.2.2.2.2.2.1
theorem dX3_between_25 : decode cX3_between 25 = .ok (.invokevirtual 85, 3) := db3_102.2.2.2.2.2.2.2.2.2.2.2.2.2.2.2
theorem db3_103 : (decode cX3_between 28 = .ok (.isub, 1)) ∧ (decode cX3_between 29 = .ok (.ireturn, 1)) := by decide +kernel
theorem dX3_between_28 : decode cX3_between 28 = .ok (.isub, 1) := db3_103.1
theorem dX3_between_29 : decode cX3_between 29 = .ok (.ireturn, 1) := db3_103.2
theorem db3_104 : (decode cX3_houseNow 0 = .ok (.iconst 0, 1)) ∧ (decode cX3_houseNow 1 = .ok (.istore_n 2, 1)) ∧ (decode cX3_houseNow 2 = .ok (.iconst 0, 1)) ∧ (decode cX3_houseNow 3 = .ok (.istore_n 3, 1)) ∧ (decode cX3_houseNow 4 = .ok (.iload_n 3, 1)) ∧ (decode cX3_houseNow 5 = .ok (.bipush 6, 2)) ∧ (decode cX3_houseNow 7 = .ok (.if_icmp .ge 59, 3)) ∧ (decode cX3_houseNow 10 = .ok (.iconst 1, 1)) ∧ (decode cX3_houseNow 11 = .ok (.istore 4, 2)) ∧ (decode cX3_houseNow 13 = .ok (.iconst 0, 1)) ∧ (decode cX3_houseNow 14 = .ok (.istore 5, 2)) ∧ (decode cX3_houseNow 16 = .ok (.iload 5, 2)) ∧ (decode cX3_houseNow 18 = .ok (.iload_n 3, 1)) ∧ (decode cX3_houseNow 19 = .ok (.if_icmp .ge 33, 3)) ∧ (decode cX3_houseNow 22 = .ok (.iload 4, 2)) ∧ (decode cX3_houseNow 24 = .ok (.aload_n 0, 1)) := by decide +kernel
theorem dX3_houseNow_0 : decode cX3_houseNow 0 = .ok (.iconst 0, 1) := db3_104.1
theorem dX3_houseNow_1 : decode cX3_houseNow 1 = .ok (.istore_n 2, 1) := db3_104.2.1
theorem dX3_houseNow_2 : decode cX3_houseNow 2 = .ok (.iconst 0, 1) := db3_104.2.2.1
theorem dX3_houseNow_3 : decode cX3_houseNow 3 = .ok (.istore_n 3, 1) := db3_104.2.2.2.1
theorem dX3_houseNow_4 : decode cX3_houseNow 4 = .ok (.iload_n 3, 1) := db3_104.2.2.2.2.1
theorem dX3_houseNow_5 : decode cX3_houseNow 5 = .ok (.bipush 6, 2) := db3_104.2.2.2.2.2.1
theorem dX3_houseNow_7 : decode cX3_houseNow 7 = .ok (.if_icmp .ge 59, 3) := db3_104.2.2.2.2.2.2.1
theorem dX3_houseNow_10 : decode cX3_houseNow 10 = .ok (.iconst 1, 1) := db3_104.2.2.2.2.2.2.2.1
theorem dX3_houseNow_11 : decode cX3_houseNow 11 = .ok (.istore 4, 2) := db3_104.2.2.2.2.2.2.2.2.1
theorem dX3_houseNow_13 : decode cX3_houseNow 13 = .ok (.iconst 0, 1) := db3_104.2.2.2.2.2.2.2.2.2.1
theorem dX3_houseNow_14 : decode cX3_houseNow 14 = .ok (.istore 5, 2) := db3_104.2.2.2.2.2.2.2.2.2.2.1
theorem dX3_houseNow_16 : decode cX3_houseNow 16 = .ok (.iload 5, 2) := db3_104.2.2.2.2.2.2.2.2.2.2.2.1
theorem dX3_houseNow_18 : decode cX3_houseNow 18 = .ok (.iload_n 3, 1) := db3_104.2.2.2.2.2.2.2.2.2.2.2.2.1
theorem dX3_houseNow_19 : decode cX3_houseNow 19 = .ok (.if_icmp .ge 33, 3) := db3_104.2.2.2.2.2.2.2.2.2.2.2.2.2.1
theorem dX3_houseNow_22 : decode cX3_houseNow 22 = .ok (.iload 4, 2) := db3_104.2.2.2.2.2.2.2.2.2.2.2.2.2.2.1
theorem dX3_houseNow_24 : decode cX3_houseNow 24 = .ok (.aload_n 0, 1) := db3_104.2.2.2.2.2.2.2.2.2.2.2.2.2.2.2
theorem db3_105 : (decode cX3_houseNow 25 = .ok (.iload 5, 2)) ∧ (decode cX3_houseNow 27 = .ok (.invokevirtual 85, 3)) ∧ (decode cX3_houseNow 30 = .ok (.aload_n 0, 1)) ∧ (decode cX3_houseNow 31 = .ok (.iload_n 3, 1)) ∧ (decode cX3_houseNow 32 = .ok (.invokevirtual 85, 3)) ∧ (decode cX3_houseNow 35 = .ok (.if_icmp .eq 7, 3)) ∧ (decode cX3_houseNow 38 = .ok (.iconst 1, 1)) ∧ (decode cX3_houseNow 39 = .ok (.goto 4, 3)) ∧ (decode cX3_houseNow 42 = .ok (.iconst 0, 1)) ∧ (decode cX3_houseNow 43 = .ok (.iand, 1)) ∧ (decode cX3_houseNow 44 = .ok (.istore 4, 2)) ∧ (decode cX3_houseNow 46 = .ok (.iinc 5 1, 3)) ∧ (decode cX3_houseNow 49 = .ok (.goto (-33), 3)) ∧ (decode cX3_houseNow 52 = .ok (.iload_n 2, 1)) ∧ (decode cX3_houseNow 53 = .ok (.iload 4, 2)) ∧ (decode cX3_houseNow 55 = .ok (.invokestatic 121, 3)) := by decide +kernel
theorem dX3_houseNow_25 : decode cX3_houseNow 25 = .ok (.iload 5, 2) := db3_105.1
theorem dX3_houseNow_27 : decode cX3_houseNow 27 = .ok (.invokevirtual 85, 3) := db3_105.2.1
theorem dX3_houseNow_30 : decode cX3_houseNow 30 = .ok (.aload_n 0, 1) := db3_105.2.2.1
theorem dX3_houseNow_31 : decode cX3_houseNow 31 = .ok (.iload_n 3, 1) := db3_105.2.2.2.1
theorem dX3_houseNow_32 : decode cX3_houseNow 32 = .ok (.invokevirtual 85, 3) := db3_105.2.2.2.2.1
theorem dX3_houseNow_35 : decode cX3_houseNow 35 = .ok (.if_icmp .eq 7, 3) := db3_105.2.2.2.2.2.1
theorem dX3_houseNow_38 : decode cX3_houseNow 38 = .ok (.iconst 1, 1) := db3_105.2.2.2.2.2.2.1
theorem dX3_houseNow_39 : decode cX3_houseNow 39 = .ok (.goto 4, 3) := db3_105.2.2.2.2.2.2.2.1
theorem dX3_houseNow_42 : decode cX3_houseNow 42 = .ok (.iconst 0, 1) := db3_105.2.2.2.2.2.2.2.2.1
theorem dX3_houseNow_43 : decode cX3_houseNow 43 = .ok (.iand, 1) := db3_105.2.2.2.2.2.2.2.2.2.1
theorem dX3_houseNow_44 : decode cX3_houseNow 44 = .ok (.istore 4, 2) := db3_105.2.2.2.2.2.2.2.2.2.2.1
theorem dX3_houseNow_46 : decode cX3_houseNow 46 = .ok (.iinc 5 1, 3) := db3_105.2.2.2.2.2.2.2.2.2.2.2.1
theorem dX3_houseNow_49 : decode cX3_houseNow 49 = .ok (.goto (-33), 3) := db3_105.2.2.2.2.2.2.2.2.2.2.2.2.1
theorem dX3_houseNow_52 : decode cX3_houseNow 52 = .ok (.iload_n 2, 1) := db3_105.2.2.2.2.2.2.2.2.2.2.2.2.2.1
theorem dX3_houseNow_53 : decode cX3_houseNow 53 = .ok (.iload 4, 2) := db3_105.2.2.2.2.2.2.2.2.2.2.2.2.2.2.1
theorem dX3_houseNow_55 : decode cX3_houseNow 55 = .ok (.invokestatic 121, 3) := db3_105.2.2.2.2.2.2.2.2.2.2.2.2.2.2.2
theorem db3_106 : (decode cX3_houseNow 58 = .ok (.iadd, 1)) ∧ (decode cX3_houseNow 59 = .ok (.istore_n 2, 1)) ∧ (decode cX3_houseNow 60 = .ok (.iinc 3 1, 3)) ∧ (decode cX3_houseNow 63 = .ok (.goto (-59), 3)) ∧ (decode cX3_houseNow 66 = .ok (.iconst 4, 1)) ∧ (decode cX3_houseNow 67 = .ok (.newarray .int, 2)) ∧ (decode cX3_houseNow 69 = .ok (.dup, 1)) ∧ (decode cX3_houseNow 70 = .ok (.iconst 0, 1)) ∧ (decode cX3_houseNow 71 = .ok (.aload_n 0, 1)) ∧ (decode cX3_houseNow 72 = .ok (.getfield 74, 3)) ∧ (decode cX3_houseNow 75 = .ok (.iastore, 1)) ∧ (decode cX3_houseNow 76 = .ok (.dup, 1)) ∧ (decode cX3_houseNow 77 = .ok (.iconst 1, 1)) ∧ (decode cX3_houseNow 78 = .ok (.iload_n 2, 1)) ∧ (decode cX3_houseNow 79 = .ok (.iastore, 1)) ∧ (decode cX3_houseNow 80 = .ok (.dup, 1)) := by decide +kernel
theorem dX3_houseNow_58 : decode cX3_houseNow 58 = .ok (.iadd, 1) := db3_106.1
theorem dX3_houseNow_59 : decode cX3_houseNow 59 = .ok (.istore_n 2, 1) := db3_106.2.1
theorem dX3_houseNow_60 : decode cX3_houseNow 60 = .ok (.iinc 3 1, 3) := db3_106.2.2.1
theorem dX3_houseNow_63 : decode cX3_houseNow 63 = .ok (.goto (-59), 3) := db3_106.2.2.2.1
theorem dX3_houseNow_66 : decode cX3_houseNow 66 = .ok (.iconst 4, 1) := db3_106.2.2.2.2.1
theorem dX3_houseNow_67 : decode cX3_houseNow 67 = .ok (.newarray .int, 2) := db3_106.2.2.2.2.2.1
theorem dX3_houseNow_69 : decode cX3_houseNow 69 = .ok (.dup, 1) := db3_106.2.2.2.2.2.2.1
theorem dX3_houseNow_70 : decode cX3_houseNow 70 = .ok (.iconst 0, 1) := db3_106.2.2.2.2.2.2.2.1
theorem dX3_houseNow_71 : decode cX3_houseNow 71 = .ok (.aload_n 0, 1) := db3_106.2.2.2.2.2.2.2.2.1
theorem dX3_houseNow_72 : decode cX3_houseNow 72 = .ok (.getfield 74, 3) := db3_106.2.2.2.2.2.2.2.2.2.1
theorem dX3_houseNow_75 : decode cX3_houseNow 75 = .ok (.iastore, 1) := db3_106.2.2.2.2.2.2.2.2.2.2.1
theorem dX3_houseNow_76 : decode cX3_houseNow 76 = .ok (.dup, 1) := db3_106.2.2.2.2.2.2.2.2.2.2.2.1
theorem dX3_houseNow_77 : decode cX3_houseNow 77 = .ok (.iconst 1, 1) := db3_106.2.2.2.2.2.2.2.2.2.2.2.2.1
theorem dX3_houseNow_78 : decode cX3_houseNow 78 = .ok (.iload_n 2, 1) := db3_106.2.2.2.2.2.2.2.2.2.2.2.2.2.1
theorem dX3_houseNow_79 : decode cX3_houseNow 79 = .ok (.iastore, 1) := db3_106.2.2.2.2.2.2.2.2.2.2.2.2.2.2.1
theorem dX3_houseNow_80 : decode cX3_houseNow 80 = .ok (.dup, 1) := db3_106.2.2.2.2.2.2.2.2.2.2.2.2.2.2.2
theorem db3_107 : (decode cX3_houseNow 81 = .ok (.iconst 2, 1)) ∧ (decode cX3_houseNow 82 = .ok (.aload_n 0, 1)) ∧ (decode cX3_houseNow 83 = .ok (.getfield 220, 3)) ∧ (decode cX3_houseNow 86 = .ok (.iastore, 1)) ∧ (decode cX3_houseNow 87 = .ok (.dup, 1)) ∧ (decode cX3_houseNow 88 = .ok (.iconst 3, 1)) ∧ (decode cX3_houseNow 89 = .ok (.aload_n 0, 1)) ∧ (decode cX3_houseNow 90 = .ok (.getfield 255, 3)) ∧ (decode cX3_houseNow 93 = .ok (.iastore, 1)) ∧ (decode cX3_houseNow 94 = .ok (.astore_n 3, 1)) ∧ (decode cX3_houseNow 95 = .ok (.aload_n 3, 1)) ∧ (decode cX3_houseNow 96 = .ok (.iload_n 1, 1)) ∧ (decode cX3_houseNow 97 = .ok (.iaload, 1)) ∧ (decode cX3_houseNow 98 = .ok (.ireturn, 1)) := by decide +kernel
theorem dX3_houseNow_81 : decode cX3_houseNow 81 = .ok (.iconst 2, 1) := db3_107.1
theorem dX3_houseNow_82 : decode cX3_houseNow 82 = .ok (.aload_n 0, 1) := db3_107.2.1
theorem dX3_houseNow_83 : decode cX3_houseNow 83 = .ok (.getfield 220, 3) := db3_107.2.2.1
theorem dX3_houseNow_86 : decode cX3_houseNow 86 = .ok (.iastore, 1) := db3_107.2.2.2.1
theorem dX3_houseNow_87 : decode cX3_houseNow 87 = .ok (.dup, 1) := db3_107.2.2.2.2.1
theorem dX3_houseNow_88 : decode cX3_houseNow 88 = .ok (.iconst 3, 1) := db3_107.2.2.2.2.2.1
theorem dX3_houseNow_89 : decode cX3_houseNow 89 = .ok (.aload_n 0, 1) := db3_107.2.2.2.2.2.2.1
theorem dX3_houseNow_90 : decode cX3_houseNow 90 = .ok (.getfield 255, 3) := db3_107.2.2.2.2.2.2.2.1
theorem dX3_houseNow_93 : decode cX3_houseNow 93 = .ok (.iastore, 1) := db3_107.2.2.2.2.2.2.2.2.1
theorem dX3_houseNow_94 : decode cX3_houseNow 94 = .ok (.astore_n 3, 1) := db3_107.2.2.2.2.2.2.2.2.2.1
theorem dX3_houseNow_95 : decode cX3_houseNow 95 = .ok (.aload_n 3, 1) := db3_107.2.2.2.2.2.2.2.2.2.2.1
theorem dX3_houseNow_96 : decode cX3_houseNow 96 = .ok (.iload_n 1, 1) := db3_107.2.2.2.2.2.2.2.2.2.2.2.1
theorem dX3_houseNow_97 : decode cX3_houseNow 97 = .ok (.iaload, 1) := db3_107.2.2.2.2.2.2.2.2.2.2.2.2.1
theorem dX3_houseNow_98 : decode cX3_houseNow 98 = .ok (.ireturn, 1) := db3_107.2.2.2.2.2.2.2.2.2.2.2.2.2
theorem db3_108 : (decode cX3_house 0 = .ok (.aload_n 0, 1)) ∧ (decode cX3_house 1 = .ok (.iload_n 1, 1)) ∧ (decode cX3_house 2 = .ok (.iconst 0, 1)) ∧ (decode cX3_house 3 = .ok (.iconst 3, 1)) ∧ (decode cX3_house 4 = .ok (.invokestatic 27, 3)) ∧ (decode cX3_house 7 = .ok (.iconst 0, 1)) ∧ (decode cX3_house 8 = .ok (.iconst 0, 1)) ∧ (decode cX3_house 9 = .ok (.invokevirtual 77, 3)) ∧ (decode cX3_house 12 = .ok (.ifCond .eq 7, 3)) ∧ (decode cX3_house 15 = .ok (.iconst 0, 1)) ∧ (decode cX3_house 16 = .ok (.goto 8, 3)) ∧ (decode cX3_house 19 = .ok (.aload_n 0, 1)) ∧ (decode cX3_house 20 = .ok (.iload_n 1, 1)) ∧ (decode cX3_house 21 = .ok (.invokevirtual 258, 3)) ∧ (decode cX3_house 24 = .ok (.ireturn, 1)) := by decide +kernel
theorem dX3_house_0 : decode cX3_house 0 = .ok (.aload_n 0, 1) := db3_108.1
theorem dX3_house_1 : decode cX3_house 1 = .ok (.iload_n 1, 1) := db3_108.2.1
theorem dX3_house_2 : decode cX3_house 2 = .ok (.iconst 0, 1) := db3_108.2.2.1
theorem dX3_house_3 : decode cX3_house 3 = .ok (.iconst 3, 1) := db3_108.2.2.2.1
theorem dX3_house_4 : decode cX3_house 4 = .ok (.invokestatic 27, 3) := db3_108.2.2.2.2.1
theorem dX3_house_7 : decode cX3_house 7 = .ok (.iconst 0, 1) := db3_108.2.2.2.2.2.1
theorem dX3_house_8 : decode cX3_house 8 = .ok (.iconst 0, 1) := db3_108.2.2.2.2.2.2.1
theorem dX3_house_9 : decode cX3_house 9 = .ok (.invokevirtual 77, 3) := db3_108.2.2.2.2.2.2.2.1
theorem dX3_house_12 : decode cX3_house 12 = .ok (.ifCond .eq 7, 3) := db3_108.2.2.2.2.2.2.2.2.1
theorem dX3_house_15 : decode cX3_house 15 = .ok (.iconst 0, 1) := db3_108.2.2.2.2.2.2.2.2.2.1
theorem dX3_house_16 : decode cX3_house 16 = .ok (.goto 8, 3) := db3_108.2.2.2.2.2.2.2.2.2.2.1
theorem dX3_house_19 : decode cX3_house 19 = .ok (.aload_n 0, 1) := db3_108.2.2.2.2.2.2.2.2.2.2.2.1
theorem dX3_house_20 : decode cX3_house 20 = .ok (.iload_n 1, 1) := db3_108.2.2.2.2.2.2.2.2.2.2.2.2.1
theorem dX3_house_21 : decode cX3_house 21 = .ok (.invokevirtual 258, 3) := db3_108.2.2.2.2.2.2.2.2.2.2.2.2.2.1
theorem dX3_house_24 : decode cX3_house 24 = .ok (.ireturn, 1) := db3_108.2.2.2.2.2.2.2.2.2.2.2.2.2.2
theorem db3_109 : (decode cX3_knock 0 = .ok (.aload_n 0, 1)) ∧ (decode cX3_knock 1 = .ok (.iconst 0, 1)) ∧ (decode cX3_knock 2 = .ok (.putfield 23, 3)) ∧ (decode cX3_knock 5 = .ok (.aload_n 0, 1)) ∧ (decode cX3_knock 6 = .ok (.dup, 1)) ∧ (decode cX3_knock 7 = .ok (.getfield 255, 3)) ∧ (decode cX3_knock 10 = .ok (.iconst 1, 1)) ∧ (decode cX3_knock 11 = .ok (.iadd, 1)) ∧ (decode cX3_knock 12 = .ok (.putfield 255, 3)) ∧ (decode cX3_knock 15 = .ok (.aload_n 0, 1)) ∧ (decode cX3_knock 16 = .ok (.getfield 255, 3)) ∧ (decode cX3_knock 19 = .ok (.ireturn, 1)) := by decide +kernel
theorem dX3_knock_0 : decode cX3_knock 0 = .ok (.aload_n 0, 1) := db3_109.1
theorem dX3_knock_1 : decode cX3_knock 1 = .ok (.iconst 0, 1) := db3_109.2.1
theorem dX3_knock_2 : decode cX3_knock 2 = .ok (.putfield 23, 3) := db3_109.2.2.1
theorem dX3_knock_5 : decode cX3_knock 5 = .ok (.aload_n 0, 1) := db3_109.2.2.2.1
theorem dX3_knock_6 : decode cX3_knock 6 = .ok (.dup, 1) := db3_109.2.2.2.2.1
theorem dX3_knock_7 : decode cX3_knock 7 = .ok (.getfield 255, 3) := db3_109.2.2.2.2.2.1
theorem dX3_knock_10 : decode cX3_knock 10 = .ok (.iconst 1, 1) := db3_109.2.2.2.2.2.2.1
theorem dX3_knock_11 : decode cX3_knock 11 = .ok (.iadd, 1) := db3_109.2.2.2.2.2.2.2.1
theorem dX3_knock_12 : decode cX3_knock 12 = .ok (.putfield 255, 3) := db3_109.2.2.2.2.2.2.2.2.1
theorem dX3_knock_15 : decode cX3_knock 15 = .ok (.aload_n 0, 1) := db3_109.2.2.2.2.2.2.2.2.2.1
theorem dX3_knock_16 : decode cX3_knock 16 = .ok (.getfield 255, 3) := db3_109.2.2.2.2.2.2.2.2.2.2.1
theorem dX3_knock_19 : decode cX3_knock 19 = .ok (.ireturn, 1) := db3_109.2.2.2.2.2.2.2.2.2.2.2
theorem db3_110 : (decode cX3_isSound 0 = .ok (.aload_n 0, 1)) ∧ (decode cX3_isSound 1 = .ok (.iconst 0, 1)) ∧ (decode cX3_isSound 2 = .ok (.putfield 23, 3)) ∧ (decode cX3_isSound 5 = .ok (.iconst 1, 1)) ∧ (decode cX3_isSound 6 = .ok (.ireturn, 1)) := by decide +kernel
theorem dX3_isSound_0 : decode cX3_isSound 0 = .ok (.aload_n 0, 1) := db3_110.1
theorem dX3_isSound_1 : decode cX3_isSound 1 = .ok (.iconst 0, 1) := db3_110.2.1
theorem dX3_isSound_2 : decode cX3_isSound 2 = .ok (.putfield 23, 3) := db3_110.2.2.1
theorem dX3_isSound_5 : decode cX3_isSound 5 = .ok (.iconst 1, 1) := db3_110.2.2.2.1
theorem dX3_isSound_6 : decode cX3_isSound 6 = .ok (.ireturn, 1) := db3_110.2.2.2.2
theorem db3_111 : (decode cX3_digest 0 = .ok (.aload_n 0, 1)) ∧ (decode cX3_digest 1 = .ok (.iconst 0, 1)) ∧ (decode cX3_digest 2 = .ok (.putfield 23, 3)) ∧ (decode cX3_digest 5 = .ok (.ldc2_w 261, 3)) ∧ (decode cX3_digest 8 = .ok (.lstore_n 1, 1)) ∧ (decode cX3_digest 9 = .ok (.iconst 0, 1)) ∧ (decode cX3_digest 10 = .ok (.istore_n 3, 1)) ∧ (decode cX3_digest 11 = .ok (.iload_n 3, 1)) ∧ (decode cX3_digest 12 = .ok (.iconst 4, 1)) ∧ (decode cX3_digest 13 = .ok (.if_icmp .ge 22, 3)) ∧ (decode cX3_digest 16 = .ok (.lload_n 1, 1)) ∧ (decode cX3_digest 17 = .ok (.ldc2_w 263, 3)) ∧ (decode cX3_digest 20 = .ok (.lmul, 1)) ∧ (decode cX3_digest 21 = .ok (.aload_n 0, 1)) ∧ (decode cX3_digest 22 = .ok (.iload_n 3, 1)) ∧ (decode cX3_digest 23 = .ok (.invokevirtual 258, 3)) := by decide +kernel
theorem dX3_digest_0 : decode cX3_digest 0 = .ok (.aload_n 0, 1) := db3_111.1
theorem dX3_digest_1 : decode cX3_digest 1 = .ok (.iconst 0, 1) := db3_111.2.1
theorem dX3_digest_2 : decode cX3_digest 2 = .ok (.putfield 23, 3) := db3_111.2.2.1
theorem dX3_digest_5 : decode cX3_digest 5 = .ok (.ldc2_w 261, 3) := db3_111.2.2.2.1
theorem dX3_digest_8 : decode cX3_digest 8 = .ok (.lstore_n 1, 1) := db3_111.2.2.2.2.1
theorem dX3_digest_9 : decode cX3_digest 9 = .ok (.iconst 0, 1) := db3_111.2.2.2.2.2.1
theorem dX3_digest_10 : decode cX3_digest 10 = .ok (.istore_n 3, 1) := db3_111.2.2.2.2.2.2.1
theorem dX3_digest_11 : decode cX3_digest 11 = .ok (.iload_n 3, 1) := db3_111.2.2.2.2.2.2.2.1
theorem dX3_digest_12 : decode cX3_digest 12 = .ok (.iconst 4, 1) := db3_111.2.2.2.2.2.2.2.2.1
theorem dX3_digest_13 : decode cX3_digest 13 = .ok (.if_icmp .ge 22, 3) := db3_111.2.2.2.2.2.2.2.2.2.1
theorem dX3_digest_16 : decode cX3_digest 16 = .ok (.lload_n 1, 1) := db3_111.2.2.2.2.2.2.2.2.2.2.1
theorem dX3_digest_17 : decode cX3_digest 17 = .ok (.ldc2_w 263, 3) := db3_111.2.2.2.2.2.2.2.2.2.2.2.1
theorem dX3_digest_20 : decode cX3_digest 20 = .ok (.lmul, 1) := db3_111.2.2.2.2.2.2.2.2.2.2.2.2.1
theorem dX3_digest_21 : decode cX3_digest 21 = .ok (.aload_n 0, 1) := db3_111.2.2.2.2.2.2.2.2.2.2.2.2.2.1
theorem dX3_digest_22 : decode cX3_digest 22 = .ok (.iload_n 3, 1) := db3_111.2.2.2.2.2.2.2.2.2.2.2.2.2.2.1
theorem dX3_digest_23 : decode cX3_digest 23 = .ok (.invokevirtual 258, 3) := db3_111.2.2.2.2.2.2.2.2.2.2.2.2.2.2.2
theorem db3_112 : (decode cX3_digest 26 = .ok (.i2l, 1)) ∧ (decode cX3_digest 27 = .ok (.ladd, 1)) ∧ (decode cX3_digest 28 = .ok (.lstore_n 1, 1)) ∧ (decode cX3_digest 29 = .ok (.iinc 3 1, 3)) ∧ (decode cX3_digest 32 = .ok (.goto (-21), 3)) ∧ (decode cX3_digest 35 = .ok (.iconst 0, 1)) ∧ (decode cX3_digest 36 = .ok (.istore_n 3, 1)) ∧ (decode cX3_digest 37 = .ok (.iload_n 3, 1)) ∧ (decode cX3_digest 38 = .ok (.bipush 6, 2)) ∧ (decode cX3_digest 40 = .ok (.if_icmp .ge 217, 3)) ∧ (decode cX3_digest 43 = .ok (.iload_n 3, 1)) ∧ (decode cX3_digest 44 = .ok (.iconst 1, 1)) ∧ (decode cX3_digest 45 = .ok (.iadd, 1)) ∧ (decode cX3_digest 46 = .ok (.bipush 6, 2)) ∧ (decode cX3_digest 48 = .ok (.irem, 1)) ∧ (decode cX3_digest 49 = .ok (.istore 4, 2)) := by decide +kernel
theorem dX3_digest_26 : decode cX3_digest 26 = .ok (.i2l, 1) := db3_112.1
theorem dX3_digest_27 : decode cX3_digest 27 = .ok (.ladd, 1) := db3_112.2.1
theorem dX3_digest_28 : decode cX3_digest 28 = .ok (.lstore_n 1, 1) := db3_112.2.2.1
theorem dX3_digest_29 : decode cX3_digest 29 = .ok (.iinc 3 1, 3) := db3_112.2.2.2.1
theorem dX3_digest_32 : decode cX3_digest 32 = .ok (.goto (-21), 3) := db3_112.2.2.2.2.1
theorem dX3_digest_35 : decode cX3_digest 35 = .ok (.iconst 0, 1) := db3_112.2.2.2.2.2.1
theorem dX3_digest_36 : decode cX3_digest 36 = .ok (.istore_n 3, 1) := db3_112.2.2.2.2.2.2.1
theorem dX3_digest_37 : decode cX3_digest 37 = .ok (.iload_n 3, 1) := db3_112.2.2.2.2.2.2.2.1
theorem dX3_digest_38 : decode cX3_digest 38 = .ok (.bipush 6, 2) := db3_112.2.2.2.2.2.2.2.2.1
theorem dX3_digest_40 : decode cX3_digest 40 = .ok (.if_icmp .ge 217, 3) := db3_112.2.2.2.2.2.2.2.2.2.1
theorem dX3_digest_43 : decode cX3_digest 43 = .ok (.iload_n 3, 1) := db3_112.2.2.2.2.2.2.2.2.2.2.1
theorem dX3_digest_44 : decode cX3_digest 44 = .ok (.iconst 1, 1) := db3_112.2.2.2.2.2.2.2.2.2.2.2.1
theorem dX3_digest_45 : decode cX3_digest 45 = .ok (.iadd, 1) := db3_112.2.2.2.2.2.2.2.2.2.2.2.2.1
theorem dX3_digest_46 : decode cX3_digest 46 = .ok (.bipush 6, 2) := db3_112.2.2.2.2.2.2.2.2.2.2.2.2.2.1
theorem dX3_digest_48 : decode cX3_digest 48 = .ok (.irem, 1) := db3_112.2.2.2.2.2.2.2.2.2.2.2.2.2.2.1
theorem dX3_digest_49 : decode cX3_digest 49 = .ok (.istore 4, 2) := db3_112.2.2.2.2.2.2.2.2.2.2.2.2.2.2.2
theorem db3_113 : (decode cX3_digest 51 = .ok (.bipush 13, 2)) ∧ (decode cX3_digest 53 = .ok (.newarray .int, 2)) ∧ (decode cX3_digest 55 = .ok (.dup, 1)) ∧ (decode cX3_digest 56 = .ok (.iconst 0, 1)) ∧ (decode cX3_digest 57 = .ok (.aload_n 0, 1)) ∧ (decode cX3_digest 58 = .ok (.iload_n 3, 1)) ∧ (decode cX3_digest 59 = .ok (.invokevirtual 85, 3)) ∧ (decode cX3_digest 62 = .ok (.iastore, 1)) ∧ (decode cX3_digest 63 = .ok (.dup, 1)) ∧ (decode cX3_digest 64 = .ok (.iconst 1, 1)) ∧ (decode cX3_digest 65 = .ok (.aload_n 0, 1)) ∧ (decode cX3_digest 66 = .ok (.getfield 11, 3)) ∧ (decode cX3_digest 69 = .ok (.iload_n 3, 1)) ∧ (decode cX3_digest 70 = .ok (.aaload, 1)) ∧ (decode cX3_digest 71 = .ok (.iconst 0, 1)) ∧ (decode cX3_digest 72 = .ok (.iaload, 1)) := by decide +kernel
theorem dX3_digest_51 : decode cX3_digest 51 = .ok (.bipush 13, 2) := db3_113.1
theorem dX3_digest_53 : decode cX3_digest 53 = .ok (.newarray .int, 2) := db3_113.2.1
theorem dX3_digest_55 : decode cX3_digest 55 = .ok (.dup, 1) := db3_113.2.2.1
theorem dX3_digest_56 : decode cX3_digest 56 = .ok (.iconst 0, 1) := db3_113.2.2.2.1
theorem dX3_digest_57 : decode cX3_digest 57 = .ok (.aload_n 0, 1) := db3_113.2.2.2.2.1
theorem dX3_digest_58 : decode cX3_digest 58 = .ok (.iload_n 3, 1) := db3_113.2.2.2.2.2.1
theorem dX3_digest_59 : decode cX3_digest 59 = .ok (.invokevirtual 85, 3) := db3_113.2.2.2.2.2.2.1
theorem dX3_digest_62 : decode cX3_digest 62 = .ok (.iastore, 1) := db3_113.2.2.2.2.2.2.2.1
theorem dX3_digest_63 : decode cX3_digest 63 = .ok (.dup, 1) := db3_113.2.2.2.2.2.2.2.2.1
theorem dX3_digest_64 : decode cX3_digest 64 = .ok (.iconst 1, 1) := db3_113.2.2.2.2.2.2.2.2.2.1
theorem dX3_digest_65 : decode cX3_digest 65 = .ok (.aload_n 0, 1) := db3_113.2.2.2.2.2.2.2.2.2.2.1
theorem dX3_digest_66 : decode cX3_digest 66 = .ok (.getfield 11, 3) := db3_113.2.2.2.2.2.2.2.2.2.2.2.1
theorem dX3_digest_69 : decode cX3_digest 69 = .ok (.iload_n 3, 1) := db3_113.2.2.2.2.2.2.2.2.2.2.2.2.1
theorem dX3_digest_70 : decode cX3_digest 70 = .ok (.aaload, 1) := db3_113.2.2.2.2.2.2.2.2.2.2.2.2.2.1
theorem dX3_digest_71 : decode cX3_digest 71 = .ok (.iconst 0, 1) := db3_113.2.2.2.2.2.2.2.2.2.2.2.2.2.2.1
theorem dX3_digest_72 : decode cX3_digest 72 = .ok (.iaload, 1) := db3_113.2.2.2.2.2.2.2.2.2.2.2.2.2.2.2
theorem db3_114 : (decode cX3_digest 73 = .ok (.iastore, 1)) ∧ (decode cX3_digest 74 = .ok (.dup, 1)) ∧ (decode cX3_digest 75 = .ok (.iconst 2, 1)) ∧ (decode cX3_digest 76 = .ok (.aload_n 0, 1)) ∧ (decode cX3_digest 77 = .ok (.getfield 11, 3)) ∧ (decode cX3_digest 80 = .ok (.iload_n 3, 1)) ∧ (decode cX3_digest 81 = .ok (.aaload, 1)) ∧ (decode cX3_digest 82 = .ok (.iconst 1, 1)) ∧ (decode cX3_digest 83 = .ok (.iaload, 1)) ∧ (decode cX3_digest 84 = .ok (.iastore, 1)) ∧ (decode cX3_digest 85 = .ok (.dup, 1)) ∧ (decode cX3_digest 86 = .ok (.iconst 3, 1)) ∧ (decode cX3_digest 87 = .ok (.aload_n 0, 1)) ∧ (decode cX3_digest 88 = .ok (.iload_n 3, 1)) ∧ (decode cX3_digest 89 = .ok (.invokevirtual 85, 3)) ∧ (decode cX3_digest 92 = .ok (.invokestatic 88, 3)) := by decide +kernel
theorem dX3_digest_73 : decode cX3_digest 73 = .ok (.iastore, 1) := db3_114.1
theorem dX3_digest_74 : decode cX3_digest 74 = .ok (.dup, 1) := db3_114.2.1
theorem dX3_digest_75 : decode cX3_digest 75 = .ok (.iconst 2, 1) := db3_114.2.2.1
theorem dX3_digest_76 : decode cX3_digest 76 = .ok (.aload_n 0, 1) := db3_114.2.2.2.1
theorem dX3_digest_77 : decode cX3_digest 77 = .ok (.getfield 11, 3) := db3_114.2.2.2.2.1
theorem dX3_digest_80 : decode cX3_digest 80 = .ok (.iload_n 3, 1) := db3_114.2.2.2.2.2.1
theorem dX3_digest_81 : decode cX3_digest 81 = .ok (.aaload, 1) := db3_114.2.2.2.2.2.2.1
theorem dX3_digest_82 : decode cX3_digest 82 = .ok (.iconst 1, 1) := db3_114.2.2.2.2.2.2.2.1
theorem dX3_digest_83 : decode cX3_digest 83 = .ok (.iaload, 1) := db3_114.2.2.2.2.2.2.2.2.1
theorem dX3_digest_84 : decode cX3_digest 84 = .ok (.iastore, 1) := db3_114.2.2.2.2.2.2.2.2.2.1
theorem dX3_digest_85 : decode cX3_digest 85 = .ok (.dup, 1) := db3_114.2.2.2.2.2.2.2.2.2.2.1
theorem dX3_digest_86 : decode cX3_digest 86 = .ok (.iconst 3, 1) := db3_114.2.2.2.2.2.2.2.2.2.2.2.1
theorem dX3_digest_87 : decode cX3_digest 87 = .ok (.aload_n 0, 1) := db3_114.2.2.2.2.2.2.2.2.2.2.2.2.1
theorem dX3_digest_88 : decode cX3_digest 88 = .ok (.iload_n 3, 1) := db3_114.2.2.2.2.2.2.2.2.2.2.2.2.2.1
theorem dX3_digest_89 : decode cX3_digest 89 = .ok (.invokevirtual 85, 3) := db3_114.2.2.2.2.2.2.2.2.2.2.2.2.2.2.1
theorem dX3_digest_92 : decode cX3_digest 92 = .ok (.invokestatic 88, 3) := db3_114.2.2.2.2.2.2.2.2.2.2.2.2.2.2.2
theorem db3_115 : (decode cX3_digest 95 = .ok (.iastore, 1)) ∧ (decode cX3_digest 96 = .ok (.dup, 1)) ∧ (decode cX3_digest 97 = .ok (.iconst 4, 1)) := by decide +kernel
theorem dX3_digest_95 : decode cX3_digest 95 = .ok (.iastore, 1) := db3_115.1
theorem dX3_digest_96 : decode cX3_digest 96 = .ok (.dup, 1) := db3_115.2.1
theorem dX3_digest_97 : decode cX3_digest 97 = .ok (.iconst 4, 1) := db3_115.2.2
