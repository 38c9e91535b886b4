theorem db2_1 : (decode cX1_text 107 = .ok (.getfield 25, 3)) ∧ (decode cX1_text 110 = .ok (.invokevirtual 135, 3)) ∧ (decode cX1_text 113 = .ok (.areturn, 1)) := by decide +kernel
theorem dX1_text_107 : decode cX1_text 107 = .ok (.getfield 25, 3) := db2_1.1
theorem dX1_text_110 : decode cX1_text 110 = .ok (.invokevirtual 135, 3) := db2_1.2.1
theorem dX1_text_113 : decode cX1_text 113 = .ok (.areturn, 1) := db2_1.2.2
theorem db2_2 : (decode cX1_compare 0 = .ok (.iload_n 1, 1)) ∧ (decode cX1_compare 1 = .ok (.invokestatic 39, 3)) ∧ (decode cX1_compare 4 = .ok (.iload_n 2, 1)) ∧ (decode cX1_compare 5 = .ok (.invokestatic 39, 3)) ∧ (decode cX1_compare 8 = .ok (.aload_n 0, 1)) ∧ (decode cX1_compare 9 = .ok (.getfield 9, 3)) ∧ (decode cX1_compare 12 = .ok (.iload_n 1, 1)) ∧ (decode cX1_compare 13 = .ok (.iaload, 1)) ∧ (decode cX1_compare 14 = .ok (.aload_n 0, 1)) ∧ (decode cX1_compare 15 = .ok (.getfield 9, 3)) ∧ (decode cX1_compare 18 = .ok (.iload_n 2, 1)) ∧ (decode cX1_compare 19 = .ok (.iaload, 1)) ∧ (decode cX1_compare 20 = .ok (.if_icmp .ne 5, 3)) ∧ (decode cX1_compare 23 = .ok (.iconst 0, 1)) ∧ (decode cX1_compare 24 = .ok (.ireturn, 1)) ∧ (decode cX1_compare 25 = .ok (.aload_n 0, 1)) := by decide +kernel
theorem dX1_compare_0 : decode cX1_compare 0 = .ok (.iload_n 1, 1) := db2_2.1
theorem dX1_compare_1 : decode cX1_compare 1 = .ok (.invokestatic 39, 3) := db2_2.2.1
theorem dX1_compare_4 : decode cX1_compare 4 = .ok (.iload_n 2, 1) := db2_2.2.2.1
theorem dX1_compare_5 : decode cX1_compare 5 = .ok (.invokestatic 39, 3) := db2_2.2.2.2.1
theorem dX1_compare_8 : decode cX1_compare 8 = .ok (.aload_n 0, 1) := db2_2.2.2.2.2.1
theorem dX1_compare_9 : decode cX1_compare 9 = .ok (.getfield 9, 3) := db2_2.2.2.2.2.2.1
theorem dX1_compare_12 : decode cX1_compare 12 = .ok (.iload_n 1, 1) := db2_2.2.2.2.2.2.2.1
theorem dX1_compare_13 : decode cX1_compare 13 = .ok (.iaload, 1) := db2_2.2.2.2.2.2.2.2.1
theorem dX1_compare_14 : decode cX1_compare 14 = .ok (.aload_n 0, 1) := db2_2.2.2.2.2.2.2.2.2.1
theorem dX1_compare_15 : decode cX1_compare 15 = .ok (.getfield 9, 3) := db2_2.2.2.2.2.2.2.2.2.2.1
theorem dX1_compare_18 : decode cX1_compare 18 = .ok (.iload_n 2, 1) := db2_2.2.2.2.2.2.2.2.2.2.2.1
theorem dX1_compare_19 : decode cX1_compare 19 = .ok (.iaload, 1) := db2_2.2.2.2.2.2.2.2.2.2.2.2.1
theorem dX1_compare_20 : decode cX1_compare 20 = .ok (.if_icmp .ne 5, 3) := db2_2.2.2.2.2.2.2.2.2.2.2.2.2.1
theorem dX1_compare_23 : decode cX1_compare 23 = .ok (.iconst 0, 1) := db2_2.2.2.2.2.2.2.2.2.2.2.2.2.2.1
theorem dX1_compare_24 : decode cX1_compare 24 = .ok (.ireturn, 1) := db2_2.2.2.2.2.2.2.2.2.2.2.2.2.2.2.1
theorem dX1_compare_25 : decode cX1_compare 25 = .ok (.aload_n 0, 1) := db2_2.2.2.2.2.2.2.2.2.2.2.2.2.2.2.2
theorem db2_3 : (decode cX1_compare 26 = .ok (.getfield 9, 3)) ∧ (decode cX1_compare 29 = .ok (.iload_n 1, 1)) ∧ (decode cX1_compare 30 = .ok (.iaload, 1)) ∧ (decode cX1_compare 31 = .ok (.aload_n 0, 1)) ∧ (decode cX1_compare 32 = .ok (.getfield 9, 3)) ∧ (decode cX1_compare 35 = .ok (.iload_n 2, 1)) ∧ (decode cX1_compare 36 = .ok (.iaload, 1)) ∧ (decode cX1_compare 37 = .ok (.if_icmp .ge 7, 3)) ∧ (decode cX1_compare 40 = .ok (.iconst (-1), 1)) ∧ (decode cX1_compare 41 = .ok (.goto 4, 3)) ∧ (decode cX1_compare 44 = .ok (.iconst 1, 1)) ∧ (decode cX1_compare 45 = .ok (.ireturn, 1)) := by decide +kernel
theorem dX1_compare_26 : decode cX1_compare 26 = .ok (.getfield 9, 3) := db2_3.1
theorem dX1_compare_29 : decode cX1_compare 29 = .ok (.iload_n 1, 1) := db2_3.2.1
theorem dX1_compare_30 : decode cX1_compare 30 = .ok (.iaload, 1) := db2_3.2.2.1
theorem dX1_compare_31 : decode cX1_compare 31 = .ok (.aload_n 0, 1) := db2_3.2.2.2.1
theorem dX1_compare_32 : decode cX1_compare 32 = .ok (.getfield 9, 3) := db2_3.2.2.2.2.1
theorem dX1_compare_35 : decode cX1_compare 35 = .ok (.iload_n 2, 1) := db2_3.2.2.2.2.2.1
theorem dX1_compare_36 : decode cX1_compare 36 = .ok (.iaload, 1) := db2_3.2.2.2.2.2.2.1
theorem dX1_compare_37 : decode cX1_compare 37 = .ok (.if_icmp .ge 7, 3) := db2_3.2.2.2.2.2.2.2.1
theorem dX1_compare_40 : decode cX1_compare 40 = .ok (.iconst (-1), 1) := db2_3.2.2.2.2.2.2.2.2.1
theorem dX1_compare_41 : decode cX1_compare 41 = .ok (.goto 4, 3) := db2_3.2.2.2.2.2.2.2.2.2.1
theorem dX1_compare_44 : decode cX1_compare 44 = .ok (.iconst 1, 1) := db2_3.2.2.2.2.2.2.2.2.2.2.1
theorem dX1_compare_45 : decode cX1_compare 45 = .ok (.ireturn, 1) := db2_3.2.2.2.2.2.2.2.2.2.2.2
theorem db2_4 : (decode cX1_between 0 = .ok (.iload_n 1, 1)) ∧ (decode cX1_between 1 = .ok (.invokestatic 39, 3)) ∧ (decode cX1_between 4 = .ok (.iload_n 2, 1)) ∧ (decode cX1_between 5 = .ok (.invokestatic 39, 3)) ∧ (decode cX1_between 8 = .ok (.aload_n 0, 1)) ∧ (decode cX1_between 9 = .ok (.getfield 9, 3)) ∧ (decode cX1_between 12 = .ok (.iload_n 2, 1)) ∧ (decode cX1_between 13 = .ok (.iaload, 1)) ∧ (decode cX1_between 14 = .ok (.aload_n 0, 1)) ∧ (decode cX1_between 15 = .ok (.getfield 9, 3)) ∧ (decode cX1_between 18 = .ok (.iload_n 1, 1)) ∧ (decode cX1_between 19 = .ok (.iaload, 1)) ∧ (decode cX1_between 20 = .ok (.isub, 1)) ∧ (decode cX1_between 21 = .ok (.ireturn, 1)) := by decide +kernel
theorem dX1_between_0 : decode cX1_between 0 = .ok (.iload_n 1, 1) := db2_4.1
theorem dX1_between_1 : decode cX1_between 1 = .ok (.invokestatic 39, 3) := db2_4.2.1
theorem dX1_between_4 : decode cX1_between 4 = .ok (.iload_n 2, 1) := db2_4.2.2.1
theorem dX1_between_5 : decode cX1_between 5 = .ok (.invokestatic 39, 3) := db2_4.2.2.2.1
theorem dX1_between_8 : decode cX1_between 8 = .ok (.aload_n 0, 1) := db2_4.2.2.2.2.1
theorem dX1_between_9 : decode cX1_between 9 = .ok (.getfield 9, 3) := db2_4.2.2.2.2.2.1
theorem dX1_between_12 : decode cX1_between 12 = .ok (.iload_n 2, 1) := db2_4.2.2.2.2.2.2.1
theorem dX1_between_13 : decode cX1_between 13 = .ok (.iaload, 1) := db2_4.2.2.2.2.2.2.2.1
theorem dX1_between_14 : decode cX1_between 14 = .ok (.aload_n 0, 1) := db2_4.2.2.2.2.2.2.2.2.1
theorem dX1_between_15 : decode cX1_between 15 = .ok (.getfield 9, 3) := db2_4.2.2.2.2.2.2.2.2.2.1
theorem dX1_between_18 : decode cX1_between 18 = .ok (.iload_n 1, 1) := db2_4.2.2.2.2.2.2.2.2.2.2.1
theorem dX1_between_19 : decode cX1_between 19 = .ok (.iaload, 1) := db2_4.2.2.2.2.2.2.2.2.2.2.2.1
theorem dX1_between_20 : decode cX1_between 20 = .ok (.isub, 1) := db2_4.2.2.2.2.2.2.2.2.2.2.2.2.1
theorem dX1_between_21 : decode cX1_between 21 = .ok (.ireturn, 1) := db2_4.2.2.2.2.2.2.2.2.2.2.2.2.2
theorem db2_5 : (decode cX1_house 0 = .ok (.iload_n 1, 1)) ∧ (decode cX1_house 1 = .ok (.iconst 0, 1)) ∧ (decode cX1_house 2 = .ok (.iconst 3, 1)) ∧ (decode cX1_house 3 = .ok (.invokestatic 43, 3)) ∧ (decode cX1_house 6 = .ok (.iload_n 1, 1)) ∧ (decode cX1_house 7 = .ok (.tableswitch 40 0 2 #[25, 30, 35], 25)) ∧ (decode cX1_house 32 = .ok (.aload_n 0, 1)) ∧ (decode cX1_house 33 = .ok (.getfield 29, 3)) ∧ (decode cX1_house 36 = .ok (.ireturn, 1)) ∧ (decode cX1_house 37 = .ok (.aload_n 0, 1)) ∧ (decode cX1_house 38 = .ok (.invokevirtual 180, 3)) ∧ (decode cX1_house 41 = .ok (.ireturn, 1)) ∧ (decode cX1_house 42 = .ok (.aload_n 0, 1)) ∧ (decode cX1_house 43 = .ok (.getfield 33, 3)) ∧ (decode cX1_house 46 = .ok (.ireturn, 1)) ∧ (decode cX1_house 47 = .ok (.aload_n 0, 1)) := by decide +kernel
theorem dX1_house_0 : decode cX1_house 0 = .ok (.iload_n 1, 1) := db2_5.1
theorem dX1_house_1 : decode cX1_house 1 = .ok (.iconst 0, 1) := db2_5.2.1
theorem dX1_house_2 : decode cX1_house 2 = .ok (.iconst 3, 1) := db2_5.2.2.1
theorem dX1_house_3 : decode cX1_house 3 = .ok (.invokestatic 43, 3) := db2_5.2.2.2.1
theorem dX1_house_6 : decode cX1_house 6 = .ok (.iload_n 1, 1) := db2_5.2.2.2.2.1
theorem dX1_house_7 : decode cX1_house 7 = .ok (.tableswitch 40 0 2 #[25, 30, 35], 25) := db2_5.2.2.2.2.2.1
theorem dX1_house_32 : decode cX1_house 32 = .ok (.aload_n 0, 1) := db2_5.2.2.2.2.2.2.1
theorem dX1_house_33 : decode cX1_house 33 = .ok (.getfield 29, 3) := db2_5.2.2.2.2.2.2.2.1
theorem dX1_house_36 : decode cX1_house 36 = .ok (.ireturn, 1) := db2_5.2.2.2.2.2.2.2.2.1
theorem dX1_house_37 : decode cX1_house 37 = .ok (.aload_n 0, 1) := db2_5.2.2.2.2.2.2.2.2.2.1
theorem dX1_house_38 : decode cX1_house 38 = .ok (.invokevirtual 180, 3) := db2_5.2.2.2.2.2.2.2.2.2.2.1
theorem dX1_house_41 : decode cX1_house 41 = .ok (.ireturn, 1) := db2_5.2.2.2.2.2.2.2.2.2.2.2.1
theorem dX1_house_42 : decode cX1_house 42 = .ok (.aload_n 0, 1) := db2_5.2.2.2.2.2.2.2.2.2.2.2.2.1
theorem dX1_house_43 : decode cX1_house 43 = .ok (.getfield 33, 3) := db2_5.2.2.2.2.2.2.2.2.2.2.2.2.2.1
theorem dX1_house_46 : decode cX1_house 46 = .ok (.ireturn, 1) := db2_5.2.2.2.2.2.2.2.2.2.2.2.2.2.2.1
theorem dX1_house_47 : decode cX1_house 47 = .ok (.aload_n 0, 1) := db2_5.2.2.2.2.2.2.2.2.2.2.2.2.2.2.2
theorem db2_6 : (decode cX1_house 48 = .ok (.getfield 36, 3)) ∧ (decode cX1_house 51 = .ok (.ireturn, 1)) := by decide +kernel
theorem dX1_house_48 : decode cX1_house 48 = .ok (.getfield 36, 3) := db2_6.1
theorem dX1_house_51 : decode cX1_house 51 = .ok (.ireturn, 1) := db2_6.2
theorem db2_7 : (decode cX1_knock 0 = .ok (.aload_n 0, 1)) ∧ (decode cX1_knock 1 = .ok (.dup, 1)) ∧ (decode cX1_knock 2 = .ok (.getfield 36, 3)) ∧ (decode cX1_knock 5 = .ok (.iconst 1, 1)) ∧ (decode cX1_knock 6 = .ok (.iadd, 1)) ∧ (decode cX1_knock 7 = .ok (.putfield 36, 3)) ∧ (decode cX1_knock 10 = .ok (.aload_n 0, 1)) ∧ (decode cX1_knock 11 = .ok (.getfield 36, 3)) ∧ (decode cX1_knock 14 = .ok (.ireturn, 1)) := by decide +kernel
theorem dX1_knock_0 : decode cX1_knock 0 = .ok (.aload_n 0, 1) := db2_7.1
theorem dX1_knock_1 : decode cX1_knock 1 = .ok (.dup, 1) := db2_7.2.1
theorem dX1_knock_2 : decode cX1_knock 2 = .ok (.getfield 36, 3) := db2_7.2.2.1
theorem dX1_knock_5 : decode cX1_knock 5 = .ok (.iconst 1, 1) := db2_7.2.2.2.1
theorem dX1_knock_6 : decode cX1_knock 6 = .ok (.iadd, 1) := db2_7.2.2.2.2.1
theorem dX1_knock_7 : decode cX1_knock 7 = .ok (.putfield 36, 3) := db2_7.2.2.2.2.2.1
theorem dX1_knock_10 : decode cX1_knock 10 = .ok (.aload_n 0, 1) := db2_7.2.2.2.2.2.2.1
theorem dX1_knock_11 : decode cX1_knock 11 = .ok (.getfield 36, 3) := db2_7.2.2.2.2.2.2.2.1
theorem dX1_knock_14 : decode cX1_knock 14 = .ok (.ireturn, 1) := db2_7.2.2.2.2.2.2.2.2
theorem db2_8 : (decode cX1_isSound 0 = .ok (.iconst 0, 1)) ∧ (decode cX1_isSound 1 = .ok (.istore_n 1, 1)) ∧ (decode cX1_isSound 2 = .ok (.iload_n 1, 1)) ∧ (decode cX1_isSound 3 = .ok (.bipush 6, 2)) ∧ (decode cX1_isSound 5 = .ok (.if_icmp .ge 78, 3)) ∧ (decode cX1_isSound 8 = .ok (.aload_n 0, 1)) ∧ (decode cX1_isSound 9 = .ok (.getfield 9, 3)) ∧ (decode cX1_isSound 12 = .ok (.iload_n 1, 1)) ∧ (decode cX1_isSound 13 = .ok (.iaload, 1)) ∧ (decode cX1_isSound 14 = .ok (.istore_n 2, 1)) ∧ (decode cX1_isSound 15 = .ok (.iload_n 2, 1)) ∧ (decode cX1_isSound 16 = .ok (.invokestatic 183, 3)) ∧ (decode cX1_isSound 19 = .ok (.ifCond .eq 17, 3)) ∧ (decode cX1_isSound 22 = .ok (.iload_n 2, 1)) ∧ (decode cX1_isSound 23 = .ok (.invokestatic 186, 3)) ∧ (decode cX1_isSound 26 = .ok (.ifCond .eq 10, 3)) := by decide +kernel
theorem dX1_isSound_0 : decode cX1_isSound 0 = .ok (.iconst 0, 1) := db2_8.1
theorem dX1_isSound_1 : decode cX1_isSound 1 = .ok (.istore_n 1, 1) := db2_8.2.1
theorem dX1_isSound_2 : decode cX1_isSound 2 = .ok (.iload_n 1, 1) := db2_8.2.2.1
theorem dX1_isSound_3 : decode cX1_isSound 3 = .ok (.bipush 6, 2) := db2_8.2.2.2.1
theorem dX1_isSound_5 : decode cX1_isSound 5 = .ok (.if_icmp .ge 78, 3) := db2_8.2.2.2.2.1
theorem dX1_isSound_8 : decode cX1_isSound 8 = .ok (.aload_n 0, 1) := db2_8.2.2.2.2.2.1
theorem dX1_isSound_9 : decode cX1_isSound 9 = .ok (.getfield 9, 3) := db2_8.2.2.2.2.2.2.1
theorem dX1_isSound_12 : decode cX1_isSound 12 = .ok (.iload_n 1, 1) := db2_8.2.2.2.2.2.2.2.1
theorem dX1_isSound_13 : decode cX1_isSound 13 = .ok (.iaload, 1) := db2_8.2.2.2.2.2.2.2.2.1
theorem dX1_isSound_14 : decode cX1_isSound 14 = .ok (.istore_n 2, 1) := db2_8.2.2.2.2.2.2.2.2.2.1
theorem dX1_isSound_15 : decode cX1_isSound 15 = .ok (.iload_n 2, 1) := db2_8.2.2.2.2.2.2.2.2.2.2.1
theorem dX1_isSound_16 : decode cX1_isSound 16 = .ok (.invokestatic 183, 3) := db2_8.2.2.2.2.2.2.2.2.2.2.2.1
theorem dX1_isSound_19 : decode cX1_isSound 19 = .ok (.ifCond .eq 17, 3) := db2_8.2.2.2.2.2.2.2.2.2.2.2.2.1
theorem dX1_isSound_22 : decode cX1_isSound 22 = .ok (.iload_n 2, 1) := db2_8.2.2.2.2.2.2.2.2.2.2.2.2.2.1
theorem dX1_isSound_23 : decode cX1_isSound 23 = .ok (.invokestatic 186, 3) := db2_8.2.2.2.2.2.2.2.2.2.2.2.2.2.2.1
theorem dX1_isSound_26 : decode cX1_isSound 26 = .ok (.ifCond .eq 10, 3) := db2_8.2.2.2.2.2.2.2.2.2.2.2.2.2.2.2
theorem db2_9 : (decode cX1_isSound 29 = .ok (.iload_n 2, 1)) ∧ (decode cX1_isSound 30 = .ok (.invokestatic 189, 3)) ∧ (decode cX1_isSound 33 = .ok (.ifCond .ne 5, 3)) ∧ (decode cX1_isSound 36 = .ok (.iconst 0, 1)) ∧ (decode cX1_isSound 37 = .ok (.ireturn, 1)) ∧ (decode cX1_isSound 38 = .ok (.iconst 0, 1)) ∧ (decode cX1_isSound 39 = .ok (.istore_n 3, 1)) ∧ (decode cX1_isSound 40 = .ok (.iload_n 3, 1)) ∧ (decode cX1_isSound 41 = .ok (.bipush 6, 2)) ∧ (decode cX1_isSound 43 = .ok (.if_icmp .ge 34, 3)) ∧ (decode cX1_isSound 46 = .ok (.iload_n 2, 1)) ∧ (decode cX1_isSound 47 = .ok (.aload_n 0, 1)) ∧ (decode cX1_isSound 48 = .ok (.getfield 9, 3)) ∧ (decode cX1_isSound 51 = .ok (.iload_n 3, 1)) ∧ (decode cX1_isSound 52 = .ok (.iaload, 1)) ∧ (decode cX1_isSound 53 = .ok (.if_icmp .gt 18, 3)) := by decide +kernel
theorem dX1_isSound_29 : decode cX1_isSound 29 = .ok (.iload_n 2, 1) := db2_9.1
theorem dX1_isSound_30 : decode cX1_isSound 30 = .ok (.invokestatic 189, 3) := db2_9.2.1
theorem dX1_isSound_33 : decode cX1_isSound 33 = .ok (.ifCond .ne 5, 3) := db2_9.2.2.1
theorem dX1_isSound_36 : decode cX1_isSound 36 = .ok (.iconst 0, 1) := db2_9.2.2.2.1
theorem dX1_isSound_37 : decode cX1_isSound 37 = .ok (.ireturn, 1) := db2_9.2.2.2.2.1
theorem dX1_isSound_38 : decode cX1_isSound 38 = .ok (.iconst 0, 1) := db2_9.2.2.2.2.2.1
theorem dX1_isSound_39 : decode cX1_isSound 39 = .ok (.istore_n 3, 1) := db2_9.2.2.2.2.2.2.1
theorem dX1_isSound_40 : decode cX1_isSound 40 = .ok (.iload_n 3, 1) := db2_9.2.2.2.2.2.2.2.1
theorem dX1_isSound_41 : decode cX1_isSound 41 = .ok (.bipush 6, 2) := db2_9.2.2.2.2.2.2.2.2.1
theorem dX1_isSound_43 : decode cX1_isSound 43 = .ok (.if_icmp .ge 34, 3) := db2_9.2.2.2.2.2.2.2.2.2.1
theorem dX1_isSound_46 : decode cX1_isSound 46 = .ok (.iload_n 2, 1) := db2_9.2.2.2.2.2.2.2.2.2.2.1
theorem dX1_isSound_47 : decode cX1_isSound 47 = .ok (.aload_n 0, 1) := db2_9.2.2.2.2.2.2.2.2.2.2.2.1
theorem dX1_isSound_48 : decode cX1_isSound 48 = .ok (.getfield 9, 3) := db2_9.2.2.2.2.2.2.2.2.2.2.2.2.1
theorem dX1_isSound_51 : decode cX1_isSound 51 = .ok (.iload_n 3, 1) := db2_9.2.2.2.2.2.2.2.2.2.2.2.2.2.1
theorem dX1_isSound_52 : decode cX1_isSound 52 = .ok (.iaload, 1) := db2_9.2.2.2.2.2.2.2.2.2.2.2.2.2.2.1
theorem dX1_isSound_53 : decode cX1_isSound 53 = .ok (.if_icmp .gt 18, 3) := db2_9.2.2.2.2.2.2.2.2.2.2.2.2.2.2.2
theorem db2_10 : (decode cX1_isSound 56 = .ok (.iload_n 2, 1)) ∧ (decode cX1_isSound 57 = .ok (.aload_n 0, 1)) ∧ (decode cX1_isSound 58 = .ok (.getfield 9, 3)) ∧ (decode cX1_isSound 61 = .ok (.iload_n 3, 1)) ∧ (decode cX1_isSound 62 = .ok (.iaload, 1)) ∧ (decode cX1_isSound 63 = .ok (.invokestatic 192, 3)) ∧ (decode cX1_isSound 66 = .ok (.ifCond .ne 5, 3)) ∧ (decode cX1_isSound 69 = .ok (.iconst 0, 1)) ∧ (decode cX1_isSound 70 = .ok (.ireturn, 1)) ∧ (decode cX1_isSound 71 = .ok (.iinc 3 1, 3)) ∧ (decode cX1_isSound 74 = .ok (.goto (-34), 3)) ∧ (decode cX1_isSound 77 = .ok (.iinc 1 1, 3)) ∧ (decode cX1_isSound 80 = .ok (.goto (-78), 3)) ∧ (decode cX1_isSound 83 = .ok (.iconst 1, 1)) ∧ (decode cX1_isSound 84 = .ok (.ireturn, 1)) := by decide +kernel
theorem dX1_isSound_56 : decode cX1_isSound 56 = .ok (.iload_n 2, 1) := db2_10.1
theorem dX1_isSound_57 : decode cX1_isSound 57 = .ok (.aload_n 0, 1) := db2_10.2.1
theorem dX1_isSound_58 : decode cX1_isSound 58 = .ok (.getfield 9, 3) := db2_10.2.2.1
theorem dX1_isSound_61 : decode cX1_isSound 61 = .ok (.iload_n 3, 1) := db2_10.2.2.2.1
theorem dX1_isSound_62 : decode cX1_isSound 62 = .ok (.iaload, 1) := db2_10.2.2.2.2.1
theorem dX1_isSound_63 : decode cX1_isSound 63 = .ok (.invokestatic 192, 3) := db2_10.2.2.2.2.2.1
theorem dX1_isSound_66 : decode cX1_isSound 66 = .ok (.ifCond .ne 5, 3) := db2_10.2.2.2.2.2.2.1
theorem dX1_isSound_69 : decode cX1_isSound 69 = .ok (.iconst 0, 1) := db2_10.2.2.2.2.2.2.2.1
theorem dX1_isSound_70 : decode cX1_isSound 70 = .ok (.ireturn, 1) := db2_10.2.2.2.2.2.2.2.2.1
theorem dX1_isSound_71 : decode cX1_isSound 71 = .ok (.iinc 3 1, 3) := db2_10.2.2.2.2.2.2.2.2.2.1
theorem dX1_isSound_74 : decode cX1_isSound 74 = .ok (.goto (-34), 3) := db2_10.2.2.2.2.2.2.2.2.2.2.1
theorem dX1_isSound_77 : decode cX1_isSound 77 = .ok (.iinc 1 1, 3) := db2_10.2.2.2.2.2.2.2.2.2.2.2.1
theorem dX1_isSound_80 : decode cX1_isSound 80 = .ok (.goto (-78), 3) := db2_10.2.2.2.2.2.2.2.2.2.2.2.2.1
theorem dX1_isSound_83 : decode cX1_isSound 83 = .ok (.iconst 1, 1) := db2_10.2.2.2.2.2.2.2.2.2.2.2.2.2.1
theorem dX1_isSound_84 : decode cX1_isSound 84 = .ok (.ireturn, 1) := db2_10.2.2.2.2.2.2.2.2.2.2.2.2.2.2
theorem db2_11 : (decode cX1_digest 0 = .ok (.ldc2_w 195, 3)) ∧ (decode cX1_digest 3 = .ok (.lstore_n 1, 1)) ∧ (decode cX1_digest 4 = .ok (.iconst 0, 1)) ∧ (decode cX1_digest 5 = .ok (.istore_n 3, 1)) ∧ (decode cX1_digest 6 = .ok (.iload_n 3, 1)) ∧ (decode cX1_digest 7 = .ok (.iconst 3, 1)) ∧ (decode cX1_digest 8 = .ok (.if_icmp .gt 22, 3)) ∧ (decode cX1_digest 11 = .ok (.lload_n 1, 1)) ∧ (decode cX1_digest 12 = .ok (.ldc2_w 197, 3)) ∧ (decode cX1_digest 15 = .ok (.lmul, 1)) ∧ (decode cX1_digest 16 = .ok (.aload_n 0, 1)) ∧ (decode cX1_digest 17 = .ok (.iload_n 3, 1)) ∧ (decode cX1_digest 18 = .ok (.invokevirtual 199, 3)) ∧ (decode cX1_digest 21 = .ok (.i2l, 1)) ∧ (decode cX1_digest 22 = .ok (.ladd, 1)) ∧ (decode cX1_digest 23 = .ok (.lstore_n 1, 1)) := by decide +kernel
theorem dX1_digest_0 : decode cX1_digest 0 = .ok (.ldc2_w 195, 3) := db2_11.1
theorem dX1_digest_3 : decode cX1_digest 3 = .ok (.lstore_n 1, 1) := db2_11.2.1
theorem dX1_digest_4 : decode cX1_digest 4 = .ok (.iconst 0, 1) := db2_11.2.2.1
theorem dX1_digest_5 : decode cX1_digest 5 = .ok (.istore_n 3, 1) := db2_11.2.2.2.1
theorem dX1_digest_6 : decode cX1_digest 6 = .ok (.iload_n 3, 1) := db2_11.2.2.2.2.1
theorem dX1_digest_7 : decode cX1_digest 7 = .ok (.iconst 3, 1) := db2_11.2.2.2.2.2.1
theorem dX1_digest_8 : decode cX1_digest 8 = .ok (.if_icmp .gt 22, 3) := db2_11.2.2.2.2.2.2.1
theorem dX1_digest_11 : decode cX1_digest 11 = .ok (.lload_n 1, 1) := db2_11.2.2.2.2.2.2.2.1
theorem dX1_digest_12 : decode cX1_digest 12 = .ok (.ldc2_w 197, 3) := db2_11.2.2.2.2.2.2.2.2.1
theorem dX1_digest_15 : decode cX1_digest 15 = .ok (.lmul, 1) := db2_11.2.2.2.2.2.2.2.2.2.1
theorem dX1_digest_16 : decode cX1_digest 16 = .ok (.aload_n 0, 1) := db2_11.2.2.2.2.2.2.2.2.2.2.1
theorem dX1_digest_17 : decode cX1_digest 17 = .ok (.iload_n 3, 1) := db2_11.2.2.2.2.2.2.2.2.2.2.2.1
theorem dX1_digest_18 : decode cX1_digest 18 = .ok (.invokevirtual 199, 3) := db2_11.2.2.2.2.2.2.2.2.2.2.2.2.1
theorem dX1_digest_21 : decode cX1_digest 21 = .ok (.i2l, 1) := db2_11.2.2.2.2.2.2.2.2.2.2.2.2.2.1
theorem dX1_digest_22 : decode cX1_digest 22 = .ok (.ladd, 1) := db2_11.2.2.2.2.2.2.2.2.2.2.2.2.2.2.1
theorem dX1_digest_23 : decode cX1_digest 23 = .ok (.lstore_n 1, 1) := db2_11.2.2.2.2.2.2.2.2.2.2.2.2.2.2.2
theorem db2_12 : (decode cX1_digest 24 = .ok (.iinc 3 1, 3)) ∧ (decode cX1_digest 27 = .ok (.goto (-21), 3)) ∧ (decode cX1_digest 30 = .ok (.iconst 0, 1)) ∧ (decode cX1_digest 31 = .ok (.istore_n 3, 1)) ∧ (decode cX1_digest 32 = .ok (.iload_n 3, 1)) ∧ (decode cX1_digest 33 = .ok (.bipush 6, 2)) ∧ (decode cX1_digest 35 = .ok (.if_icmp .ge 21, 3)) ∧ (decode cX1_digest 38 = .ok (.aload_n 0, 1)) ∧ (decode cX1_digest 39 = .ok (.aload_n 0, 1)) ∧ (decode cX1_digest 40 = .ok (.lload_n 1, 1)) ∧ (decode cX1_digest 41 = .ok (.iload_n 3, 1)) ∧ (decode cX1_digest 42 = .ok (.invokevirtual 202, 3)) ∧ (decode cX1_digest 45 = .ok (.iload_n 3, 1)) ∧ (decode cX1_digest 46 = .ok (.invokevirtual 206, 3)) ∧ (decode cX1_digest 49 = .ok (.lstore_n 1, 1)) ∧ (decode cX1_digest 50 = .ok (.iinc 3 1, 3)) := by decide +kernel
theorem dX1_digest_24 : decode cX1_digest 24 = .ok (.iinc 3 1, 3) := db2_12.1
theorem dX1_digest_27 : decode cX1_digest 27 = .ok (.goto (-21), 3) := db2_12.2.1
theorem dX1_digest_30 : decode cX1_digest 30 = .ok (.iconst 0, 1) := db2_12.2.2.1
theorem dX1_digest_31 : decode cX1_digest 31 = .ok (.istore_n 3, 1) := db2_12.2.2.2.1
theorem dX1_digest_32 : decode cX1_digest 32 = .ok (.iload_n 3, 1) := db2_12.2.2.2.2.1
theorem dX1_digest_33 : decode cX1_digest 33 = .ok (.bipush 6, 2) := db2_12.2.2.2.2.2.1
theorem dX1_digest_35 : decode cX1_digest 35 = .ok (.if_icmp .ge 21, 3) := db2_12.2.2.2.2.2.2.1
theorem dX1_digest_38 : decode cX1_digest 38 = .ok (.aload_n 0, 1) := db2_12.2.2.2.2.2.2.2.1
theorem dX1_digest_39 : decode cX1_digest 39 = .ok (.aload_n 0, 1) := db2_12.2.2.2.2.2.2.2.2.1
theorem dX1_digest_40 : decode cX1_digest 40 = .ok (.lload_n 1, 1) := db2_12.2.2.2.2.2.2.2.2.2.1
theorem dX1_digest_41 : decode cX1_digest 41 = .ok (.iload_n 3, 1) := db2_12.2.2.2.2.2.2.2.2.2.2.1
theorem dX1_digest_42 : decode cX1_digest 42 = .ok (.invokevirtual 202, 3) := db2_12.2.2.2.2.2.2.2.2.2.2.2.1
theorem dX1_digest_45 : decode cX1_digest 45 = .ok (.iload_n 3, 1) := db2_12.2.2.2.2.2.2.2.2.2.2.2.2.1
theorem dX1_digest_46 : decode cX1_digest 46 = .ok (.invokevirtual 206, 3) := db2_12.2.2.2.2.2.2.2.2.2.2.2.2.2.1
theorem dX1_digest_49 : decode cX1_digest 49 = .ok (.lstore_n 1, 1) := db2_12.2.2.2.2.2.2.2.2.2.2.2.2.2.2.1
theorem dX1_digest_50 : decode cX1_digest 50 = .ok (.iinc 3 1, 3) := db2_12.2.2.2.2.2.2.2.2.2.2.2.2.2.2.2
theorem db2_13 : (decode cX1_digest 53 = .ok (.goto (-21), 3)) ∧ (decode cX1_digest 56 = .ok (.iconst 0, 1)) ∧ (decode cX1_digest 57 = .ok (.istore_n 3, 1)) ∧ (decode cX1_digest 58 = .ok (.iload_n 3, 1)) ∧ (decode cX1_digest 59 = .ok (.iconst 3, 1)) ∧ (decode cX1_digest 60 = .ok (.if_icmp .ge 39, 3)) ∧ (decode cX1_digest 63 = .ok (.iconst 0, 1)) ∧ (decode cX1_digest 64 = .ok (.istore 4, 2)) ∧ (decode cX1_digest 66 = .ok (.iload 4, 2)) ∧ (decode cX1_digest 68 = .ok (.iconst 3, 1)) ∧ (decode cX1_digest 69 = .ok (.if_icmp .gt 24, 3)) ∧ (decode cX1_digest 72 = .ok (.lload_n 1, 1)) ∧ (decode cX1_digest 73 = .ok (.ldc2_w 197, 3)) ∧ (decode cX1_digest 76 = .ok (.lmul, 1)) ∧ (decode cX1_digest 77 = .ok (.aload_n 0, 1)) ∧ (decode cX1_digest 78 = .ok (.iload_n 3, 1)) := by decide +kernel
theorem dX1_digest_53 : decode cX1_digest 53 = .ok (.goto (-21), 3) := db2_13.1
theorem dX1_digest_56 : decode cX1_digest 56 = .ok (.iconst 0, 1) := db2_13.2.1
theorem dX1_digest_57 : decode cX1_digest 57 = .ok (.istore_n 3, 1) := db2_13.2.2.1
theorem dX1_digest_58 : decode cX1_digest 58 = .ok (.iload_n 3, 1) := db2_13.2.2.2.1
theorem dX1_digest_59 : decode cX1_digest 59 = .ok (.iconst 3, 1) := db2_13.2.2.2.2.1
theorem dX1_digest_60 : decode cX1_digest 60 = .ok (.if_icmp .ge 39, 3) := db2_13.2.2.2.2.2.1
theorem dX1_digest_63 : decode cX1_digest 63 = .ok (.iconst 0, 1) := db2_13.2.2.2.2.2.2.1
theorem dX1_digest_64 : decode cX1_digest 64 = .ok (.istore 4, 2) := db2_13.2.2.2.2.2.2.2.1
theorem dX1_digest_66 : decode cX1_digest 66 = .ok (.iload 4, 2) := db2_13.2.2.2.2.2.2.2.2.1
theorem dX1_digest_68 : decode cX1_digest 68 = .ok (.iconst 3, 1) := db2_13.2.2.2.2.2.2.2.2.2.1
theorem dX1_digest_69 : decode cX1_digest 69 = .ok (.if_icmp .gt 24, 3) := db2_13.2.2.2.2.2.2.2.2.2.2.1
theorem dX1_digest_72 : decode cX1_digest 72 = .ok (.lload_n 1, 1) := db2_13.2.2.2.2.2.2.2.2.2.2.2.1
theorem dX1_digest_73 : decode cX1_digest 73 = .ok (.ldc2_w 197, 3) := db2_13.2.2.2.2.2.2.2.2.2.2.2.2.1
theorem dX1_digest_76 : decode cX1_digest 76 = .ok (.lmul, 1) := db2_13.2.2.2.2.2.2.2.2.2.2.2.2.2.1
theorem dX1_digest_77 : decode cX1_digest 77 = .ok (.aload_n 0, 1) := db2_13.2.2.2.2.2.2.2.2.2.2.2.2.2.2.1
theorem dX1_digest_78 : decode cX1_digest 78 = .ok (.iload_n 3, 1) := db2_13.2.2.2.2.2.2.2.2.2.2.2.2.2.2.2
theorem db2_14 : (decode cX1_digest 79 = .ok (.iload 4, 2)) ∧ (decode cX1_digest 81 = .ok (.invokevirtual 209, 3)) ∧ (decode cX1_digest 84 = .ok (.i2l, 1)) ∧ (decode cX1_digest 85 = .ok (.ladd, 1)) ∧ (decode cX1_digest 86 = .ok (.lstore_n 1, 1)) ∧ (decode cX1_digest 87 = .ok (.iinc 4 1, 3)) ∧ (decode cX1_digest 90 = .ok (.goto (-24), 3)) ∧ (decode cX1_digest 93 = .ok (.iinc 3 1, 3)) ∧ (decode cX1_digest 96 = .ok (.goto (-38), 3)) ∧ (decode cX1_digest 99 = .ok (.lload_n 1, 1)) ∧ (decode cX1_digest 100 = .ok (.ldc2_w 197, 3)) ∧ (decode cX1_digest 103 = .ok (.lmul, 1)) ∧ (decode cX1_digest 104 = .ok (.aload_n 0, 1)) ∧ (decode cX1_digest 105 = .ok (.invokevirtual 212, 3)) ∧ (decode cX1_digest 108 = .ok (.ifCond .eq 7, 3)) ∧ (decode cX1_digest 111 = .ok (.iconst 1, 1)) := by decide +kernel
theorem dX1_digest_79 : decode cX1_digest 79 = .ok (.iload 4, 2) := db2_14.1
theorem dX1_digest_81 : decode cX1_digest 81 = .ok (.invokevirtual 209, 3) := db2_14.2.1
theorem dX1_digest_84 : decode cX1_digest 84 = .ok (.i2l, 1) := db2_14.2.2.1
theorem dX1_digest_85 : decode cX1_digest 85 = .ok (.ladd, 1) := db2_14.2.2.2.1
theorem dX1_digest_86 : decode cX1_digest 86 = .ok (.lstore_n 1, 1) := db2_14.2.2.2.2.1
theorem dX1_digest_87 : decode cX1_digest 87 = .ok (.iinc 4 1, 3) := db2_14.2.2.2.2.2.1
theorem dX1_digest_90 : decode cX1_digest 90 = .ok (.goto (-24), 3) := db2_14.2.2.2.2.2.2.1
theorem dX1_digest_93 : decode cX1_digest 93 = .ok (.iinc 3 1, 3) := db2_14.2.2.2.2.2.2.2.1
theorem dX1_digest_96 : decode cX1_digest 96 = .ok (.goto (-38), 3) := db2_14.2.2.2.2.2.2.2.2.1
theorem dX1_digest_99 : decode cX1_digest 99 = .ok (.lload_n 1, 1) := db2_14.2.2.2.2.2.2.2.2.2.1
theorem dX1_digest_100 : decode cX1_digest 100 = .ok (.ldc2_w 197, 3) := db2_14.2.2.2.2.2.2.2.2.2.2.1
theorem dX1_digest_103 : decode cX1_digest 103 = .ok (.lmul, 1) := db2_14.2.2.2.2.2.2.2.2.2.2.2.1
theorem dX1_digest_104 : decode cX1_digest 104 = .ok (.aload_n 0, 1) := db2_14.2.2.2.2.2.2.2.2.2.2.2.2.1
theorem dX1_digest_105 : decode cX1_digest 105 = .ok (.invokevirtual 212, 3) := db2_14.2.2.2.2.2.2.2.2.2.2.2.2.2.1
theorem dX1_digest_108 : decode cX1_digest 108 = .ok (.ifCond .eq 7, 3) := db2_14.2.2.2.2.2.2.2.2.2.2.2.2.2.2.1
theorem dX1_digest_111 : decode cX1_digest 111 = .ok (.iconst 1, 1) := db2_14.2.2.2.2.2.2.2.2.2.2.2.2.2.2.2
theorem db2_15 : (decode cX1_digest 112 = .ok (.goto 4, 3)) ∧ (decode cX1_digest 115 = .ok (.iconst 0, 1)) ∧ (decode cX1_digest 116 = .ok (.i2l, 1)) ∧ (decode cX1_digest 117 = .ok (.ladd, 1)) ∧ (decode cX1_digest 118 = .ok (.lreturn, 1)) := by decide +kernel
theorem dX1_digest_112 : decode cX1_digest 112 = .ok (.goto 4, 3) := db2_15.1
theorem dX1_digest_115 : decode cX1_digest 115 = .ok (.iconst 0, 1) := db2_15.2.1
theorem dX1_digest_116 : decode cX1_digest 116 = .ok (.i2l, 1) := db2_15.2.2.1
theorem dX1_digest_117 : decode cX1_digest 117 = .ok (.ladd, 1) := db2_15.2.2.2.1
theorem dX1_digest_118 : decode cX1_digest 118 = .ok (.lreturn, 1) := db2_15.2.2.2.2
theorem db2_16 : (decode cX1_withDate 0 = .ok (.lload_n 1, 1)) ∧ (decode cX1_withDate 1 = .ok (.ldc2_w 197, 3)) ∧ (decode cX1_withDate 4 = .ok (.lmul, 1)) ∧ (decode cX1_withDate 5 = .ok (.aload_n 0, 1)) ∧ (decode cX1_withDate 6 = .ok (.iload_n 3, 1)) ∧ (decode cX1_withDate 7 = .ok (.invokevirtual 216, 3)) ∧ (decode cX1_withDate 10 = .ok (.i2l, 1)) ∧ (decode cX1_withDate 11 = .ok (.ladd, 1)) ∧ (decode cX1_withDate 12 = .ok (.lstore 4, 2)) ∧ (decode cX1_withDate 14 = .ok (.lload 4, 2)) ∧ (decode cX1_withDate 16 = .ok (.ldc2_w 197, 3)) ∧ (decode cX1_withDate 19 = .ok (.lmul, 1)) ∧ (decode cX1_withDate 20 = .ok (.aload_n 0, 1)) ∧ (decode cX1_withDate 21 = .ok (.iload_n 3, 1)) ∧ (decode cX1_withDate 22 = .ok (.invokevirtual 219, 3)) ∧ (decode cX1_withDate 25 = .ok (.i2l, 1)) := by decide +kernel
theorem dX1_withDate_0 : decode cX1_withDate 0 = .ok (.lload_n 1, 1) := db2_16.1
theorem dX1_withDate_1 : decode cX1_withDate 1 = .ok (.ldc2_w 197, 3) := db2_16.2.1
theorem dX1_withDate_4 : decode cX1_withDate 4 = .ok (.lmul, 1) := db2_16.2.2.1
theorem dX1_withDate_5 : decode cX1_withDate 5 = .ok (.aload_n 0, 1) := db2_16.2.2.2.1
theorem dX1_withDate_6 : decode cX1_withDate 6 = .ok (.iload_n 3, 1) := db2_16.2.2.2.2.1
theorem dX1_withDate_7 : decode cX1_withDate 7 = .ok (.invokevirtual 216, 3) := db2_16.2.2.2.2.2.1
theorem dX1_withDate_10 : decode cX1_withDate 10 = .ok (.i2l, 1) := db2_16.2.2.2.2.2.2.1
theorem dX1_withDate_11 : decode cX1_withDate 11 = .ok (.ladd, 1) := db2_16.2.2.2.2.2.2.2.1
theorem dX1_withDate_12 : decode cX1_withDate 12 = .ok (.lstore 4, 2) := db2_16.2.2.2.2.2.2.2.2.1
theorem dX1_withDate_14 : decode cX1_withDate 14 = .ok (.lload 4, 2) := db2_16.2.2.2.2.2.2.2.2.2.1
theorem dX1_withDate_16 : decode cX1_withDate 16 = .ok (.ldc2_w 197, 3) := db2_16.2.2.2.2.2.2.2.2.2.2.1
theorem dX1_withDate_19 : decode cX1_withDate 19 = .ok (.lmul, 1) := db2_16.2.2.2.2.2.2.2.2.2.2.2.1
theorem dX1_withDate_20 : decode cX1_withDate 20 = .ok (.aload_n 0, 1) := db2_16.2.2.2.2.2.2.2.2.2.2.2.2.1
theorem dX1_withDate_21 : decode cX1_withDate 21 = .ok (.iload_n 3, 1) := db2_16.2.2.2.2.2.2.2.2.2.2.2.2.2.1
theorem dX1_withDate_22 : decode cX1_withDate 22 = .ok (.invokevirtual 219, 3) := db2_16.2.2.2.2.2.2.2.2.2.2.2.2.2.2.1
theorem dX1_withDate_25 : decode cX1_withDate 25 = .ok (.i2l, 1) := db2_16.2.2.2.2.2.2.2.2.2.2.2.2.2.2.2
theorem db2_17 : (decode cX1_withDate 26 = .ok (.ladd, 1)) ∧ (decode cX1_withDate 27 = .ok (.lstore 4, 2)) ∧ (decode cX1_withDate 29 = .ok (.lload 4, 2)) ∧ (decode cX1_withDate 31 = .ok (.ldc2_w 197, 3)) ∧ (decode cX1_withDate 34 = .ok (.lmul, 1)) ∧ (decode cX1_withDate 35 = .ok (.aload_n 0, 1)) ∧ (decode cX1_withDate 36 = .ok (.iload_n 3, 1)) ∧ (decode cX1_withDate 37 = .ok (.invokevirtual 222, 3)) ∧ (decode cX1_withDate 40 = .ok (.i2l, 1)) ∧ (decode cX1_withDate 41 = .ok (.ladd, 1)) ∧ (decode cX1_withDate 42 = .ok (.lstore 4, 2)) ∧ (decode cX1_withDate 44 = .ok (.lload 4, 2)) ∧ (decode cX1_withDate 46 = .ok (.ldc2_w 197, 3)) ∧ (decode cX1_withDate 49 = .ok (.lmul, 1)) ∧ (decode cX1_withDate 50 = .ok (.aload_n 0, 1)) ∧ (decode cX1_withDate 51 = .ok (.iload_n 3, 1)) := by decide +kernel
theorem dX1_withDate_26 : decode cX1_withDate 26 = .ok (.ladd, 1) := db2_17.1
theorem dX1_withDate_27 : decode cX1_withDate 27 = .ok (.lstore 4, 2) := db2_17.2.1
theorem dX1_withDate_29 : decode cX1_withDate 29 = .ok (.lload 4, 2) := db2_17.2.2.1
theorem dX1_withDate_31 : decode cX1_withDate 31 = .ok (.ldc2_w 197, 3) := db2_17.2.2.2.1
theorem dX1_withDate_34 : decode cX1_withDate 34 = .ok (.lmul, 1) := db2_17.2.2.2.2.1
theorem dX1_withDate_35 : decode cX1_withDate 35 = .ok (.aload_n 0, 1) := db2_17.2.2.2.2.2.1
theorem dX1_withDate_36 : decode cX1_withDate 36 = .ok (.iload_n 3, 1) := db2_17.2.2.2.2.2.2.1
theorem dX1_withDate_37 : decode cX1_withDate 37 = .ok (.invokevirtual 222, 3) := db2_17.2.2.2.2.2.2.2.1
theorem dX1_withDate_40 : decode cX1_withDate 40 = .ok (.i2l, 1) := db2_17.2.2.2.2.2.2.2.2.1
theorem dX1_withDate_41 : decode cX1_withDate 41 = .ok (.ladd, 1) := db2_17.2.2.2.2.2.2.2.2.2.1
theorem dX1_withDate_42 : decode cX1_withDate 42 = .ok (.lstore 4, 2) := db2_17.2.2.2.2.2.2.2.2.2.2.1
theorem dX1_withDate_44 : decode cX1_withDate 44 = .ok (.lload 4, 2) := db2_17.2.2.2.2.2.2.2.2.2.2.2.1
theorem dX1_withDate_46 : decode cX1_withDate 46 = .ok (.ldc2_w 197, 3) := db2_17.2.2.2.2.2.2.2.2.2.2.2.2.1
theorem dX1_withDate_49 : decode cX1_withDate 49 = .ok (.lmul, 1) := db2_17.2.2.2.2.2.2.2.2.2.2.2.2.2.1
theorem dX1_withDate_50 : decode cX1_withDate 50 = .ok (.aload_n 0, 1) := db2_17.2.2.2.2.2.2.2.2.2.2.2.2.2.2.1
theorem dX1_withDate_51 : decode cX1_withDate 51 = .ok (.iload_n 3, 1) := db2_17.2.2.2.2.2.2.2.2.2.2.2.2.2.2.2
theorem db2_18 : (decode cX1_withDate 52 = .ok (.invokevirtual 225, 3)) ∧ (decode cX1_withDate 55 = .ok (.i2l, 1)) ∧ (decode cX1_withDate 56 = .ok (.ladd, 1)) ∧ (decode cX1_withDate 57 = .ok (.lstore 4, 2)) ∧ (decode cX1_withDate 59 = .ok (.lload 4, 2)) ∧ (decode cX1_withDate 61 = .ok (.ldc2_w 197, 3)) ∧ (decode cX1_withDate 64 = .ok (.lmul, 1)) ∧ (decode cX1_withDate 65 = .ok (.aload_n 0, 1)) ∧ (decode cX1_withDate 66 = .ok (.iload_n 3, 1)) ∧ (decode cX1_withDate 67 = .ok (.invokevirtual 228, 3)) ∧ (decode cX1_withDate 70 = .ok (.i2l, 1)) ∧ (decode cX1_withDate 71 = .ok (.ladd, 1)) ∧ (decode cX1_withDate 72 = .ok (.lstore 4, 2)) ∧ (decode cX1_withDate 74 = .ok (.lload 4, 2)) ∧ (decode cX1_withDate 76 = .ok (.ldc2_w 197, 3)) ∧ (decode cX1_withDate 79 = .ok (.lmul, 1)) := by decide +kernel
theorem dX1_withDate_52 : decode cX1_withDate 52 = .ok (.invokevirtual 225, 3) := db2_18.1
theorem dX1_withDate_55 : decode cX1_withDate 55 = .ok (.i2l, 1) := db2_18.2.1
theorem dX1_withDate_56 : decode cX1_withDate 56 = .ok (.ladd, 1) := db2_18.2.2.1
theorem dX1_withDate_57 : decode cX1_withDate 57 = .ok (.lstore 4, 2) := db2_18.2.2.2.1
theorem dX1_withDate_59 : decode cX1_withDate 59 = .ok (.lload 4, 2) := db2_18.2.2.2.2.1
theorem dX1_withDate_61 : decode cX1_withDate 61 = .ok (.ldc2_w 197, 3) := db2_18.2.2.2.2.2.1
theorem dX1_withDate_64 : decode cX1_withDate 64 = .ok (.lmul, 1) := db2_18.2.2.2.2.2.2.1
theorem dX1_withDate_65 : decode cX1_withDate 65 = .ok (.aload_n 0, 1) := db2_18.2.2.2.2.2.2.2.1
theorem dX1_withDate_66 : decode cX1_withDate 66 = .ok (.iload_n 3, 1) := db2_18.2.2.2.2.2.2.2.2.1
theorem dX1_withDate_67 : decode cX1_withDate 67 = .ok (.invokevirtual 228, 3) := db2_18.2.2.2.2.2.2.2.2.2.1
theorem dX1_withDate_70 : decode cX1_withDate 70 = .ok (.i2l, 1) := db2_18.2.2.2.2.2.2.2.2.2.2.1
theorem dX1_withDate_71 : decode cX1_withDate 71 = .ok (.ladd, 1) := db2_18.2.2.2.2.2.2.2.2.2.2.2.1
theorem dX1_withDate_72 : decode cX1_withDate 72 = .ok (.lstore 4, 2) := db2_18.2.2.2.2.2.2.2.2.2.2.2.2.1
theorem dX1_withDate_74 : decode cX1_withDate 74 = .ok (.lload 4, 2) := db2_18.2.2.2.2.2.2.2.2.2.2.2.2.2.1
theorem dX1_withDate_76 : decode cX1_withDate 76 = .ok (.ldc2_w 197, 3) := db2_18.2.2.2.2.2.2.2.2.2.2.2.2.2.2.1
theorem dX1_withDate_79 : decode cX1_withDate 79 = .ok (.lmul, 1) := db2_18.2.2.2.2.2.2.2.2.2.2.2.2.2.2.2
theorem db2_19 : (decode cX1_withDate 80 = .ok (.aload_n 0, 1)) ∧ (decode cX1_withDate 81 = .ok (.iload_n 3, 1)) ∧ (decode cX1_withDate 82 = .ok (.invokevirtual 231, 3)) ∧ (decode cX1_withDate 85 = .ok (.i2l, 1)) ∧ (decode cX1_withDate 86 = .ok (.ladd, 1)) ∧ (decode cX1_withDate 87 = .ok (.lstore 4, 2)) ∧ (decode cX1_withDate 89 = .ok (.lload 4, 2)) ∧ (decode cX1_withDate 91 = .ok (.ldc2_w 197, 3)) ∧ (decode cX1_withDate 94 = .ok (.lmul, 1)) ∧ (decode cX1_withDate 95 = .ok (.aload_n 0, 1)) ∧ (decode cX1_withDate 96 = .ok (.iload_n 3, 1)) ∧ (decode cX1_withDate 97 = .ok (.invokevirtual 234, 3)) ∧ (decode cX1_withDate 100 = .ok (.ifCond .eq 7, 3)) ∧ (decode cX1_withDate 103 = .ok (.iconst 1, 1)) ∧ (decode cX1_withDate 104 = .ok (.goto 4, 3)) ∧ (decode cX1_withDate 107 = .ok (.iconst 0, 1)) := by decide +kernel
theorem dX1_withDate_80 : decode cX1_withDate 80 = .ok (.aload_n 0, 1) := db2_19.1
theorem dX1_withDate_81 : decode cX1_withDate 81 = .ok (.iload_n 3, 1) := db2_19.2.1
theorem dX1_withDate_82 : decode cX1_withDate 82 = .ok (.invokevirtual 231, 3) := db2_19.2.2.1
theorem dX1_withDate_85 : decode cX1_withDate 85 = .ok (.i2l, 1) := db2_19.2.2.2.1
theorem dX1_withDate_86 : decode cX1_withDate 86 = .ok (.ladd, 1) := db2_19.2.2.2.2.1
theorem dX1_withDate_87 : decode cX1_withDate 87 = .ok (.lstore 4, 2) := db2_19.2.2.2.2.2.1
theorem dX1_withDate_89 : decode cX1_withDate 89 = .ok (.lload 4, 2) := db2_19.2.2.2.2.2.2.1
theorem dX1_withDate_91 : decode cX1_withDate 91 = .ok (.ldc2_w 197, 3) := db2_19.2.2.2.2.2.2.2.1
theorem dX1_withDate_94 : decode cX1_withDate 94 = .ok (.lmul, 1) := db2_19.2.2.2.2.2.2.2.2.1
theorem dX1_withDate_95 : decode cX1_withDate 95 = .ok (.aload_n 0, 1) := db2_19.2.2.2.2.2.2.2.2.2.1
theorem dX1_withDate_96 : decode cX1_withDate 96 = .ok (.iload_n 3, 1) := db2_19.2.2.2.2.2.2.2.2.2.2.1
theorem dX1_withDate_97 : decode cX1_withDate 97 = .ok (.invokevirtual 234, 3) := db2_19.2.2.2.2.2.2.2.2.2.2.2.1
theorem dX1_withDate_100 : decode cX1_withDate 100 = .ok (.ifCond .eq 7, 3) := db2_19.2.2.2.2.2.2.2.2.2.2.2.2.1
theorem dX1_withDate_103 : decode cX1_withDate 103 = .ok (.iconst 1, 1) := db2_19.2.2.2.2.2.2.2.2.2.2.2.2.2.1
theorem dX1_withDate_104 : decode cX1_withDate 104 = .ok (.goto 4, 3) := db2_19.2.2.2.2.2.2.2.2.2.2.2.2.2.2.1
theorem dX1_withDate_107 : decode cX1_withDate 107 = .ok (.iconst 0, 1) := db2_19.2.2.2.2.2.2.2.2.2.2.2.2.2.2.2
theorem db2_20 : (decode cX1_withDate 108 = .ok (.i2l, 1)) ∧ (decode cX1_withDate 109 = .ok (.ladd, 1)) ∧ (decode cX1_withDate 110 = .ok (.lstore 4, 2)) ∧ (decode cX1_withDate 112 = .ok (.lload 4, 2)) ∧ (decode cX1_withDate 114 = .ok (.ldc2_w 197, 3)) ∧ (decode cX1_withDate 117 = .ok (.lmul, 1)) ∧ (decode cX1_withDate 118 = .ok (.aload_n 0, 1)) ∧ (decode cX1_withDate 119 = .ok (.iload_n 3, 1)) ∧ (decode cX1_withDate 120 = .ok (.invokevirtual 237, 3)) ∧ (decode cX1_withDate 123 = .ok (.invokevirtual 241, 3)) ∧ (decode cX1_withDate 126 = .ok (.i2l, 1)) ∧ (decode cX1_withDate 127 = .ok (.ladd, 1)) ∧ (decode cX1_withDate 128 = .ok (.lreturn, 1)) := by decide +kernel
theorem dX1_withDate_108 : decode cX1_withDate 108 = .ok (.i2l, 1) := db2_20.1
theorem dX1_withDate_109 : decode cX1_withDate 109 = .ok (.ladd, 1) := db2_20.2.1
theorem dX1_withDate_110 : decode cX1_withDate 110 = .ok (.lstore 4, 2) := db2_20.2.2.1
theorem dX1_withDate_112 : decode cX1_withDate 112 = .ok (.lload 4, 2) := db2_20.2.2.2.1
theorem dX1_withDate_114 : decode cX1_withDate 114 = .ok (.ldc2_w 197, 3) := db2_20.2.2.2.2.1
theorem dX1_withDate_117 : decode cX1_withDate 117 = .ok (.lmul, 1) := db2_20.2.2.2.2.2.1
theorem dX1_withDate_118 : decode cX1_withDate 118 = .ok (.aload_n 0, 1) := db2_20.2.2.2.2.2.2.1
theorem dX1_withDate_119 : decode cX1_withDate 119 = .ok (.iload_n 3, 1) := db2_20.2.2.2.2.2.2.2.1
theorem dX1_withDate_120 : decode cX1_withDate 120 = .ok (.invokevirtual 237, 3) := db2_20.2.2.2.2.2.2.2.2.1
theorem dX1_withDate_123 : decode cX1_withDate 123 = .ok (.invokevirtual 241, 3) := db2_20.2.2.2.2.2.2.2.2.2.1
theorem dX1_withDate_126 : decode cX1_withDate 126 = .ok (.i2l, 1) := db2_20.2.2.2.2.2.2.2.2.2.2.1
theorem dX1_withDate_127 : decode cX1_withDate 127 = .ok (.ladd, 1) := db2_20.2.2.2.2.2.2.2.2.2.2.2.1
theorem dX1_withDate_128 : decode cX1_withDate 128 = .ok (.lreturn, 1) := db2_20.2.2.2.2.2.2.2.2.2.2.2.2
theorem db2_21 : (decode cX1_withShifts 0 = .ok (.iload_n 3, 1)) ∧ (decode cX1_withShifts 1 = .ok (.iconst 1, 1)) ∧ (decode cX1_withShifts 2 = .ok (.iadd, 1)) ∧ (decode cX1_withShifts 3 = .ok (.bipush 6, 2)) ∧ (decode cX1_withShifts 5 = .ok (.if_icmp .ge 9, 3)) ∧ (decode cX1_withShifts 8 = .ok (.iload_n 3, 1)) ∧ (decode cX1_withShifts 9 = .ok (.iconst 1, 1)) ∧ (decode cX1_withShifts 10 = .ok (.iadd, 1)) ∧ (decode cX1_withShifts 11 = .ok (.goto 4, 3)) ∧ (decode cX1_withShifts 14 = .ok (.iconst 0, 1)) ∧ (decode cX1_withShifts 15 = .ok (.istore 4, 2)) ∧ (decode cX1_withShifts 17 = .ok (.lload_n 1, 1)) ∧ (decode cX1_withShifts 18 = .ok (.ldc2_w 197, 3)) ∧ (decode cX1_withShifts 21 = .ok (.lmul, 1)) ∧ (decode cX1_withShifts 22 = .ok (.aload_n 0, 1)) ∧ (decode cX1_withShifts 23 = .ok (.iload_n 3, 1)) := by decide +kernel
theorem dX1_withShifts_0 : decode cX1_withShifts 0 = .ok (.iload_n 3, 1) := db2_21.1
theorem dX1_withShifts_1 : decode cX1_withShifts 1 = .ok (.iconst 1, 1) := db2_21.2.1
theorem dX1_withShifts_2 : decode cX1_withShifts 2 = .ok (.iadd, 1) := db2_21.2.2.1
theorem dX1_withShifts_3 : decode cX1_withShifts 3 = .ok (.bipush 6, 2) := db2_21.2.2.2.1
theorem dX1_withShifts_5 : decode cX1_withShifts 5 = .ok (.if_icmp .ge 9, 3) := db2_21.2.2.2.2.1
theorem dX1_withShifts_8 : decode cX1_withShifts 8 = .ok (.iload_n 3, 1) := db2_21.2.2.2.2.2.1
theorem dX1_withShifts_9 : decode cX1_withShifts 9 = .ok (.iconst 1, 1) := db2_21.2.2.2.2.2.2.1
theorem dX1_withShifts_10 : decode cX1_withShifts 10 = .ok (.iadd, 1) := db2_21.2.2.2.2.2.2.2.1
theorem dX1_withShifts_11 : decode cX1_withShifts 11 = .ok (.goto 4, 3) := db2_21.2.2.2.2.2.2.2.2.1
theorem dX1_withShifts_14 : decode cX1_withShifts 14 = .ok (.iconst 0, 1) := db2_21.2.2.2.2.2.2.2.2.2.1
theorem dX1_withShifts_15 : decode cX1_withShifts 15 = .ok (.istore 4, 2) := db2_21.2.2.2.2.2.2.2.2.2.2.1
theorem dX1_withShifts_17 : decode cX1_withShifts 17 = .ok (.lload_n 1, 1) := db2_21.2.2.2.2.2.2.2.2.2.2.2.1
theorem dX1_withShifts_18 : decode cX1_withShifts 18 = .ok (.ldc2_w 197, 3) := db2_21.2.2.2.2.2.2.2.2.2.2.2.2.1
theorem dX1_withShifts_21 : decode cX1_withShifts 21 = .ok (.lmul, 1) := db2_21.2.2.2.2.2.2.2.2.2.2.2.2.2.1
theorem dX1_withShifts_22 : decode cX1_withShifts 22 = .ok (.aload_n 0, 1) := db2_21.2.2.2.2.2.2.2.2.2.2.2.2.2.2.1
theorem dX1_withShifts_23 : decode cX1_withShifts 23 = .ok (.iload_n 3, 1) := db2_21.2.2.2.2.2.2.2.2.2.2.2.2.2.2.2
theorem db2_22 : (decode cX1_withShifts 24 = .ok (.iconst 1, 1)) ∧ (decode cX1_withShifts 25 = .ok (.invokevirtual 246, 3)) ∧ (decode cX1_withShifts 28 = .ok (.i2l, 1)) ∧ (decode cX1_withShifts 29 = .ok (.ladd, 1)) ∧ (decode cX1_withShifts 30 = .ok (.lstore 5, 2)) ∧ (decode cX1_withShifts 32 = .ok (.lload 5, 2)) ∧ (decode cX1_withShifts 34 = .ok (.ldc2_w 197, 3)) ∧ (decode cX1_withShifts 37 = .ok (.lmul, 1)) ∧ (decode cX1_withShifts 38 = .ok (.aload_n 0, 1)) ∧ (decode cX1_withShifts 39 = .ok (.iload_n 3, 1)) ∧ (decode cX1_withShifts 40 = .ok (.iconst (-1), 1)) ∧ (decode cX1_withShifts 41 = .ok (.invokevirtual 246, 3)) ∧ (decode cX1_withShifts 44 = .ok (.i2l, 1)) ∧ (decode cX1_withShifts 45 = .ok (.ladd, 1)) ∧ (decode cX1_withShifts 46 = .ok (.lstore 5, 2)) ∧ (decode cX1_withShifts 48 = .ok (.lload 5, 2)) := by decide +kernel
theorem dX1_withShifts_24 : decode cX1_withShifts 24 = .ok (.iconst 1, 1) := db2_22.1
theorem dX1_withShifts_25 : decode cX1_withShifts 25 = .ok (.invokevirtual 246, 3) := db2_22.2.1
theorem dX1_withShifts_28 : decode cX1_withShifts 28 = .ok (.i2l, 1) := db2_22.2.2.1
theorem dX1_withShifts_29 : decode cX1_withShifts 29 = .ok (.ladd, 1) := db2_22.2.2.2.1
theorem dX1_withShifts_30 : decode cX1_withShifts 30 = .ok (.lstore 5, 2) := db2_22.2.2.2.2.1
theorem dX1_withShifts_32 : decode cX1_withShifts 32 = .ok (.lload 5, 2) := db2_22.2.2.2.2.2.1
theorem dX1_withShifts_34 : decode cX1_withShifts 34 = .ok (.ldc2_w 197, 3) := db2_22.2.2.2.2.2.2.1
theorem dX1_withShifts_37 : decode cX1_withShifts 37 = .ok (.lmul, 1) := db2_22.2.2.2.2.2.2.2.1
theorem dX1_withShifts_38 : decode cX1_withShifts 38 = .ok (.aload_n 0, 1) := db2_22.2.2.2.2.2.2.2.2.1
theorem dX1_withShifts_39 : decode cX1_withShifts 39 = .ok (.iload_n 3, 1) := db2_22.2.2.2.2.2.2.2.2.2.1
theorem dX1_withShifts_40 : decode cX1_withShifts 40 = .ok (.iconst (-1), 1) := db2_22.2.2.2.2.2.2.2.2.2.2.1
theorem dX1_withShifts_41 : decode cX1_withShifts 41 = .ok (.invokevirtual 246, 3) := db2_22.2.2.2.2.2.2.2.2.2.2.2.1
theorem dX1_withShifts_44 : decode cX1_withShifts 44 = .ok (.i2l, 1) := db2_22.2.2.2.2.2.2.2.2.2.2.2.2.1
theorem dX1_withShifts_45 : decode cX1_withShifts 45 = .ok (.ladd, 1) := db2_22.2.2.2.2.2.2.2.2.2.2.2.2.2.1
theorem dX1_withShifts_46 : decode cX1_withShifts 46 = .ok (.lstore 5, 2) := db2_22.2.2.2.2.2.2.2.2.2.2.2.2.2.2.1
theorem dX1_withShifts_48 : decode cX1_withShifts 48 = .ok (.lload 5, 2) := db2_22.2.2.2.2.2.2.2.2.2.2.2.2.2.2.2
theorem db2_23 : (decode cX1_withShifts 50 = .ok (.ldc2_w 197, 3)) ∧ (decode cX1_withShifts 53 = .ok (.lmul, 1)) ∧ (decode cX1_withShifts 54 = .ok (.aload_n 0, 1)) ∧ (decode cX1_withShifts 55 = .ok (.iload_n 3, 1)) ∧ (decode cX1_withShifts 56 = .ok (.iconst 1, 1)) ∧ (decode cX1_withShifts 57 = .ok (.bipush 30, 2)) ∧ (decode cX1_withShifts 59 = .ok (.invokevirtual 249, 3)) ∧ (decode cX1_withShifts 62 = .ok (.i2l, 1)) ∧ (decode cX1_withShifts 63 = .ok (.ladd, 1)) ∧ (decode cX1_withShifts 64 = .ok (.lstore 5, 2)) ∧ (decode cX1_withShifts 66 = .ok (.lload 5, 2)) ∧ (decode cX1_withShifts 68 = .ok (.ldc2_w 197, 3)) ∧ (decode cX1_withShifts 71 = .ok (.lmul, 1)) ∧ (decode cX1_withShifts 72 = .ok (.aload_n 0, 1)) ∧ (decode cX1_withShifts 73 = .ok (.iload_n 3, 1)) ∧ (decode cX1_withShifts 74 = .ok (.iload 4, 2)) := by decide +kernel
theorem dX1_withShifts_50 : decode cX1_withShifts 50 = .ok (.ldc2_w 197, 3) := db2_23.1
theorem dX1_withShifts_53 : decode cX1_withShifts 53 = .ok (.lmul, 1) := db2_23.2.1
theorem dX1_withShifts_54 : decode cX1_withShifts 54 = .ok (.aload_n 0, 1) := db2_23.2.2.1
theorem dX1_withShifts_55 : decode cX1_withShifts 55 = .ok (.iload_n 3, 1) := db2_23.2.2.2.1
theorem dX1_withShifts_56 : decode cX1_withShifts 56 = .ok (.iconst 1, 1) := db2_23.2.2.2.2.1
theorem dX1_withShifts_57 : decode cX1_withShifts 57 = .ok (.bipush 30, 2) := db2_23.2.2.2.2.2.1
theorem dX1_withShifts_59 : decode cX1_withShifts 59 = .ok (.invokevirtual 249, 3) := db2_23.2.2.2.2.2.2.1
theorem dX1_withShifts_62 : decode cX1_withShifts 62 = .ok (.i2l, 1) := db2_23.2.2.2.2.2.2.2.1
theorem dX1_withShifts_63 : decode cX1_withShifts 63 = .ok (.ladd, 1) := db2_23.2.2.2.2.2.2.2.2.1
theorem dX1_withShifts_64 : decode cX1_withShifts 64 = .ok (.lstore 5, 2) := db2_23.2.2.2.2.2.2.2.2.2.1
theorem dX1_withShifts_66 : decode cX1_withShifts 66 = .ok (.lload 5, 2) := db2_23.2.2.2.2.2.2.2.2.2.2.1
theorem dX1_withShifts_68 : decode cX1_withShifts 68 = .ok (.ldc2_w 197, 3) := db2_23.2.2.2.2.2.2.2.2.2.2.2.1
theorem dX1_withShifts_71 : decode cX1_withShifts 71 = .ok (.lmul, 1) := db2_23.2.2.2.2.2.2.2.2.2.2.2.2.1
theorem dX1_withShifts_72 : decode cX1_withShifts 72 = .ok (.aload_n 0, 1) := db2_23.2.2.2.2.2.2.2.2.2.2.2.2.2.1
theorem dX1_withShifts_73 : decode cX1_withShifts 73 = .ok (.iload_n 3, 1) := db2_23.2.2.2.2.2.2.2.2.2.2.2.2.2.2.1
theorem dX1_withShifts_74 : decode cX1_withShifts 74 = .ok (.iload 4, 2) := db2_23.2.2.2.2.2.2.2.2.2.2.2.2.2.2.2
theorem db2_24 : (decode cX1_withShifts 76 = .ok (.invokevirtual 252, 3)) ∧ (decode cX1_withShifts 79 = .ok (.i2l, 1)) ∧ (decode cX1_withShifts 80 = .ok (.ladd, 1)) ∧ (decode cX1_withShifts 81 = .ok (.lstore 5, 2)) ∧ (decode cX1_withShifts 83 = .ok (.lload 5, 2)) ∧ (decode cX1_withShifts 85 = .ok (.ldc2_w 197, 3)) ∧ (decode cX1_withShifts 88 = .ok (.lmul, 1)) ∧ (decode cX1_withShifts 89 = .ok (.aload_n 0, 1)) ∧ (decode cX1_withShifts 90 = .ok (.iload_n 3, 1)) ∧ (decode cX1_withShifts 91 = .ok (.iload 4, 2)) ∧ (decode cX1_withShifts 93 = .ok (.invokevirtual 255, 3)) ∧ (decode cX1_withShifts 96 = .ok (.i2l, 1)) ∧ (decode cX1_withShifts 97 = .ok (.ladd, 1)) ∧ (decode cX1_withShifts 98 = .ok (.lreturn, 1)) := by decide +kernel
theorem dX1_withShifts_76 : decode cX1_withShifts 76 = .ok (.invokevirtual 252, 3) := db2_24.1
theorem dX1_withShifts_79 : decode cX1_withShifts 79 = .ok (.i2l, 1) := db2_24.2.1
theorem dX1_withShifts_80 : decode cX1_withShifts 80 = .ok (.ladd, 1) := db2_24.2.2.1
theorem dX1_withShifts_81 : decode cX1_withShifts 81 = .ok (.lstore 5, 2) := db2_24.2.2.2.1
theorem dX1_withShifts_83 : decode cX1_withShifts 83 = .ok (.lload 5, 2) := db2_24.2.2.2.2.1
theorem dX1_withShifts_85 : decode cX1_withShifts 85 = .ok (.ldc2_w 197, 3) := db2_24.2.2.2.2.2.1
theorem dX1_withShifts_88 : decode cX1_withShifts 88 = .ok (.lmul, 1) := db2_24.2.2.2.2.2.2.1
theorem dX1_withShifts_89 : decode cX1_withShifts 89 = .ok (.aload_n 0, 1) := db2_24.2.2.2.2.2.2.2.1
theorem dX1_withShifts_90 : decode cX1_withShifts 90 = .ok (.iload_n 3, 1) := db2_24.2.2.2.2.2.2.2.2.1
theorem dX1_withShifts_91 : decode cX1_withShifts 91 = .ok (.iload 4, 2) := db2_24.2.2.2.2.2.2.2.2.2.1
theorem dX1_withShifts_93 : decode cX1_withShifts 93 = .ok (.invokevirtual 255, 3) := db2_24.2.2.2.2.2.2.2.2.2.2.1
theorem dX1_withShifts_96 : decode cX1_withShifts 96 = .ok (.i2l, 1) := db2_24.2.2.2.2.2.2.2.2.2.2.2.1
theorem dX1_withShifts_97 : decode cX1_withShifts 97 = .ok (.ladd, 1) := db2_24.2.2.2.2.2.2.2.2.2.2.2.2.1
theorem dX1_withShifts_98 : decode cX1_withShifts 98 = .ok (.lreturn, 1) := db2_24.2.2.2.2.2.2.2.2.2.2.2.2.2
theorem db2_25 : (decode cX1_put 0 = .ok (.aload_n 0, 1)) ∧ (decode cX1_put 1 = .ok (.getfield 9, 3)) ∧ (decode cX1_put 4 = .ok (.iload_n 1, 1)) ∧ (decode cX1_put 5 = .ok (.iload_n 2, 1)) ∧ (decode cX1_put 6 = .ok (.iastore, 1)) ∧ (decode cX1_put 7 = .ok (.aload_n 0, 1)) ∧ (decode cX1_put 8 = .ok (.dup, 1)) ∧ (decode cX1_put 9 = .ok (.getfield 29, 3)) ∧ (decode cX1_put 12 = .ok (.iconst 1, 1)) ∧ (decode cX1_put 13 = .ok (.iadd, 1)) ∧ (decode cX1_put 14 = .ok (.putfield 29, 3)) ∧ (decode cX1_put 17 = .ok (.iload_n 2, 1)) ∧ (decode cX1_put 18 = .ok (.ireturn, 1)) := by decide +kernel
theorem dX1_put_0 : decode cX1_put 0 = .ok (.aload_n 0, 1) := db2_25.1
theorem dX1_put_1 : decode cX1_put 1 = .ok (.getfield 9, 3) := db2_25.2.1
theorem dX1_put_4 : decode cX1_put 4 = .ok (.iload_n 1, 1) := db2_25.2.2.1
theorem dX1_put_5 : decode cX1_put 5 = .ok (.iload_n 2, 1) := db2_25.2.2.2.1
theorem dX1_put_6 : decode cX1_put 6 = .ok (.iastore, 1) := db2_25.2.2.2.2.1
theorem dX1_put_7 : decode cX1_put 7 = .ok (.aload_n 0, 1) := db2_25.2.2.2.2.2.1
theorem dX1_put_8 : decode cX1_put 8 = .ok (.dup, 1) := db2_25.2.2.2.2.2.2.1
theorem dX1_put_9 : decode cX1_put 9 = .ok (.getfield 29, 3) := db2_25.2.2.2.2.2.2.2.1
theorem dX1_put_12 : decode cX1_put 12 = .ok (.iconst 1, 1) := db2_25.2.2.2.2.2.2.2.2.1
theorem dX1_put_13 : decode cX1_put 13 = .ok (.iadd, 1) := db2_25.2.2.2.2.2.2.2.2.2.1
theorem dX1_put_14 : decode cX1_put 14 = .ok (.putfield 29, 3) := db2_25.2.2.2.2.2.2.2.2.2.2.1
theorem dX1_put_17 : decode cX1_put 17 = .ok (.iload_n 2, 1) := db2_25.2.2.2.2.2.2.2.2.2.2.2.1
theorem dX1_put_18 : decode cX1_put 18 = .ok (.ireturn, 1) := db2_25.2.2.2.2.2.2.2.2.2.2.2.2
theorem db2_26 : (decode cX1_putSpan 0 = .ok (.aload_n 0, 1)) ∧ (decode cX1_putSpan 1 = .ok (.getfield 13, 3)) ∧ (decode cX1_putSpan 4 = .ok (.iload_n 1, 1)) ∧ (decode cX1_putSpan 5 = .ok (.iload_n 2, 1)) ∧ (decode cX1_putSpan 6 = .ok (.iastore, 1)) ∧ (decode cX1_putSpan 7 = .ok (.aload_n 0, 1)) ∧ (decode cX1_putSpan 8 = .ok (.getfield 16, 3)) ∧ (decode cX1_putSpan 11 = .ok (.iload_n 1, 1)) ∧ (decode cX1_putSpan 12 = .ok (.iload_n 3, 1)) ∧ (decode cX1_putSpan 13 = .ok (.iastore, 1)) ∧ (decode cX1_putSpan 14 = .ok (.aload_n 0, 1)) ∧ (decode cX1_putSpan 15 = .ok (.getfield 19, 3)) ∧ (decode cX1_putSpan 18 = .ok (.iload_n 1, 1)) ∧ (decode cX1_putSpan 19 = .ok (.iload 4, 2)) ∧ (decode cX1_putSpan 21 = .ok (.iastore, 1)) ∧ (decode cX1_putSpan 22 = .ok (.aload_n 0, 1)) := by decide +kernel
theorem dX1_putSpan_0 : decode cX1_putSpan 0 = .ok (.aload_n 0, 1) := db2_26.1
theorem dX1_putSpan_1 : decode cX1_putSpan 1 = .ok (.getfield 13, 3) := db2_26.2.1
theorem dX1_putSpan_4 : decode cX1_putSpan 4 = .ok (.iload_n 1, 1) := db2_26.2.2.1
theorem dX1_putSpan_5 : decode cX1_putSpan 5 = .ok (.iload_n 2, 1) := db2_26.2.2.2.1
theorem dX1_putSpan_6 : decode cX1_putSpan 6 = .ok (.iastore, 1) := db2_26.2.2.2.2.1
theorem dX1_putSpan_7 : decode cX1_putSpan 7 = .ok (.aload_n 0, 1) := db2_26.2.2.2.2.2.1
theorem dX1_putSpan_8 : decode cX1_putSpan 8 = .ok (.getfield 16, 3) := db2_26.2.2.2.2.2.2.1
theorem dX1_putSpan_11 : decode cX1_putSpan 11 = .ok (.iload_n 1, 1) := db2_26.2.2.2.2.2.2.2.1
theorem dX1_putSpan_12 : decode cX1_putSpan 12 = .ok (.iload_n 3, 1) := db2_26.2.2.2.2.2.2.2.2.1
theorem dX1_putSpan_13 : decode cX1_putSpan 13 = .ok (.iastore, 1) := db2_26.2.2.2.2.2.2.2.2.2.1
theorem dX1_putSpan_14 : decode cX1_putSpan 14 = .ok (.aload_n 0, 1) := db2_26.2.2.2.2.2.2.2.2.2.2.1
theorem dX1_putSpan_15 : decode cX1_putSpan 15 = .ok (.getfield 19, 3) := db2_26.2.2.2.2.2.2.2.2.2.2.2.1
theorem dX1_putSpan_18 : decode cX1_putSpan 18 = .ok (.iload_n 1, 1) := db2_26.2.2.2.2.2.2.2.2.2.2.2.2.1
theorem dX1_putSpan_19 : decode cX1_putSpan 19 = .ok (.iload 4, 2) := db2_26.2.2.2.2.2.2.2.2.2.2.2.2.2.1
theorem dX1_putSpan_21 : decode cX1_putSpan 21 = .ok (.iastore, 1) := db2_26.2.2.2.2.2.2.2.2.2.2.2.2.2.2.1
theorem dX1_putSpan_22 : decode cX1_putSpan 22 = .ok (.aload_n 0, 1) := db2_26.2.2.2.2.2.2.2.2.2.2.2.2.2.2.2
theorem db2_27 : (decode cX1_putSpan 23 = .ok (.dup, 1)) ∧ (decode cX1_putSpan 24 = .ok (.getfield 29, 3)) ∧ (decode cX1_putSpan 27 = .ok (.iconst 1, 1)) ∧ (decode cX1_putSpan 28 = .ok (.iadd, 1)) ∧ (decode cX1_putSpan 29 = .ok (.putfield 29, 3)) ∧ (decode cX1_putSpan 32 = .ok (.return_, 1)) := by decide +kernel
theorem dX1_putSpan_23 : decode cX1_putSpan 23 = .ok (.dup, 1) := db2_27.1
theorem dX1_putSpan_24 : decode cX1_putSpan 24 = .ok (.getfield 29, 3) := db2_27.2.1
theorem dX1_putSpan_27 : decode cX1_putSpan 27 = .ok (.iconst 1, 1) := db2_27.2.2.1
theorem dX1_putSpan_28 : decode cX1_putSpan 28 = .ok (.iadd, 1) := db2_27.2.2.2.1
theorem dX1_putSpan_29 : decode cX1_putSpan 29 = .ok (.putfield 29, 3) := db2_27.2.2.2.2.1
theorem dX1_putSpan_32 : decode cX1_putSpan 32 = .ok (.return_, 1) := db2_27.2.2.2.2.2
theorem db2_28 : (decode cX1_monthsInAll 0 = .ok (.bipush 12, 2)) ∧ (decode cX1_monthsInAll 2 = .ok (.aload_n 0, 1)) ∧ (decode cX1_monthsInAll 3 = .ok (.getfield 13, 3)) ∧ (decode cX1_monthsInAll 6 = .ok (.iload_n 1, 1)) ∧ (decode cX1_monthsInAll 7 = .ok (.iaload, 1)) ∧ (decode cX1_monthsInAll 8 = .ok (.imul, 1)) ∧ (decode cX1_monthsInAll 9 = .ok (.aload_n 0, 1)) ∧ (decode cX1_monthsInAll 10 = .ok (.getfield 16, 3)) ∧ (decode cX1_monthsInAll 13 = .ok (.iload_n 1, 1)) ∧ (decode cX1_monthsInAll 14 = .ok (.iaload, 1)) ∧ (decode cX1_monthsInAll 15 = .ok (.iadd, 1)) ∧ (decode cX1_monthsInAll 16 = .ok (.ireturn, 1)) := by decide +kernel
theorem dX1_monthsInAll_0 : decode cX1_monthsInAll 0 = .ok (.bipush 12, 2) := db2_28.1
theorem dX1_monthsInAll_2 : decode cX1_monthsInAll 2 = .ok (.aload_n 0, 1) := db2_28.2.1
theorem dX1_monthsInAll_3 : decode cX1_monthsInAll 3 = .ok (.getfield 13, 3) := db2_28.2.2.1
theorem dX1_monthsInAll_6 : decode cX1_monthsInAll 6 = .ok (.iload_n 1, 1) := db2_28.2.2.2.1
theorem dX1_monthsInAll_7 : decode cX1_monthsInAll 7 = .ok (.iaload, 1) := db2_28.2.2.2.2.1
theorem dX1_monthsInAll_8 : decode cX1_monthsInAll 8 = .ok (.imul, 1) := db2_28.2.2.2.2.2.1
theorem dX1_monthsInAll_9 : decode cX1_monthsInAll 9 = .ok (.aload_n 0, 1) := db2_28.2.2.2.2.2.2.1
theorem dX1_monthsInAll_10 : decode cX1_monthsInAll 10 = .ok (.getfield 16, 3) := db2_28.2.2.2.2.2.2.2.1
theorem dX1_monthsInAll_13 : decode cX1_monthsInAll 13 = .ok (.iload_n 1, 1) := db2_28.2.2.2.2.2.2.2.2.1
theorem dX1_monthsInAll_14 : decode cX1_monthsInAll 14 = .ok (.iaload, 1) := db2_28.2.2.2.2.2.2.2.2.2.1
theorem dX1_monthsInAll_15 : decode cX1_monthsInAll 15 = .ok (.iadd, 1) := db2_28.2.2.2.2.2.2.2.2.2.2.1
theorem dX1_monthsInAll_16 : decode cX1_monthsInAll 16 = .ok (.ireturn, 1) := db2_28.2.2.2.2.2.2.2.2.2.2.2
theorem db2_29 : (decode cX1_refuse 0 = .ok (.aload_n 0, 1)) ∧ (decode cX1_refuse 1 = .ok (.dup, 1)) ∧ (decode cX1_refuse 2 = .ok (.getfield 33, 3)) ∧ (decode cX1_refuse 5 = .ok (.iconst 1, 1)) ∧ (decode cX1_refuse 6 = .ok (.iadd, 1)) ∧ (decode cX1_refuse 7 = .ok (.putfield 33, 3)) ∧ (decode cX1_refuse 10 = .ok (.bipush (-9), 2)) ∧ (decode cX1_refuse 12 = .ok (.ireturn, 1)) := by decide +kernel
theorem dX1_refuse_0 : decode cX1_refuse 0 = .ok (.aload_n 0, 1) := db2_29.1
theorem dX1_refuse_1 : decode cX1_refuse 1 = .ok (.dup, 1) := db2_29.2.1
theorem dX1_refuse_2 : decode cX1_refuse 2 = .ok (.getfield 33, 3) := db2_29.2.2.1
theorem dX1_refuse_5 : decode cX1_refuse 5 = .ok (.iconst 1, 1) := db2_29.2.2.2.1
theorem dX1_refuse_6 : decode cX1_refuse 6 = .ok (.iadd, 1) := db2_29.2.2.2.2.1
theorem dX1_refuse_7 : decode cX1_refuse 7 = .ok (.putfield 33, 3) := db2_29.2.2.2.2.2.1
theorem dX1_refuse_10 : decode cX1_refuse 10 = .ok (.bipush (-9), 2) := db2_29.2.2.2.2.2.2.1
theorem dX1_refuse_12 : decode cX1_refuse 12 = .ok (.ireturn, 1) := db2_29.2.2.2.2.2.2.2
theorem db2_30 : (decode cX1_isRefused 0 = .ok (.iload_n 1, 1)) ∧ (decode cX1_isRefused 1 = .ok (.iload_n 0, 1)) ∧ (decode cX1_isRefused 2 = .ok (.if_icmp .lt 12, 3)) ∧ (decode cX1_isRefused 5 = .ok (.iload_n 1, 1)) ∧ (decode cX1_isRefused 6 = .ok (.iload_n 0, 1)) ∧ (decode cX1_isRefused 7 = .ok (.isub, 1)) ∧ (decode cX1_isRefused 8 = .ok (.ldc_w 258, 3)) ∧ (decode cX1_isRefused 11 = .ok (.if_icmp .le 7, 3)) ∧ (decode cX1_isRefused 14 = .ok (.iconst 1, 1)) ∧ (decode cX1_isRefused 15 = .ok (.goto 4, 3)) ∧ (decode cX1_isRefused 18 = .ok (.iconst 0, 1)) ∧ (decode cX1_isRefused 19 = .ok (.ireturn, 1)) := by decide +kernel
theorem dX1_isRefused_0 : decode cX1_isRefused 0 = .ok (.iload_n 1, 1) := db2_30.1
theorem dX1_isRefused_1 : decode cX1_isRefused 1 = .ok (.iload_n 0, 1) := db2_30.2.1
theorem dX1_isRefused_2 : decode cX1_isRefused 2 = .ok (.if_icmp .lt 12, 3) := db2_30.2.2.1
theorem dX1_isRefused_5 : decode cX1_isRefused 5 = .ok (.iload_n 1, 1) := db2_30.2.2.2.1
theorem dX1_isRefused_6 : decode cX1_isRefused 6 = .ok (.iload_n 0, 1) := db2_30.2.2.2.2.1
theorem dX1_isRefused_7 : decode cX1_isRefused 7 = .ok (.isub, 1) := db2_30.2.2.2.2.2.1
theorem dX1_isRefused_8 : decode cX1_isRefused 8 = .ok (.ldc_w 258, 3) := db2_30.2.2.2.2.2.2.1
theorem dX1_isRefused_11 : decode cX1_isRefused 11 = .ok (.if_icmp .le 7, 3) := db2_30.2.2.2.2.2.2.2.1
theorem dX1_isRefused_14 : decode cX1_isRefused 14 = .ok (.iconst 1, 1) := db2_30.2.2.2.2.2.2.2.2.1
theorem dX1_isRefused_15 : decode cX1_isRefused 15 = .ok (.goto 4, 3) := db2_30.2.2.2.2.2.2.2.2.2.1
theorem dX1_isRefused_18 : decode cX1_isRefused 18 = .ok (.iconst 0, 1) := db2_30.2.2.2.2.2.2.2.2.2.2.1
theorem dX1_isRefused_19 : decode cX1_isRefused 19 = .ok (.ireturn, 1) := db2_30.2.2.2.2.2.2.2.2.2.2.2
theorem db2_31 : (decode cX1_unlikeDates 0 = .ok (.iconst 0, 1)) ∧ (decode cX1_unlikeDates 1 = .ok (.istore_n 1, 1)) ∧ (decode cX1_unlikeDates 2 = .ok (.iconst 0, 1)) ∧ (decode cX1_unlikeDates 3 = .ok (.istore_n 2, 1)) ∧ (decode cX1_unlikeDates 4 = .ok (.iload_n 2, 1)) ∧ (decode cX1_unlikeDates 5 = .ok (.bipush 6, 2)) ∧ (decode cX1_unlikeDates 7 = .ok (.if_icmp .ge 20, 3)) ∧ (decode cX1_unlikeDates 10 = .ok (.aload_n 0, 1)) ∧ (decode cX1_unlikeDates 11 = .ok (.iload_n 2, 1)) ∧ (decode cX1_unlikeDates 12 = .ok (.invokevirtual 259, 3)) ∧ (decode cX1_unlikeDates 15 = .ok (.ifCond .ne 6, 3)) ∧ (decode cX1_unlikeDates 18 = .ok (.iinc 1 1, 3)) ∧ (decode cX1_unlikeDates 21 = .ok (.iinc 2 1, 3)) ∧ (decode cX1_unlikeDates 24 = .ok (.goto (-20), 3)) ∧ (decode cX1_unlikeDates 27 = .ok (.iload_n 1, 1)) ∧ (decode cX1_unlikeDates 28 = .ok (.ireturn, 1)) := by decide +kernel
theorem dX1_unlikeDates_0 : decode cX1_unlikeDates 0 = .ok (.iconst 0, 1) := db2_31.1
theorem dX1_unlikeDates_1 : decode cX1_unlikeDates 1 = .ok (.istore_n 1, 1) := db2_31.2.1
theorem dX1_unlikeDates_2 : decode cX1_unlikeDates 2 = .ok (.iconst 0, 1) := db2_31.2.2.1
theorem dX1_unlikeDates_3 : decode cX1_unlikeDates 3 = .ok (.istore_n 2, 1) := db2_31.2.2.2.1
theorem dX1_unlikeDates_4 : decode cX1_unlikeDates 4 = .ok (.iload_n 2, 1) := db2_31.2.2.2.2.1
theorem dX1_unlikeDates_5 : decode cX1_unlikeDates 5 = .ok (.bipush 6, 2) := db2_31.2.2.2.2.2.1
theorem dX1_unlikeDates_7 : decode cX1_unlikeDates 7 = .ok (.if_icmp .ge 20, 3) := db2_31.2.2.2.2.2.2.1
theorem dX1_unlikeDates_10 : decode cX1_unlikeDates 10 = .ok (.aload_n 0, 1) := db2_31.2.2.2.2.2.2.2.1
theorem dX1_unlikeDates_11 : decode cX1_unlikeDates 11 = .ok (.iload_n 2, 1) := db2_31.2.2.2.2.2.2.2.2.1
theorem dX1_unlikeDates_12 : decode cX1_unlikeDates 12 = .ok (.invokevirtual 259, 3) := db2_31.2.2.2.2.2.2.2.2.2.1
theorem dX1_unlikeDates_15 : decode cX1_unlikeDates 15 = .ok (.ifCond .ne 6, 3) := db2_31.2.2.2.2.2.2.2.2.2.2.1
theorem dX1_unlikeDates_18 : decode cX1_unlikeDates 18 = .ok (.iinc 1 1, 3) := db2_31.2.2.2.2.2.2.2.2.2.2.2.1
theorem dX1_unlikeDates_21 : decode cX1_unlikeDates 21 = .ok (.iinc 2 1, 3) := db2_31.2.2.2.2.2.2.2.2.2.2.2.2.1
theorem dX1_unlikeDates_24 : decode cX1_unlikeDates 24 = .ok (.goto (-20), 3) := db2_31.2.2.2.2.2.2.2.2.2.2.2.2.2.1
theorem dX1_unlikeDates_27 : decode cX1_unlikeDates 27 = .ok (.iload_n 1, 1) := db2_31.2.2.2.2.2.2.2.2.2.2.2.2.2.2.1
theorem dX1_unlikeDates_28 : decode cX1_unlikeDates 28 = .ok (.ireturn, 1) := db2_31.2.2.2.2.2.2.2.2.2.2.2.2.2.2.2
theorem db2_32 : (decode cX1_isMetBefore 0 = .ok (.iconst 0, 1)) ∧ (decode cX1_isMetBefore 1 = .ok (.istore_n 2, 1)) ∧ (decode cX1_isMetBefore 2 = .ok (.iload_n 2, 1)) ∧ (decode cX1_isMetBefore 3 = .ok (.iload_n 1, 1)) ∧ (decode cX1_isMetBefore 4 = .ok (.if_icmp .ge 26, 3)) ∧ (decode cX1_isMetBefore 7 = .ok (.aload_n 0, 1)) ∧ (decode cX1_isMetBefore 8 = .ok (.getfield 9, 3)) ∧ (decode cX1_isMetBefore 11 = .ok (.iload_n 2, 1)) ∧ (decode cX1_isMetBefore 12 = .ok (.iaload, 1)) ∧ (decode cX1_isMetBefore 13 = .ok (.aload_n 0, 1)) ∧ (decode cX1_isMetBefore 14 = .ok (.getfield 9, 3)) ∧ (decode cX1_isMetBefore 17 = .ok (.iload_n 1, 1)) ∧ (decode cX1_isMetBefore 18 = .ok (.iaload, 1)) ∧ (decode cX1_isMetBefore 19 = .ok (.if_icmp .ne 5, 3)) ∧ (decode cX1_isMetBefore 22 = .ok (.iconst 1, 1)) ∧ (decode cX1_isMetBefore 23 = .ok (.ireturn, 1)) := by decide +kernel
theorem dX1_isMetBefore_0 : decode cX1_isMetBefore 0 = .ok (.iconst 0, 1) := db2_32.1
theorem dX1_isMetBefore_1 : decode cX1_isMetBefore 1 = .ok (.istore_n 2, 1) := db2_32.2.1
theorem dX1_isMetBefore_2 : decode cX1_isMetBefore 2 = .ok (.iload_n 2, 1) := db2_32.2.2.1
theorem dX1_isMetBefore_3 : decode cX1_isMetBefore 3 = .ok (.iload_n 1, 1) := db2_32.2.2.2.1
theorem dX1_isMetBefore_4 : decode cX1_isMetBefore 4 = .ok (.if_icmp .ge 26, 3) := db2_32.2.2.2.2.1
theorem dX1_isMetBefore_7 : decode cX1_isMetBefore 7 = .ok (.aload_n 0, 1) := db2_32.2.2.2.2.2.1
theorem dX1_isMetBefore_8 : decode cX1_isMetBefore 8 = .ok (.getfield 9, 3) := db2_32.2.2.2.2.2.2.1
theorem dX1_isMetBefore_11 : decode cX1_isMetBefore 11 = .ok (.iload_n 2, 1) := db2_32.2.2.2.2.2.2.2.1
theorem dX1_isMetBefore_12 : decode cX1_isMetBefore 12 = .ok (.iaload, 1) := db2_32.2.2.2.2.2.2.2.2.1
theorem dX1_isMetBefore_13 : decode cX1_isMetBefore 13 = .ok (.aload_n 0, 1) := db2_32.2.2.2.2.2.2.2.2.2.1
theorem dX1_isMetBefore_14 : decode cX1_isMetBefore 14 = .ok (.getfield 9, 3) := db2_32.2.2.2.2.2.2.2.2.2.2.1
theorem dX1_isMetBefore_17 : decode cX1_isMetBefore 17 = .ok (.iload_n 1, 1) := db2_32.2.2.2.2.2.2.2.2.2.2.2.1
theorem dX1_isMetBefore_18 : decode cX1_isMetBefore 18 = .ok (.iaload, 1) := db2_32.2.2.2.2.2.2.2.2.2.2.2.2.1
theorem dX1_isMetBefore_19 : decode cX1_isMetBefore 19 = .ok (.if_icmp .ne 5, 3) := db2_32.2.2.2.2.2.2.2.2.2.2.2.2.2.1
theorem dX1_isMetBefore_22 : decode cX1_isMetBefore 22 = .ok (.iconst 1, 1) := db2_32.2.2.2.2.2.2.2.2.2.2.2.2.2.2.1
theorem dX1_isMetBefore_23 : decode cX1_isMetBefore 23 = .ok (.ireturn, 1) := db2_32.2.2.2.2.2.2.2.2.2.2.2.2.2.2.2
theorem db2_33 : (decode cX1_isMetBefore 24 = .ok (.iinc 2 1, 3)) ∧ (decode cX1_isMetBefore 27 = .ok (.goto (-25), 3)) ∧ (decode cX1_isMetBefore 30 = .ok (.iconst 0, 1)) ∧ (decode cX1_isMetBefore 31 = .ok (.ireturn, 1)) := by decide +kernel
theorem dX1_isMetBefore_24 : decode cX1_isMetBefore 24 = .ok (.iinc 2 1, 3) := db2_33.1
theorem dX1_isMetBefore_27 : decode cX1_isMetBefore 27 = .ok (.goto (-25), 3) := db2_33.2.1
theorem dX1_isMetBefore_30 : decode cX1_isMetBefore 30 = .ok (.iconst 0, 1) := db2_33.2.2.1
theorem dX1_isMetBefore_31 : decode cX1_isMetBefore 31 = .ok (.ireturn, 1) := db2_33.2.2.2
theorem db2_34 : (decode cX1_writeTwoDigits 0 = .ok (.iload_n 1, 1)) ∧ (decode cX1_writeTwoDigits 1 = .ok (.bipush 10, 2)) ∧ (decode cX1_writeTwoDigits 3 = .ok (.if_icmp .ge 13, 3)) ∧ (decode cX1_writeTwoDigits 6 = .ok (.aload_n 0, 1)) ∧ (decode cX1_writeTwoDigits 7 = .ok (.getfield 25, 3)) ∧ (decode cX1_writeTwoDigits 10 = .ok (.bipush 48, 2)) ∧ (decode cX1_writeTwoDigits 12 = .ok (.invokevirtual 132, 3)) ∧ (decode cX1_writeTwoDigits 15 = .ok (.pop, 1)) ∧ (decode cX1_writeTwoDigits 16 = .ok (.aload_n 0, 1)) ∧ (decode cX1_writeTwoDigits 17 = .ok (.getfield 25, 3)) ∧ (decode cX1_writeTwoDigits 20 = .ok (.iload_n 1, 1)) ∧ (decode cX1_writeTwoDigits 21 = .ok (.invokevirtual 128, 3)) ∧ (decode cX1_writeTwoDigits 24 = .ok (.pop, 1)) ∧ (decode cX1_writeTwoDigits 25 = .ok (.return_, 1)) := by decide +kernel
theorem dX1_writeTwoDigits_0 : decode cX1_writeTwoDigits 0 = .ok (.iload_n 1, 1) := db2_34.1
theorem dX1_writeTwoDigits_1 : decode cX1_writeTwoDigits 1 = .ok (.bipush 10, 2) := db2_34.2.1
theorem dX1_writeTwoDigits_3 : decode cX1_writeTwoDigits 3 = .ok (.if_icmp .ge 13, 3) := db2_34.2.2.1
theorem dX1_writeTwoDigits_6 : decode cX1_writeTwoDigits 6 = .ok (.aload_n 0, 1) := db2_34.2.2.2.1
theorem dX1_writeTwoDigits_7 : decode cX1_writeTwoDigits 7 = .ok (.getfield 25, 3) := db2_34.2.2.2.2.1
theorem dX1_writeTwoDigits_10 : decode cX1_writeTwoDigits 10 = .ok (.bipush 48, 2) := db2_34.2.2.2.2.2.1
theorem dX1_writeTwoDigits_12 : decode cX1_writeTwoDigits 12 = .ok (.invokevirtual 132, 3) := db2_34.2.2.2.2.2.2.1
theorem dX1_writeTwoDigits_15 : decode cX1_writeTwoDigits 15 = .ok (.pop, 1) := db2_34.2.2.2.2.2.2.2.1
theorem dX1_writeTwoDigits_16 : decode cX1_writeTwoDigits 16 = .ok (.aload_n 0, 1) := db2_34.2.2.2.2.2.2.2.2.1
theorem dX1_writeTwoDigits_17 : decode cX1_writeTwoDigits 17 = .ok (.getfield 25, 3) := db2_34.2.2.2.2.2.2.2.2.2.1
theorem dX1_writeTwoDigits_20 : decode cX1_writeTwoDigits 20 = .ok (.iload_n 1, 1) := db2_34.2.2.2.2.2.2.2.2.2.2.1
theorem dX1_writeTwoDigits_21 : decode cX1_writeTwoDigits 21 = .ok (.invokevirtual 128, 3) := db2_34.2.2.2.2.2.2.2.2.2.2.2.1
theorem dX1_writeTwoDigits_24 : decode cX1_writeTwoDigits 24 = .ok (.pop, 1) := db2_34.2.2.2.2.2.2.2.2.2.2.2.2.1
theorem dX1_writeTwoDigits_25 : decode cX1_writeTwoDigits 25 = .ok (.return_, 1) := db2_34.2.2.2.2.2.2.2.2.2.2.2.2.2
theorem db2_35 : (decode cX1_needPlace 0 = .ok (.iload_n 0, 1)) ∧ (decode cX1_needPlace 1 = .ok (.ifCond .lt 9, 3)) ∧ (decode cX1_needPlace 4 = .ok (.iload_n 0, 1)) ∧ (decode cX1_needPlace 5 = .ok (.bipush 6, 2)) ∧ (decode cX1_needPlace 7 = .ok (.if_icmp .lt 14, 3)) ∧ (decode cX1_needPlace 10 = .ok (.new 262, 3)) ∧ (decode cX1_needPlace 13 = .ok (.dup, 1)) ∧ (decode cX1_needPlace 14 = .ok (.ldc_w 264, 3)) ∧ (decode cX1_needPlace 17 = .ok (.invokespecial 266, 3)) ∧ (decode cX1_needPlace 20 = .ok (.athrow, 1)) ∧ (decode cX1_needPlace 21 = .ok (.return_, 1)) := by decide +kernel
theorem dX1_needPlace_0 : decode cX1_needPlace 0 = .ok (.iload_n 0, 1) := db2_35.1
theorem dX1_needPlace_1 : decode cX1_needPlace 1 = .ok (.ifCond .lt 9, 3) := db2_35.2.1
theorem dX1_needPlace_4 : decode cX1_needPlace 4 = .ok (.iload_n 0, 1) := db2_35.2.2.1
theorem dX1_needPlace_5 : decode cX1_needPlace 5 = .ok (.bipush 6, 2) := db2_35.2.2.2.1
theorem dX1_needPlace_7 : decode cX1_needPlace 7 = .ok (.if_icmp .lt 14, 3) := db2_35.2.2.2.2.1
theorem dX1_needPlace_10 : decode cX1_needPlace 10 = .ok (.new 262, 3) := db2_35.2.2.2.2.2.1
theorem dX1_needPlace_13 : decode cX1_needPlace 13 = .ok (.dup, 1) := db2_35.2.2.2.2.2.2.1
theorem dX1_needPlace_14 : decode cX1_needPlace 14 = .ok (.ldc_w 264, 3) := db2_35.2.2.2.2.2.2.2.1
theorem dX1_needPlace_17 : decode cX1_needPlace 17 = .ok (.invokespecial 266, 3) := db2_35.2.2.2.2.2.2.2.2.1
theorem dX1_needPlace_20 : decode cX1_needPlace 20 = .ok (.athrow, 1) := db2_35.2.2.2.2.2.2.2.2.2.1
theorem dX1_needPlace_21 : decode cX1_needPlace 21 = .ok (.return_, 1) := db2_35.2.2.2.2.2.2.2.2.2.2
theorem db2_36 : (decode cX1_needSpan 0 = .ok (.iload_n 0, 1)) ∧ (decode cX1_needSpan 1 = .ok (.ifCond .lt 8, 3)) ∧ (decode cX1_needSpan 4 = .ok (.iload_n 0, 1)) ∧ (decode cX1_needSpan 5 = .ok (.iconst 3, 1)) ∧ (decode cX1_needSpan 6 = .ok (.if_icmp .lt 14, 3)) ∧ (decode cX1_needSpan 9 = .ok (.new 262, 3)) ∧ (decode cX1_needSpan 12 = .ok (.dup, 1)) ∧ (decode cX1_needSpan 13 = .ok (.ldc_w 269, 3)) ∧ (decode cX1_needSpan 16 = .ok (.invokespecial 266, 3)) ∧ (decode cX1_needSpan 19 = .ok (.athrow, 1)) ∧ (decode cX1_needSpan 20 = .ok (.return_, 1)) := by decide +kernel
theorem dX1_needSpan_0 : decode cX1_needSpan 0 = .ok (.iload_n 0, 1) := db2_36.1
theorem dX1_needSpan_1 : decode cX1_needSpan 1 = .ok (.ifCond .lt 8, 3) := db2_36.2.1
theorem dX1_needSpan_4 : decode cX1_needSpan 4 = .ok (.iload_n 0, 1) := db2_36.2.2.1
theorem dX1_needSpan_5 : decode cX1_needSpan 5 = .ok (.iconst 3, 1) := db2_36.2.2.2.1
theorem dX1_needSpan_6 : decode cX1_needSpan 6 = .ok (.if_icmp .lt 14, 3) := db2_36.2.2.2.2.1
theorem dX1_needSpan_9 : decode cX1_needSpan 9 = .ok (.new 262, 3) := db2_36.2.2.2.2.2.1
theorem dX1_needSpan_12 : decode cX1_needSpan 12 = .ok (.dup, 1) := db2_36.2.2.2.2.2.2.1
theorem dX1_needSpan_13 : decode cX1_needSpan 13 = .ok (.ldc_w 269, 3) := db2_36.2.2.2.2.2.2.2.1
theorem dX1_needSpan_16 : decode cX1_needSpan 16 = .ok (.invokespecial 266, 3) := db2_36.2.2.2.2.2.2.2.2.1
theorem dX1_needSpan_19 : decode cX1_needSpan 19 = .ok (.athrow, 1) := db2_36.2.2.2.2.2.2.2.2.2.1
theorem dX1_needSpan_20 : decode cX1_needSpan 20 = .ok (.return_, 1) := db2_36.2.2.2.2.2.2.2.2.2.2
theorem db2_37 : (decode cX1_needWithin 0 = .ok (.iload_n 0, 1)) ∧ (decode cX1_needWithin 1 = .ok (.iload_n 1, 1)) ∧ (decode cX1_needWithin 2 = .ok (.if_icmp .lt 8, 3)) ∧ (decode cX1_needWithin 5 = .ok (.iload_n 0, 1)) ∧ (decode cX1_needWithin 6 = .ok (.iload_n 2, 1)) ∧ (decode cX1_needWithin 7 = .ok (.if_icmp .le 14, 3)) ∧ (decode cX1_needWithin 10 = .ok (.new 271, 3)) ∧ (decode cX1_needWithin 13 = .ok (.dup, 1)) ∧ (decode cX1_needWithin 14 = .ok (.ldc_w 273, 3)) ∧ (decode cX1_needWithin 17 = .ok (.invokespecial 275, 3)) ∧ (decode cX1_needWithin 20 = .ok (.athrow, 1)) ∧ (decode cX1_needWithin 21 = .ok (.return_, 1)) := by decide +kernel
theorem dX1_needWithin_0 : decode cX1_needWithin 0 = .ok (.iload_n 0, 1) := db2_37.1
theorem dX1_needWithin_1 : decode cX1_needWithin 1 = .ok (.iload_n 1, 1) := db2_37.2.1
theorem dX1_needWithin_2 : decode cX1_needWithin 2 = .ok (.if_icmp .lt 8, 3) := db2_37.2.2.1
theorem dX1_needWithin_5 : decode cX1_needWithin 5 = .ok (.iload_n 0, 1) := db2_37.2.2.2.1
theorem dX1_needWithin_6 : decode cX1_needWithin 6 = .ok (.iload_n 2, 1) := db2_37.2.2.2.2.1
theorem dX1_needWithin_7 : decode cX1_needWithin 7 = .ok (.if_icmp .le 14, 3) := db2_37.2.2.2.2.2.1
theorem dX1_needWithin_10 : decode cX1_needWithin 10 = .ok (.new 271, 3) := db2_37.2.2.2.2.2.2.1
theorem dX1_needWithin_13 : decode cX1_needWithin 13 = .ok (.dup, 1) := db2_37.2.2.2.2.2.2.2.1
theorem dX1_needWithin_14 : decode cX1_needWithin 14 = .ok (.ldc_w 273, 3) := db2_37.2.2.2.2.2.2.2.2.1
theorem dX1_needWithin_17 : decode cX1_needWithin 17 = .ok (.invokespecial 275, 3) := db2_37.2.2.2.2.2.2.2.2.2.1
theorem dX1_needWithin_20 : decode cX1_needWithin 20 = .ok (.athrow, 1) := db2_37.2.2.2.2.2.2.2.2.2.2.1
theorem dX1_needWithin_21 : decode cX1_needWithin 21 = .ok (.return_, 1) := db2_37.2.2.2.2.2.2.2.2.2.2.2
theorem db2_38 : (decode cX1_needMonth 0 = .ok (.iload_n 0, 1)) ∧ (decode cX1_needMonth 1 = .ok (.ldc_w 276, 3)) ∧ (decode cX1_needMonth 4 = .ok (.ldc_w 277, 3)) ∧ (decode cX1_needMonth 7 = .ok (.invokestatic 43, 3)) ∧ (decode cX1_needMonth 10 = .ok (.return_, 1)) := by decide +kernel
theorem dX1_needMonth_0 : decode cX1_needMonth 0 = .ok (.iload_n 0, 1) := db2_38.1
theorem dX1_needMonth_1 : decode cX1_needMonth 1 = .ok (.ldc_w 276, 3) := db2_38.2.1
theorem dX1_needMonth_4 : decode cX1_needMonth 4 = .ok (.ldc_w 277, 3) := db2_38.2.2.1
theorem dX1_needMonth_7 : decode cX1_needMonth 7 = .ok (.invokestatic 43, 3) := db2_38.2.2.2.1
theorem dX1_needMonth_10 : decode cX1_needMonth 10 = .ok (.return_, 1) := db2_38.2.2.2.2
theorem db2_39 : (decode cX1_needMonths 0 = .ok (.iload_n 0, 1)) ∧ (decode cX1_needMonths 1 = .ok (.ldc_w 278, 3)) ∧ (decode cX1_needMonths 4 = .ok (.ldc 117, 2)) ∧ (decode cX1_needMonths 6 = .ok (.invokestatic 43, 3)) ∧ (decode cX1_needMonths 9 = .ok (.return_, 1)) := by decide +kernel
theorem dX1_needMonths_0 : decode cX1_needMonths 0 = .ok (.iload_n 0, 1) := db2_39.1
theorem dX1_needMonths_1 : decode cX1_needMonths 1 = .ok (.ldc_w 278, 3) := db2_39.2.1
theorem dX1_needMonths_4 : decode cX1_needMonths 4 = .ok (.ldc 117, 2) := db2_39.2.2.1
theorem dX1_needMonths_6 : decode cX1_needMonths 6 = .ok (.invokestatic 43, 3) := db2_39.2.2.2.1
theorem dX1_needMonths_9 : decode cX1_needMonths 9 = .ok (.return_, 1) := db2_39.2.2.2.2
theorem db2_40 : (decode cX1_needDayOfMonth 0 = .ok (.iload_n 1, 1)) ∧ (decode cX1_needDayOfMonth 1 = .ok (.iload_n 0, 1)) ∧ (decode cX1_needDayOfMonth 2 = .ok (.invokestatic 145, 3)) ∧ (decode cX1_needDayOfMonth 5 = .ok (.if_icmp .le 14, 3)) ∧ (decode cX1_needDayOfMonth 8 = .ok (.new 279, 3)) ∧ (decode cX1_needDayOfMonth 11 = .ok (.dup, 1)) ∧ (decode cX1_needDayOfMonth 12 = .ok (.ldc_w 281, 3)) ∧ (decode cX1_needDayOfMonth 15 = .ok (.invokespecial 283, 3)) ∧ (decode cX1_needDayOfMonth 18 = .ok (.athrow, 1)) ∧ (decode cX1_needDayOfMonth 19 = .ok (.return_, 1)) := by decide +kernel
theorem dX1_needDayOfMonth_0 : decode cX1_needDayOfMonth 0 = .ok (.iload_n 1, 1) := db2_40.1
theorem dX1_needDayOfMonth_1 : decode cX1_needDayOfMonth 1 = .ok (.iload_n 0, 1) := db2_40.2.1
theorem dX1_needDayOfMonth_2 : decode cX1_needDayOfMonth 2 = .ok (.invokestatic 145, 3) := db2_40.2.2.1
theorem dX1_needDayOfMonth_5 : decode cX1_needDayOfMonth 5 = .ok (.if_icmp .le 14, 3) := db2_40.2.2.2.1
theorem dX1_needDayOfMonth_8 : decode cX1_needDayOfMonth 8 = .ok (.new 279, 3) := db2_40.2.2.2.2.1
theorem dX1_needDayOfMonth_11 : decode cX1_needDayOfMonth 11 = .ok (.dup, 1) := db2_40.2.2.2.2.2.1
theorem dX1_needDayOfMonth_12 : decode cX1_needDayOfMonth 12 = .ok (.ldc_w 281, 3) := db2_40.2.2.2.2.2.2.1
theorem dX1_needDayOfMonth_15 : decode cX1_needDayOfMonth 15 = .ok (.invokespecial 283, 3) := db2_40.2.2.2.2.2.2.2.1
theorem dX1_needDayOfMonth_18 : decode cX1_needDayOfMonth 18 = .ok (.athrow, 1) := db2_40.2.2.2.2.2.2.2.2.1
theorem dX1_needDayOfMonth_19 : decode cX1_needDayOfMonth 19 = .ok (.return_, 1) := db2_40.2.2.2.2.2.2.2.2.2
theorem db2_41 : (decode cX1_needDate 0 = .ok (.iload_n 0, 1)) ∧ (decode cX1_needDate 1 = .ok (.ldc 60, 2)) ∧ (decode cX1_needDate 3 = .ok (.if_icmp .lt 9, 3)) ∧ (decode cX1_needDate 6 = .ok (.iload_n 0, 1)) ∧ (decode cX1_needDate 7 = .ok (.ldc 61, 2)) ∧ (decode cX1_needDate 9 = .ok (.if_icmp .le 14, 3)) ∧ (decode cX1_needDate 12 = .ok (.new 279, 3)) ∧ (decode cX1_needDate 15 = .ok (.dup, 1)) ∧ (decode cX1_needDate 16 = .ok (.ldc_w 284, 3)) ∧ (decode cX1_needDate 19 = .ok (.invokespecial 283, 3)) ∧ (decode cX1_needDate 22 = .ok (.athrow, 1)) ∧ (decode cX1_needDate 23 = .ok (.return_, 1)) := by decide +kernel
theorem dX1_needDate_0 : decode cX1_needDate 0 = .ok (.iload_n 0, 1) := db2_41.1
theorem dX1_needDate_1 : decode cX1_needDate 1 = .ok (.ldc 60, 2) := db2_41.2.1
theorem dX1_needDate_3 : decode cX1_needDate 3 = .ok (.if_icmp .lt 9, 3) := db2_41.2.2.1
theorem dX1_needDate_6 : decode cX1_needDate 6 = .ok (.iload_n 0, 1) := db2_41.2.2.2.1
theorem dX1_needDate_7 : decode cX1_needDate 7 = .ok (.ldc 61, 2) := db2_41.2.2.2.2.1
theorem dX1_needDate_9 : decode cX1_needDate 9 = .ok (.if_icmp .le 14, 3) := db2_41.2.2.2.2.2.1
theorem dX1_needDate_12 : decode cX1_needDate 12 = .ok (.new 279, 3) := db2_41.2.2.2.2.2.2.1
theorem dX1_needDate_15 : decode cX1_needDate 15 = .ok (.dup, 1) := db2_41.2.2.2.2.2.2.2.1
theorem dX1_needDate_16 : decode cX1_needDate 16 = .ok (.ldc_w 284, 3) := db2_41.2.2.2.2.2.2.2.2.1
theorem dX1_needDate_19 : decode cX1_needDate 19 = .ok (.invokespecial 283, 3) := db2_41.2.2.2.2.2.2.2.2.2.1
theorem dX1_needDate_22 : decode cX1_needDate 22 = .ok (.athrow, 1) := db2_41.2.2.2.2.2.2.2.2.2.2.1
theorem dX1_needDate_23 : decode cX1_needDate 23 = .ok (.return_, 1) := db2_41.2.2.2.2.2.2.2.2.2.2.2
theorem db2_42 : (decode cX1_needNotAhead 0 = .ok (.iload_n 0, 1)) ∧ (decode cX1_needNotAhead 1 = .ok (.iload_n 1, 1)) ∧ (decode cX1_needNotAhead 2 = .ok (.if_icmp .ge 14, 3)) ∧ (decode cX1_needNotAhead 5 = .ok (.new 279, 3)) ∧ (decode cX1_needNotAhead 8 = .ok (.dup, 1)) ∧ (decode cX1_needNotAhead 9 = .ok (.ldc_w 286, 3)) ∧ (decode cX1_needNotAhead 12 = .ok (.invokespecial 283, 3)) ∧ (decode cX1_needNotAhead 15 = .ok (.athrow, 1)) ∧ (decode cX1_needNotAhead 16 = .ok (.return_, 1)) := by decide +kernel
theorem dX1_needNotAhead_0 : decode cX1_needNotAhead 0 = .ok (.iload_n 0, 1) := db2_42.1
theorem dX1_needNotAhead_1 : decode cX1_needNotAhead 1 = .ok (.iload_n 1, 1) := db2_42.2.1
theorem dX1_needNotAhead_2 : decode cX1_needNotAhead 2 = .ok (.if_icmp .ge 14, 3) := db2_42.2.2.1
theorem dX1_needNotAhead_5 : decode cX1_needNotAhead 5 = .ok (.new 279, 3) := db2_42.2.2.2.1
theorem dX1_needNotAhead_8 : decode cX1_needNotAhead 8 = .ok (.dup, 1) := db2_42.2.2.2.2.1
theorem dX1_needNotAhead_9 : decode cX1_needNotAhead 9 = .ok (.ldc_w 286, 3) := db2_42.2.2.2.2.2.1
theorem dX1_needNotAhead_12 : decode cX1_needNotAhead 12 = .ok (.invokespecial 283, 3) := db2_42.2.2.2.2.2.2.1
theorem dX1_needNotAhead_15 : decode cX1_needNotAhead 15 = .ok (.athrow, 1) := db2_42.2.2.2.2.2.2.2.1
theorem dX1_needNotAhead_16 : decode cX1_needNotAhead 16 = .ok (.return_, 1) := db2_42.2.2.2.2.2.2.2.2
theorem db2_43 : (decode cX1_needOfSpan 0 = .ok (.iload_n 0, 1)) ∧ (decode cX1_needOfSpan 1 = .ok (.iload_n 1, 1)) ∧ (decode cX1_needOfSpan 2 = .ok (.ineg, 1)) ∧ (decode cX1_needOfSpan 3 = .ok (.if_icmp .lt 8, 3)) ∧ (decode cX1_needOfSpan 6 = .ok (.iload_n 0, 1)) ∧ (decode cX1_needOfSpan 7 = .ok (.iload_n 1, 1)) ∧ (decode cX1_needOfSpan 8 = .ok (.if_icmp .le 14, 3)) ∧ (decode cX1_needOfSpan 11 = .ok (.new 279, 3)) ∧ (decode cX1_needOfSpan 14 = .ok (.dup, 1)) ∧ (decode cX1_needOfSpan 15 = .ok (.ldc_w 288, 3)) ∧ (decode cX1_needOfSpan 18 = .ok (.invokespecial 283, 3)) ∧ (decode cX1_needOfSpan 21 = .ok (.athrow, 1)) ∧ (decode cX1_needOfSpan 22 = .ok (.return_, 1)) := by decide +kernel
theorem dX1_needOfSpan_0 : decode cX1_needOfSpan 0 = .ok (.iload_n 0, 1) := db2_43.1
theorem dX1_needOfSpan_1 : decode cX1_needOfSpan 1 = .ok (.iload_n 1, 1) := db2_43.2.1
theorem dX1_needOfSpan_2 : decode cX1_needOfSpan 2 = .ok (.ineg, 1) := db2_43.2.2.1
theorem dX1_needOfSpan_3 : decode cX1_needOfSpan 3 = .ok (.if_icmp .lt 8, 3) := db2_43.2.2.2.1
theorem dX1_needOfSpan_6 : decode cX1_needOfSpan 6 = .ok (.iload_n 0, 1) := db2_43.2.2.2.2.1
theorem dX1_needOfSpan_7 : decode cX1_needOfSpan 7 = .ok (.iload_n 1, 1) := db2_43.2.2.2.2.2.1
theorem dX1_needOfSpan_8 : decode cX1_needOfSpan 8 = .ok (.if_icmp .le 14, 3) := db2_43.2.2.2.2.2.2.1
theorem dX1_needOfSpan_11 : decode cX1_needOfSpan 11 = .ok (.new 279, 3) := db2_43.2.2.2.2.2.2.2.1
theorem dX1_needOfSpan_14 : decode cX1_needOfSpan 14 = .ok (.dup, 1) := db2_43.2.2.2.2.2.2.2.2.1
theorem dX1_needOfSpan_15 : decode cX1_needOfSpan 15 = .ok (.ldc_w 288, 3) := db2_43.2.2.2.2.2.2.2.2.2.1
theorem dX1_needOfSpan_18 : decode cX1_needOfSpan 18 = .ok (.invokespecial 283, 3) := db2_43.2.2.2.2.2.2.2.2.2.2.1
theorem dX1_needOfSpan_21 : decode cX1_needOfSpan 21 = .ok (.athrow, 1) := db2_43.2.2.2.2.2.2.2.2.2.2.2.1
theorem dX1_needOfSpan_22 : decode cX1_needOfSpan 22 = .ok (.return_, 1) := db2_43.2.2.2.2.2.2.2.2.2.2.2.2
theorem db2_44 : (decode cX2_init 0 = .ok (.aload_n 0, 1)) ∧ (decode cX2_init 1 = .ok (.invokespecial 1, 3)) ∧ (decode cX2_init 4 = .ok (.return_, 1)) := by decide +kernel
theorem dX2_init_0 : decode cX2_init 0 = .ok (.aload_n 0, 1) := db2_44.1
theorem dX2_init_1 : decode cX2_init 1 = .ok (.invokespecial 1, 3) := db2_44.2.1
theorem dX2_init_4 : decode cX2_init 4 = .ok (.return_, 1) := db2_44.2.2
theorem db2_45 : (decode cX3_init 0 = .ok (.aload_n 0, 1)) ∧ (decode cX3_init 1 = .ok (.invokespecial 1, 3)) ∧ (decode cX3_init 4 = .ok (.aload_n 0, 1)) ∧ (decode cX3_init 5 = .ok (.bipush 6, 2)) ∧ (decode cX3_init 7 = .ok (.anewarray 9, 3)) ∧ (decode cX3_init 10 = .ok (.putfield 11, 3)) ∧ (decode cX3_init 13 = .ok (.aload_n 0, 1)) ∧ (decode cX3_init 14 = .ok (.iconst 3, 1)) ∧ (decode cX3_init 15 = .ok (.iconst 3, 1)) ∧ (decode cX3_init 16 = .ok (.multianewarray 15 2, 4)) ∧ (decode cX3_init 20 = .ok (.putfield 16, 3)) ∧ (decode cX3_init 23 = .ok (.iconst 0, 1)) ∧ (decode cX3_init 24 = .ok (.istore_n 1, 1)) ∧ (decode cX3_init 25 = .ok (.iload_n 1, 1)) ∧ (decode cX3_init 26 = .ok (.bipush 6, 2)) ∧ (decode cX3_init 28 = .ok (.if_icmp .ge 19, 3)) := by decide +kernel
theorem dX3_init_0 : decode cX3_init 0 = .ok (.aload_n 0, 1) := db2_45.1
theorem dX3_init_1 : decode cX3_init 1 = .ok (.invokespecial 1, 3) := db2_45.2.1
theorem dX3_init_4 : decode cX3_init 4 = .ok (.aload_n 0, 1) := db2_45.2.2.1
theorem dX3_init_5 : decode cX3_init 5 = .ok (.bipush 6, 2) := db2_45.2.2.2.1
theorem dX3_init_7 : decode cX3_init 7 = .ok (.anewarray 9, 3) := db2_45.2.2.2.2.1
theorem dX3_init_10 : decode cX3_init 10 = .ok (.putfield 11, 3) := db2_45.2.2.2.2.2.1
theorem dX3_init_13 : decode cX3_init 13 = .ok (.aload_n 0, 1) := db2_45.2.2.2.2.2.2.1
theorem dX3_init_14 : decode cX3_init 14 = .ok (.iconst 3, 1) := db2_45.2.2.2.2.2.2.2.1
theorem dX3_init_15 : decode cX3_init 15 = .ok (.iconst 3, 1) := db2_45.2.2.2.2.2.2.2.2.1
theorem dX3_init_16 : decode cX3_init 16 = .ok (.multianewarray 15 2, 4) := db2_45.2.2.2.2.2.2.2.2.2.1
theorem dX3_init_20 : decode cX3_init 20 = .ok (.putfield 16, 3) := db2_45.2.2.2.2.2.2.2.2.2.2.1
theorem dX3_init_23 : decode cX3_init 23 = .ok (.iconst 0, 1) := db2_45.2.2.2.2.2.2.2.2.2.2.2.1
theorem dX3_init_24 : decode cX3_init 24 = .ok (.istore_n 1, 1) := db2_45.2.2.2.2.2.2.2.2.2.2.2.2.1
theorem dX3_init_25 : decode cX3_init 25 = .ok (.iload_n 1, 1) := db2_45.2.2.2.2.2.2.2.2.2.2.2.2.2.1
theorem dX3_init_26 : decode cX3_init 26 = .ok (.bipush 6, 2) := db2_45.2.2.2.2.2.2.2.2.2.2.2.2.2.2.1
theorem dX3_init_28 : decode cX3_init 28 = .ok (.if_icmp .ge 19, 3) := db2_45.2.2.2.2.2.2.2.2.2.2.2.2.2.2.2
theorem db2_46 : (decode cX3_init 31 = .ok (.aload_n 0, 1)) ∧ (decode cX3_init 32 = .ok (.getfield 11, 3)) ∧ (decode cX3_init 35 = .ok (.iload_n 1, 1)) ∧ (decode cX3_init 36 = .ok (.iconst 0, 1)) ∧ (decode cX3_init 37 = .ok (.invokestatic 19, 3)) ∧ (decode cX3_init 40 = .ok (.aastore, 1)) ∧ (decode cX3_init 41 = .ok (.iinc 1 1, 3)) ∧ (decode cX3_init 44 = .ok (.goto (-19), 3)) ∧ (decode cX3_init 47 = .ok (.return_, 1)) := by decide +kernel
theorem dX3_init_31 : decode cX3_init 31 = .ok (.aload_n 0, 1) := db2_46.1
theorem dX3_init_32 : decode cX3_init 32 = .ok (.getfield 11, 3) := db2_46.2.1
theorem dX3_init_35 : decode cX3_init 35 = .ok (.iload_n 1, 1) := db2_46.2.2.1
theorem dX3_init_36 : decode cX3_init 36 = .ok (.iconst 0, 1) := db2_46.2.2.2.1
theorem dX3_init_37 : decode cX3_init 37 = .ok (.invokestatic 19, 3) := db2_46.2.2.2.2.1
theorem dX3_init_40 : decode cX3_init 40 = .ok (.aastore, 1) := db2_46.2.2.2.2.2.1
theorem dX3_init_41 : decode cX3_init 41 = .ok (.iinc 1 1, 3) := db2_46.2.2.2.2.2.2.1
theorem dX3_init_44 : decode cX3_init 44 = .ok (.goto (-19), 3) := db2_46.2.2.2.2.2.2.2.1
theorem dX3_init_47 : decode cX3_init 47 = .ok (.return_, 1) := db2_46.2.2.2.2.2.2.2.2
theorem db2_47 : (decode cX3_thrown 0 = .ok (.aload_n 0, 1)) ∧ (decode cX3_thrown 1 = .ok (.getfield 23, 3)) ∧ (decode cX3_thrown 4 = .ok (.ireturn, 1)) := by decide +kernel
theorem dX3_thrown_0 : decode cX3_thrown 0 = .ok (.aload_n 0, 1) := db2_47.1
theorem dX3_thrown_1 : decode cX3_thrown 1 = .ok (.getfield 23, 3) := db2_47.2.1
theorem dX3_thrown_4 : decode cX3_thrown 4 = .ok (.ireturn, 1) := db2_47.2.2
theorem db2_48 : (decode cX3_fails 0 = .ok (.aload_n 0, 1)) ∧ (decode cX3_fails 1 = .ok (.iload_n 1, 1)) ∧ (decode cX3_fails 2 = .ok (.ifCond .eq 7, 3)) ∧ (decode cX3_fails 5 = .ok (.iconst 1, 1)) ∧ (decode cX3_fails 6 = .ok (.goto 20, 3)) ∧ (decode cX3_fails 9 = .ok (.iload_n 2, 1)) ∧ (decode cX3_fails 10 = .ok (.ifCond .eq 7, 3)) ∧ (decode cX3_fails 13 = .ok (.iconst 2, 1)) ∧ (decode cX3_fails 14 = .ok (.goto 12, 3)) ∧ (decode cX3_fails 17 = .ok (.iload_n 3, 1)) ∧ (decode cX3_fails 18 = .ok (.ifCond .eq 7, 3)) ∧ (decode cX3_fails 21 = .ok (.iconst 3, 1)) ∧ (decode cX3_fails 22 = .ok (.goto 4, 3)) ∧ (decode cX3_fails 25 = .ok (.iconst 0, 1)) ∧ (decode cX3_fails 26 = .ok (.putfield 23, 3)) ∧ (decode cX3_fails 29 = .ok (.aload_n 0, 1)) := by decide +kernel
theorem dX3_fails_0 : decode cX3_fails 0 = .ok (.aload_n 0, 1) := db2_48.1
theorem dX3_fails_1 : decode cX3_fails 1 = .ok (.iload_n 1, 1) := db2_48.2.1
theorem dX3_fails_2 : decode cX3_fails 2 = .ok (.ifCond .eq 7, 3) := db2_48.2.2.1
theorem dX3_fails_5 : decode cX3_fails 5 = .ok (.iconst 1, 1) := db2_48.2.2.2.1
theorem dX3_fails_6 : decode cX3_fails 6 = .ok (.goto 20, 3) := db2_48.2.2.2.2.1
theorem dX3_fails_9 : decode cX3_fails 9 = .ok (.iload_n 2, 1) := db2_48.2.2.2.2.2.1
theorem dX3_fails_10 : decode cX3_fails 10 = .ok (.ifCond .eq 7, 3) := db2_48.2.2.2.2.2.2.1
theorem dX3_fails_13 : decode cX3_fails 13 = .ok (.iconst 2, 1) := db2_48.2.2.2.2.2.2.2.1
theorem dX3_fails_14 : decode cX3_fails 14 = .ok (.goto 12, 3) := db2_48.2.2.2.2.2.2.2.2.1
theorem dX3_fails_17 : decode cX3_fails 17 = .ok (.iload_n 3, 1) := db2_48.2.2.2.2.2.2.2.2.2.1
theorem dX3_fails_18 : decode cX3_fails 18 = .ok (.ifCond .eq 7, 3) := db2_48.2.2.2.2.2.2.2.2.2.2.1
theorem dX3_fails_21 : decode cX3_fails 21 = .ok (.iconst 3, 1) := db2_48.2.2.2.2.2.2.2.2.2.2.2.1
theorem dX3_fails_22 : decode cX3_fails 22 = .ok (.goto 4, 3) := db2_48.2.2.2.2.2.2.2.2.2.2.2.2.1
theorem dX3_fails_25 : decode cX3_fails 25 = .ok (.iconst 0, 1) := db2_48.2.2.2.2.2.2.2.2.2.2.2.2.2.1
theorem dX3_fails_26 : decode cX3_fails 26 = .ok (.putfield 23, 3) := db2_48.2.2.2.2.2.2.2.2.2.2.2.2.2.2.1
theorem dX3_fails_29 : decode cX3_fails 29 = .ok (.aload_n 0, 1) := db2_48.2.2.2.2.2.2.2.2.2.2.2.2.2.2.2
theorem db2_49 : (decode cX3_fails 30 = .ok (.getfield 23, 3)) ∧ (decode cX3_fails 33 = .ok (.ifCond .le 7, 3)) ∧ (decode cX3_fails 36 = .ok (.iconst 1, 1)) ∧ (decode cX3_fails 37 = .ok (.goto 4, 3)) ∧ (decode cX3_fails 40 = .ok (.iconst 0, 1)) ∧ (decode cX3_fails 41 = .ok (.ireturn, 1)) := by decide +kernel
theorem dX3_fails_30 : decode cX3_fails 30 = .ok (.getfield 23, 3) := db2_49.1
theorem dX3_fails_33 : decode cX3_fails 33 = .ok (.ifCond .le 7, 3) := db2_49.2.1
theorem dX3_fails_36 : decode cX3_fails 36 = .ok (.iconst 1, 1) := db2_49.2.2.1
theorem dX3_fails_37 : decode cX3_fails 37 = .ok (.goto 4, 3) := db2_49.2.2.2.1
theorem dX3_fails_40 : decode cX3_fails 40 = .ok (.iconst 0, 1) := db2_49.2.2.2.2.1
theorem dX3_fails_41 : decode cX3_fails 41 = .ok (.ireturn, 1) := db2_49.2.2.2.2.2
theorem db2_50 : (decode cX3_isOut 0 = .ok (.iload_n 0, 1)) ∧ (decode cX3_isOut 1 = .ok (.iload_n 1, 1)) ∧ (decode cX3_isOut 2 = .ok (.if_icmp .lt 8, 3)) ∧ (decode cX3_isOut 5 = .ok (.iload_n 0, 1)) ∧ (decode cX3_isOut 6 = .ok (.iload_n 2, 1)) ∧ (decode cX3_isOut 7 = .ok (.if_icmp .le 7, 3)) ∧ (decode cX3_isOut 10 = .ok (.iconst 1, 1)) ∧ (decode cX3_isOut 11 = .ok (.goto 4, 3)) ∧ (decode cX3_isOut 14 = .ok (.iconst 0, 1)) ∧ (decode cX3_isOut 15 = .ok (.ireturn, 1)) := by decide +kernel
theorem dX3_isOut_0 : decode cX3_isOut 0 = .ok (.iload_n 0, 1) := db2_50.1
theorem dX3_isOut_1 : decode cX3_isOut 1 = .ok (.iload_n 1, 1) := db2_50.2.1
theorem dX3_isOut_2 : decode cX3_isOut 2 = .ok (.if_icmp .lt 8, 3) := db2_50.2.2.1
theorem dX3_isOut_5 : decode cX3_isOut 5 = .ok (.iload_n 0, 1) := db2_50.2.2.2.1
theorem dX3_isOut_6 : decode cX3_isOut 6 = .ok (.iload_n 2, 1) := db2_50.2.2.2.2.1
theorem dX3_isOut_7 : decode cX3_isOut 7 = .ok (.if_icmp .le 7, 3) := db2_50.2.2.2.2.2.1
theorem dX3_isOut_10 : decode cX3_isOut 10 = .ok (.iconst 1, 1) := db2_50.2.2.2.2.2.2.1
theorem dX3_isOut_11 : decode cX3_isOut 11 = .ok (.goto 4, 3) := db2_50.2.2.2.2.2.2.2.1
theorem dX3_isOut_14 : decode cX3_isOut 14 = .ok (.iconst 0, 1) := db2_50.2.2.2.2.2.2.2.2.1
theorem dX3_isOut_15 : decode cX3_isOut 15 = .ok (.ireturn, 1) := db2_50.2.2.2.2.2.2.2.2.2
theorem db2_51 : (decode cX3_isNo 0 = .ok (.iload_n 0, 1)) ∧ (decode cX3_isNo 1 = .ok (.iconst 0, 1)) ∧ (decode cX3_isNo 2 = .ok (.iconst 5, 1)) ∧ (decode cX3_isNo 3 = .ok (.invokestatic 27, 3)) ∧ (decode cX3_isNo 6 = .ok (.ireturn, 1)) := by decide +kernel
theorem dX3_isNo_0 : decode cX3_isNo 0 = .ok (.iload_n 0, 1) := db2_51.1
theorem dX3_isNo_1 : decode cX3_isNo 1 = .ok (.iconst 0, 1) := db2_51.2.1
theorem dX3_isNo_2 : decode cX3_isNo 2 = .ok (.iconst 5, 1) := db2_51.2.2.1
theorem dX3_isNo_3 : decode cX3_isNo 3 = .ok (.invokestatic 27, 3) := db2_51.2.2.2.1
theorem dX3_isNo_6 : decode cX3_isNo 6 = .ok (.ireturn, 1) := db2_51.2.2.2.2
theorem db2_52 : (decode cX3_isNoSpan 0 = .ok (.iload_n 0, 1)) ∧ (decode cX3_isNoSpan 1 = .ok (.iconst 0, 1)) ∧ (decode cX3_isNoSpan 2 = .ok (.iconst 2, 1)) ∧ (decode cX3_isNoSpan 3 = .ok (.invokestatic 27, 3)) ∧ (decode cX3_isNoSpan 6 = .ok (.ireturn, 1)) := by decide +kernel
theorem dX3_isNoSpan_0 : decode cX3_isNoSpan 0 = .ok (.iload_n 0, 1) := db2_52.1
theorem dX3_isNoSpan_1 : decode cX3_isNoSpan 1 = .ok (.iconst 0, 1) := db2_52.2.1
theorem dX3_isNoSpan_2 : decode cX3_isNoSpan 2 = .ok (.iconst 2, 1) := db2_52.2.2.1
theorem dX3_isNoSpan_3 : decode cX3_isNoSpan 3 = .ok (.invokestatic 27, 3) := db2_52.2.2.2.1
theorem dX3_isNoSpan_6 : decode cX3_isNoSpan 6 = .ok (.ireturn, 1) := db2_52.2.2.2.2
theorem db2_53 : (decode cX3_areNo 0 = .ok (.iload_n 0, 1)) ∧ (decode cX3_areNo 1 = .ok (.invokestatic 31, 3)) ∧ (decode cX3_areNo 4 = .ok (.ifCond .ne 10, 3)) ∧ (decode cX3_areNo 7 = .ok (.iload_n 1, 1)) ∧ (decode cX3_areNo 8 = .ok (.invokestatic 31, 3)) ∧ (decode cX3_areNo 11 = .ok (.ifCond .eq 7, 3)) ∧ (decode cX3_areNo 14 = .ok (.iconst 1, 1)) ∧ (decode cX3_areNo 15 = .ok (.goto 4, 3)) ∧ (decode cX3_areNo 18 = .ok (.iconst 0, 1)) ∧ (decode cX3_areNo 19 = .ok (.ireturn, 1)) := by decide +kernel
theorem dX3_areNo_0 : decode cX3_areNo 0 = .ok (.iload_n 0, 1) := db2_53.1
theorem dX3_areNo_1 : decode cX3_areNo 1 = .ok (.invokestatic 31, 3) := db2_53.2.1
theorem dX3_areNo_4 : decode cX3_areNo 4 = .ok (.ifCond .ne 10, 3) := db2_53.2.2.1
theorem dX3_areNo_7 : decode cX3_areNo 7 = .ok (.iload_n 1, 1) := db2_53.2.2.2.1
theorem dX3_areNo_8 : decode cX3_areNo 8 = .ok (.invokestatic 31, 3) := db2_53.2.2.2.2.1
theorem dX3_areNo_11 : decode cX3_areNo 11 = .ok (.ifCond .eq 7, 3) := db2_53.2.2.2.2.2.1
theorem dX3_areNo_14 : decode cX3_areNo 14 = .ok (.iconst 1, 1) := db2_53.2.2.2.2.2.2.1
theorem dX3_areNo_15 : decode cX3_areNo 15 = .ok (.goto 4, 3) := db2_53.2.2.2.2.2.2.2.1
theorem dX3_areNo_18 : decode cX3_areNo 18 = .ok (.iconst 0, 1) := db2_53.2.2.2.2.2.2.2.2.1
theorem dX3_areNo_19 : decode cX3_areNo 19 = .ok (.ireturn, 1) := db2_53.2.2.2.2.2.2.2.2.2
theorem db2_54 : (decode cX3_one 0 = .ok (.iload_n 0, 1)) ∧ (decode cX3_one 1 = .ok (.ifCond .eq 7, 3)) ∧ (decode cX3_one 4 = .ok (.iconst 1, 1)) ∧ (decode cX3_one 5 = .ok (.goto 4, 3)) ∧ (decode cX3_one 8 = .ok (.iconst 0, 1)) ∧ (decode cX3_one 9 = .ok (.ireturn, 1)) := by decide +kernel
theorem dX3_one_0 : decode cX3_one 0 = .ok (.iload_n 0, 1) := db2_54.1
theorem dX3_one_1 : decode cX3_one 1 = .ok (.ifCond .eq 7, 3) := db2_54.2.1
theorem dX3_one_4 : decode cX3_one 4 = .ok (.iconst 1, 1) := db2_54.2.2.1
theorem dX3_one_5 : decode cX3_one 5 = .ok (.goto 4, 3) := db2_54.2.2.2.1
theorem dX3_one_8 : decode cX3_one 8 = .ok (.iconst 0, 1) := db2_54.2.2.2.2.1
theorem dX3_one_9 : decode cX3_one 9 = .ok (.ireturn, 1) := db2_54.2.2.2.2.2
theorem db2_55 : (decode cX3_down 0 = .ok (.iload_n 0, 1)) ∧ (decode cX3_down 1 = .ok (.ifCond .lt 9, 3)) ∧ (decode cX3_down 4 = .ok (.iload_n 0, 1)) ∧ (decode cX3_down 5 = .ok (.iload_n 1, 1)) ∧ (decode cX3_down 6 = .ok (.idiv, 1)) ∧ (decode cX3_down 7 = .ok (.goto 11, 3)) ∧ (decode cX3_down 10 = .ok (.iload_n 1, 1)) ∧ (decode cX3_down 11 = .ok (.iconst 1, 1)) ∧ (decode cX3_down 12 = .ok (.isub, 1)) ∧ (decode cX3_down 13 = .ok (.iload_n 0, 1)) ∧ (decode cX3_down 14 = .ok (.isub, 1)) ∧ (decode cX3_down 15 = .ok (.iload_n 1, 1)) ∧ (decode cX3_down 16 = .ok (.idiv, 1)) ∧ (decode cX3_down 17 = .ok (.ineg, 1)) ∧ (decode cX3_down 18 = .ok (.ireturn, 1)) := by decide +kernel
theorem dX3_down_0 : decode cX3_down 0 = .ok (.iload_n 0, 1) := db2_55.1
theorem dX3_down_1 : decode cX3_down 1 = .ok (.ifCond .lt 9, 3) := db2_55.2.1
theorem dX3_down_4 : decode cX3_down 4 = .ok (.iload_n 0, 1) := db2_55.2.2.1
theorem dX3_down_5 : decode cX3_down 5 = .ok (.iload_n 1, 1) := db2_55.2.2.2.1
theorem dX3_down_6 : decode cX3_down 6 = .ok (.idiv, 1) := db2_55.2.2.2.2.1
theorem dX3_down_7 : decode cX3_down 7 = .ok (.goto 11, 3) := db2_55.2.2.2.2.2.1
theorem dX3_down_10 : decode cX3_down 10 = .ok (.iload_n 1, 1) := db2_55.2.2.2.2.2.2.1
theorem dX3_down_11 : decode cX3_down 11 = .ok (.iconst 1, 1) := db2_55.2.2.2.2.2.2.2.1
theorem dX3_down_12 : decode cX3_down 12 = .ok (.isub, 1) := db2_55.2.2.2.2.2.2.2.2.1
theorem dX3_down_13 : decode cX3_down 13 = .ok (.iload_n 0, 1) := db2_55.2.2.2.2.2.2.2.2.2.1
theorem dX3_down_14 : decode cX3_down 14 = .ok (.isub, 1) := db2_55.2.2.2.2.2.2.2.2.2.2.1
theorem dX3_down_15 : decode cX3_down 15 = .ok (.iload_n 1, 1) := db2_55.2.2.2.2.2.2.2.2.2.2.2.1
theorem dX3_down_16 : decode cX3_down 16 = .ok (.idiv, 1) := db2_55.2.2.2.2.2.2.2.2.2.2.2.2.1
theorem dX3_down_17 : decode cX3_down 17 = .ok (.ineg, 1) := db2_55.2.2.2.2.2.2.2.2.2.2.2.2.2.1
theorem dX3_down_18 : decode cX3_down 18 = .ok (.ireturn, 1) := db2_55.2.2.2.2.2.2.2.2.2.2.2.2.2.2
theorem db2_56 : (decode cX3_left 0 = .ok (.iload_n 0, 1)) ∧ (decode cX3_left 1 = .ok (.iload_n 1, 1)) ∧ (decode cX3_left 2 = .ok (.iload_n 0, 1)) ∧ (decode cX3_left 3 = .ok (.iload_n 1, 1)) ∧ (decode cX3_left 4 = .ok (.invokestatic 35, 3)) ∧ (decode cX3_left 7 = .ok (.imul, 1)) ∧ (decode cX3_left 8 = .ok (.isub, 1)) ∧ (decode cX3_left 9 = .ok (.ireturn, 1)) := by decide +kernel
theorem dX3_left_0 : decode cX3_left 0 = .ok (.iload_n 0, 1) := db2_56.1
theorem dX3_left_1 : decode cX3_left 1 = .ok (.iload_n 1, 1) := db2_56.2.1
theorem dX3_left_2 : decode cX3_left 2 = .ok (.iload_n 0, 1) := db2_56.2.2.1
theorem dX3_left_3 : decode cX3_left 3 = .ok (.iload_n 1, 1) := db2_56.2.2.2.1
theorem dX3_left_4 : decode cX3_left 4 = .ok (.invokestatic 35, 3) := db2_56.2.2.2.2.1
theorem dX3_left_7 : decode cX3_left 7 = .ok (.imul, 1) := db2_56.2.2.2.2.2.1
theorem dX3_left_8 : decode cX3_left 8 = .ok (.isub, 1) := db2_56.2.2.2.2.2.2.1
theorem dX3_left_9 : decode cX3_left 9 = .ok (.ireturn, 1) := db2_56.2.2.2.2.2.2.2
theorem db2_57 : (decode cX3_isLeap 0 = .ok (.iload_n 0, 1)) ∧ (decode cX3_isLeap 1 = .ok (.iconst 4, 1)) ∧ (decode cX3_isLeap 2 = .ok (.invokestatic 39, 3)) ∧ (decode cX3_isLeap 5 = .ok (.ifCond .ne 26, 3)) ∧ (decode cX3_isLeap 8 = .ok (.iload_n 0, 1)) ∧ (decode cX3_isLeap 9 = .ok (.bipush 100, 2)) ∧ (decode cX3_isLeap 11 = .ok (.invokestatic 39, 3)) ∧ (decode cX3_isLeap 14 = .ok (.ifCond .ne 13, 3)) ∧ (decode cX3_isLeap 17 = .ok (.iload_n 0, 1)) ∧ (decode cX3_isLeap 18 = .ok (.sipush 400, 3)) ∧ (decode cX3_isLeap 21 = .ok (.invokestatic 39, 3)) ∧ (decode cX3_isLeap 24 = .ok (.ifCond .ne 7, 3)) ∧ (decode cX3_isLeap 27 = .ok (.iconst 1, 1)) ∧ (decode cX3_isLeap 28 = .ok (.goto 4, 3)) ∧ (decode cX3_isLeap 31 = .ok (.iconst 0, 1)) ∧ (decode cX3_isLeap 32 = .ok (.ireturn, 1)) := by decide +kernel
theorem dX3_isLeap_0 : decode cX3_isLeap 0 = .ok (.iload_n 0, 1) := db2_57.1
theorem dX3_isLeap_1 : decode cX3_isLeap 1 = .ok (.iconst 4, 1) := db2_57.2.1
theorem dX3_isLeap_2 : decode cX3_isLeap 2 = .ok (.invokestatic 39, 3) := db2_57.2.2.1
theorem dX3_isLeap_5 : decode cX3_isLeap 5 = .ok (.ifCond .ne 26, 3) := db2_57.2.2.2.1
theorem dX3_isLeap_8 : decode cX3_isLeap 8 = .ok (.iload_n 0, 1) := db2_57.2.2.2.2.1
theorem dX3_isLeap_9 : decode cX3_isLeap 9 = .ok (.bipush 100, 2) := db2_57.2.2.2.2.2.1
theorem dX3_isLeap_11 : decode cX3_isLeap 11 = .ok (.invokestatic 39, 3) := db2_57.2.2.2.2.2.2.1
theorem dX3_isLeap_14 : decode cX3_isLeap 14 = .ok (.ifCond .ne 13, 3) := db2_57.2.2.2.2.2.2.2.1
theorem dX3_isLeap_17 : decode cX3_isLeap 17 = .ok (.iload_n 0, 1) := db2_57.2.2.2.2.2.2.2.2.1
theorem dX3_isLeap_18 : decode cX3_isLeap 18 = .ok (.sipush 400, 3) := db2_57.2.2.2.2.2.2.2.2.2.1
theorem dX3_isLeap_21 : decode cX3_isLeap 21 = .ok (.invokestatic 39, 3) := db2_57.2.2.2.2.2.2.2.2.2.2.1
theorem dX3_isLeap_24 : decode cX3_isLeap 24 = .ok (.ifCond .ne 7, 3) := db2_57.2.2.2.2.2.2.2.2.2.2.2.1
theorem dX3_isLeap_27 : decode cX3_isLeap 27 = .ok (.iconst 1, 1) := db2_57.2.2.2.2.2.2.2.2.2.2.2.2.1
theorem dX3_isLeap_28 : decode cX3_isLeap 28 = .ok (.goto 4, 3) := db2_57.2.2.2.2.2.2.2.2.2.2.2.2.2.1
theorem dX3_isLeap_31 : decode cX3_isLeap 31 = .ok (.iconst 0, 1) := db2_57.2.2.2.2.2.2.2.2.2.2.2.2.2.2.1
theorem dX3_isLeap_32 : decode cX3_isLeap 32 = .ok (.ireturn, 1) := db2_57.2.2.2.2.2.2.2.2.2.2.2.2.2.2.2
theorem db2_58 : (decode cX3_length 0 = .ok (.iload_n 0, 1)) ∧ (decode cX3_length 1 = .ok (.bipush 12, 2)) ∧ (decode cX3_length 3 = .ok (.invokestatic 39, 3)) ∧ (decode cX3_length 6 = .ok (.istore_n 1, 1)) ∧ (decode cX3_length 7 = .ok (.iload_n 1, 1)) ∧ (decode cX3_length 8 = .ok (.iconst 1, 1)) ∧ (decode cX3_length 9 = .ok (.if_icmp .ne 20, 3)) ∧ (decode cX3_length 12 = .ok (.iload_n 0, 1)) ∧ (decode cX3_length 13 = .ok (.bipush 12, 2)) ∧ (decode cX3_length 15 = .ok (.invokestatic 35, 3)) ∧ (decode cX3_length 18 = .ok (.invokestatic 42, 3)) ∧ (decode cX3_length 21 = .ok (.ifCond .eq 8, 3)) ∧ (decode cX3_length 24 = .ok (.bipush 29, 2)) ∧ (decode cX3_length 26 = .ok (.goto 8, 3)) ∧ (decode cX3_length 29 = .ok (.getstatic 45, 3)) ∧ (decode cX3_length 32 = .ok (.iload_n 1, 1)) := by decide +kernel
theorem dX3_length_0 : decode cX3_length 0 = .ok (.iload_n 0, 1) := db2_58.1
theorem dX3_length_1 : decode cX3_length 1 = .ok (.bipush 12, 2) := db2_58.2.1
theorem dX3_length_3 : decode cX3_length 3 = .ok (.invokestatic 39, 3) := db2_58.2.2.1
theorem dX3_length_6 : decode cX3_length 6 = .ok (.istore_n 1, 1) := db2_58.2.2.2.1
theorem dX3_length_7 : decode cX3_length 7 = .ok (.iload_n 1, 1) := db2_58.2.2.2.2.1
theorem dX3_length_8 : decode cX3_length 8 = .ok (.iconst 1, 1) := db2_58.2.2.2.2.2.1
theorem dX3_length_9 : decode cX3_length 9 = .ok (.if_icmp .ne 20, 3) := db2_58.2.2.2.2.2.2.1
theorem dX3_length_12 : decode cX3_length 12 = .ok (.iload_n 0, 1) := db2_58.2.2.2.2.2.2.2.1
theorem dX3_length_13 : decode cX3_length 13 = .ok (.bipush 12, 2) := db2_58.2.2.2.2.2.2.2.2.1
theorem dX3_length_15 : decode cX3_length 15 = .ok (.invokestatic 35, 3) := db2_58.2.2.2.2.2.2.2.2.2.1
theorem dX3_length_18 : decode cX3_length 18 = .ok (.invokestatic 42, 3) := db2_58.2.2.2.2.2.2.2.2.2.2.1
theorem dX3_length_21 : decode cX3_length 21 = .ok (.ifCond .eq 8, 3) := db2_58.2.2.2.2.2.2.2.2.2.2.2.1
theorem dX3_length_24 : decode cX3_length 24 = .ok (.bipush 29, 2) := db2_58.2.2.2.2.2.2.2.2.2.2.2.2.1
theorem dX3_length_26 : decode cX3_length 26 = .ok (.goto 8, 3) := db2_58.2.2.2.2.2.2.2.2.2.2.2.2.2.1
theorem dX3_length_29 : decode cX3_length 29 = .ok (.getstatic 45, 3) := db2_58.2.2.2.2.2.2.2.2.2.2.2.2.2.2.1
theorem dX3_length_32 : decode cX3_length 32 = .ok (.iload_n 1, 1) := db2_58.2.2.2.2.2.2.2.2.2.2.2.2.2.2.2
theorem db2_59 : (decode cX3_length 33 = .ok (.iaload, 1)) ∧ (decode cX3_length 34 = .ok (.ireturn, 1)) := by decide +kernel
theorem dX3_length_33 : decode cX3_length 33 = .ok (.iaload, 1) := db2_59.1
theorem dX3_length_34 : decode cX3_length 34 = .ok (.ireturn, 1) := db2_59.2
theorem db2_60 : (decode cX3_daysOf 0 = .ok (.iload_n 0, 1)) ∧ (decode cX3_daysOf 1 = .ok (.invokestatic 42, 3)) ∧ (decode cX3_daysOf 4 = .ok (.ifCond .eq 9, 3)) ∧ (decode cX3_daysOf 7 = .ok (.sipush 366, 3)) ∧ (decode cX3_daysOf 10 = .ok (.goto 6, 3)) ∧ (decode cX3_daysOf 13 = .ok (.sipush 365, 3)) ∧ (decode cX3_daysOf 16 = .ok (.ireturn, 1)) := by decide +kernel
theorem dX3_daysOf_0 : decode cX3_daysOf 0 = .ok (.iload_n 0, 1) := db2_60.1
theorem dX3_daysOf_1 : decode cX3_daysOf 1 = .ok (.invokestatic 42, 3) := db2_60.2.1
theorem dX3_daysOf_4 : decode cX3_daysOf 4 = .ok (.ifCond .eq 9, 3) := db2_60.2.2.1
theorem dX3_daysOf_7 : decode cX3_daysOf 7 = .ok (.sipush 366, 3) := db2_60.2.2.2.1
theorem dX3_daysOf_10 : decode cX3_daysOf 10 = .ok (.goto 6, 3) := db2_60.2.2.2.2.1
theorem dX3_daysOf_13 : decode cX3_daysOf 13 = .ok (.sipush 365, 3) := db2_60.2.2.2.2.2.1
theorem dX3_daysOf_16 : decode cX3_daysOf 16 = .ok (.ireturn, 1) := db2_60.2.2.2.2.2.2
theorem db2_61 : (decode cX3_begin 0 = .ok (.iload_n 0, 1)) ∧ (decode cX3_begin 1 = .ok (.bipush 12, 2)) ∧ (decode cX3_begin 3 = .ok (.invokestatic 35, 3)) ∧ (decode cX3_begin 6 = .ok (.istore_n 1, 1)) ∧ (decode cX3_begin 7 = .ok (.iload_n 1, 1)) ∧ (decode cX3_begin 8 = .ok (.sipush 400, 3)) ∧ (decode cX3_begin 11 = .ok (.invokestatic 35, 3)) ∧ (decode cX3_begin 14 = .ok (.istore_n 2, 1)) ∧ (decode cX3_begin 15 = .ok (.iload_n 2, 1)) ∧ (decode cX3_begin 16 = .ok (.ldc 48, 2)) ∧ (decode cX3_begin 18 = .ok (.imul, 1)) ∧ (decode cX3_begin 19 = .ok (.ldc 49, 2)) ∧ (decode cX3_begin 21 = .ok (.isub, 1)) ∧ (decode cX3_begin 22 = .ok (.istore_n 3, 1)) ∧ (decode cX3_begin 23 = .ok (.sipush 400, 3)) ∧ (decode cX3_begin 26 = .ok (.iload_n 2, 1)) := by decide +kernel
theorem dX3_begin_0 : decode cX3_begin 0 = .ok (.iload_n 0, 1) := db2_61.1
theorem dX3_begin_1 : decode cX3_begin 1 = .ok (.bipush 12, 2) := db2_61.2.1
theorem dX3_begin_3 : decode cX3_begin 3 = .ok (.invokestatic 35, 3) := db2_61.2.2.1
theorem dX3_begin_6 : decode cX3_begin 6 = .ok (.istore_n 1, 1) := db2_61.2.2.2.1
theorem dX3_begin_7 : decode cX3_begin 7 = .ok (.iload_n 1, 1) := db2_61.2.2.2.2.1
theorem dX3_begin_8 : decode cX3_begin 8 = .ok (.sipush 400, 3) := db2_61.2.2.2.2.2.1
theorem dX3_begin_11 : decode cX3_begin 11 = .ok (.invokestatic 35, 3) := db2_61.2.2.2.2.2.2.1
theorem dX3_begin_14 : decode cX3_begin 14 = .ok (.istore_n 2, 1) := db2_61.2.2.2.2.2.2.2.1
theorem dX3_begin_15 : decode cX3_begin 15 = .ok (.iload_n 2, 1) := db2_61.2.2.2.2.2.2.2.2.1
theorem dX3_begin_16 : decode cX3_begin 16 = .ok (.ldc 48, 2) := db2_61.2.2.2.2.2.2.2.2.2.1
theorem dX3_begin_18 : decode cX3_begin 18 = .ok (.imul, 1) := db2_61.2.2.2.2.2.2.2.2.2.2.1
theorem dX3_begin_19 : decode cX3_begin 19 = .ok (.ldc 49, 2) := db2_61.2.2.2.2.2.2.2.2.2.2.2.1
theorem dX3_begin_21 : decode cX3_begin 21 = .ok (.isub, 1) := db2_61.2.2.2.2.2.2.2.2.2.2.2.2.1
theorem dX3_begin_22 : decode cX3_begin 22 = .ok (.istore_n 3, 1) := db2_61.2.2.2.2.2.2.2.2.2.2.2.2.2.1
theorem dX3_begin_23 : decode cX3_begin 23 = .ok (.sipush 400, 3) := db2_61.2.2.2.2.2.2.2.2.2.2.2.2.2.2.1
theorem dX3_begin_26 : decode cX3_begin 26 = .ok (.iload_n 2, 1) := db2_61.2.2.2.2.2.2.2.2.2.2.2.2.2.2.2
theorem db2_62 : (decode cX3_begin 27 = .ok (.imul, 1)) ∧ (decode cX3_begin 28 = .ok (.istore 4, 2)) ∧ (decode cX3_begin 30 = .ok (.iload 4, 2)) ∧ (decode cX3_begin 32 = .ok (.iload_n 1, 1)) ∧ (decode cX3_begin 33 = .ok (.if_icmp .ge 17, 3)) ∧ (decode cX3_begin 36 = .ok (.iload_n 3, 1)) ∧ (decode cX3_begin 37 = .ok (.iload 4, 2)) ∧ (decode cX3_begin 39 = .ok (.invokestatic 50, 3)) ∧ (decode cX3_begin 42 = .ok (.iadd, 1)) ∧ (decode cX3_begin 43 = .ok (.istore_n 3, 1)) ∧ (decode cX3_begin 44 = .ok (.iinc 4 1, 3)) ∧ (decode cX3_begin 47 = .ok (.goto (-17), 3)) ∧ (decode cX3_begin 50 = .ok (.bipush 12, 2)) ∧ (decode cX3_begin 52 = .ok (.iload_n 1, 1)) ∧ (decode cX3_begin 53 = .ok (.imul, 1)) ∧ (decode cX3_begin 54 = .ok (.istore 4, 2)) := by decide +kernel
theorem dX3_begin_27 : decode cX3_begin 27 = .ok (.imul, 1) := db2_62.1
theorem dX3_begin_28 : decode cX3_begin 28 = .ok (.istore 4, 2) := db2_62.2.1
theorem dX3_begin_30 : decode cX3_begin 30 = .ok (.iload 4, 2) := db2_62.2.2.1
theorem dX3_begin_32 : decode cX3_begin 32 = .ok (.iload_n 1, 1) := db2_62.2.2.2.1
theorem dX3_begin_33 : decode cX3_begin 33 = .ok (.if_icmp .ge 17, 3) := db2_62.2.2.2.2.1
theorem dX3_begin_36 : decode cX3_begin 36 = .ok (.iload_n 3, 1) := db2_62.2.2.2.2.2.1
theorem dX3_begin_37 : decode cX3_begin 37 = .ok (.iload 4, 2) := db2_62.2.2.2.2.2.2.1
theorem dX3_begin_39 : decode cX3_begin 39 = .ok (.invokestatic 50, 3) := db2_62.2.2.2.2.2.2.2.1
theorem dX3_begin_42 : decode cX3_begin 42 = .ok (.iadd, 1) := db2_62.2.2.2.2.2.2.2.2.1
theorem dX3_begin_43 : decode cX3_begin 43 = .ok (.istore_n 3, 1) := db2_62.2.2.2.2.2.2.2.2.2.1
theorem dX3_begin_44 : decode cX3_begin 44 = .ok (.iinc 4 1, 3) := db2_62.2.2.2.2.2.2.2.2.2.2.1
theorem dX3_begin_47 : decode cX3_begin 47 = .ok (.goto (-17), 3) := db2_62.2.2.2.2.2.2.2.2.2.2.2.1
theorem dX3_begin_50 : decode cX3_begin 50 = .ok (.bipush 12, 2) := db2_62.2.2.2.2.2.2.2.2.2.2.2.2.1
theorem dX3_begin_52 : decode cX3_begin 52 = .ok (.iload_n 1, 1) := db2_62.2.2.2.2.2.2.2.2.2.2.2.2.2.1
theorem dX3_begin_53 : decode cX3_begin 53 = .ok (.imul, 1) := db2_62.2.2.2.2.2.2.2.2.2.2.2.2.2.2.1
theorem dX3_begin_54 : decode cX3_begin 54 = .ok (.istore 4, 2) := db2_62.2.2.2.2.2.2.2.2.2.2.2.2.2.2.2
theorem db2_63 : (decode cX3_begin 56 = .ok (.iload 4, 2)) ∧ (decode cX3_begin 58 = .ok (.iload_n 0, 1)) ∧ (decode cX3_begin 59 = .ok (.if_icmp .ge 17, 3)) ∧ (decode cX3_begin 62 = .ok (.iload_n 3, 1)) ∧ (decode cX3_begin 63 = .ok (.iload 4, 2)) ∧ (decode cX3_begin 65 = .ok (.invokestatic 54, 3)) ∧ (decode cX3_begin 68 = .ok (.iadd, 1)) ∧ (decode cX3_begin 69 = .ok (.istore_n 3, 1)) ∧ (decode cX3_begin 70 = .ok (.iinc 4 1, 3)) ∧ (decode cX3_begin 73 = .ok (.goto (-17), 3)) ∧ (decode cX3_begin 76 = .ok (.iload_n 3, 1)) ∧ (decode cX3_begin 77 = .ok (.ireturn, 1)) := by decide +kernel
theorem dX3_begin_56 : decode cX3_begin 56 = .ok (.iload 4, 2) := db2_63.1
theorem dX3_begin_58 : decode cX3_begin 58 = .ok (.iload_n 0, 1) := db2_63.2.1
theorem dX3_begin_59 : decode cX3_begin 59 = .ok (.if_icmp .ge 17, 3) := db2_63.2.2.1
theorem dX3_begin_62 : decode cX3_begin 62 = .ok (.iload_n 3, 1) := db2_63.2.2.2.1
theorem dX3_begin_63 : decode cX3_begin 63 = .ok (.iload 4, 2) := db2_63.2.2.2.2.1
theorem dX3_begin_65 : decode cX3_begin 65 = .ok (.invokestatic 54, 3) := db2_63.2.2.2.2.2.1
theorem dX3_begin_68 : decode cX3_begin 68 = .ok (.iadd, 1) := db2_63.2.2.2.2.2.2.1
theorem dX3_begin_69 : decode cX3_begin 69 = .ok (.istore_n 3, 1) := db2_63.2.2.2.2.2.2.2.1
theorem dX3_begin_70 : decode cX3_begin 70 = .ok (.iinc 4 1, 3) := db2_63.2.2.2.2.2.2.2.2.1
theorem dX3_begin_73 : decode cX3_begin 73 = .ok (.goto (-17), 3) := db2_63.2.2.2.2.2.2.2.2.2.1
theorem dX3_begin_76 : decode cX3_begin 76 = .ok (.iload_n 3, 1) := db2_63.2.2.2.2.2.2.2.2.2.2.1
theorem dX3_begin_77 : decode cX3_begin 77 = .ok (.ireturn, 1) := db2_63.2.2.2.2.2.2.2.2.2.2.2
theorem db2_64 : (decode cX3_numberOf 0 = .ok (.aload_n 0, 1)) ∧ (decode cX3_numberOf 1 = .ok (.iconst 0, 1)) ∧ (decode cX3_numberOf 2 = .ok (.iaload, 1)) ∧ (decode cX3_numberOf 3 = .ok (.invokestatic 57, 3)) ∧ (decode cX3_numberOf 6 = .ok (.aload_n 0, 1)) ∧ (decode cX3_numberOf 7 = .ok (.iconst 1, 1)) ∧ (decode cX3_numberOf 8 = .ok (.iaload, 1)) ∧ (decode cX3_numberOf 9 = .ok (.iadd, 1)) ∧ (decode cX3_numberOf 10 = .ok (.iconst 1, 1)) ∧ (decode cX3_numberOf 11 = .ok (.isub, 1)) ∧ (decode cX3_numberOf 12 = .ok (.ireturn, 1)) := by decide +kernel
theorem dX3_numberOf_0 : decode cX3_numberOf 0 = .ok (.aload_n 0, 1) := db2_64.1
theorem dX3_numberOf_1 : decode cX3_numberOf 1 = .ok (.iconst 0, 1) := db2_64.2.1
theorem dX3_numberOf_2 : decode cX3_numberOf 2 = .ok (.iaload, 1) := db2_64.2.2.1
theorem dX3_numberOf_3 : decode cX3_numberOf 3 = .ok (.invokestatic 57, 3) := db2_64.2.2.2.1
theorem dX3_numberOf_6 : decode cX3_numberOf 6 = .ok (.aload_n 0, 1) := db2_64.2.2.2.2.1
theorem dX3_numberOf_7 : decode cX3_numberOf 7 = .ok (.iconst 1, 1) := db2_64.2.2.2.2.2.1
theorem dX3_numberOf_8 : decode cX3_numberOf 8 = .ok (.iaload, 1) := db2_64.2.2.2.2.2.2.1
theorem dX3_numberOf_9 : decode cX3_numberOf 9 = .ok (.iadd, 1) := db2_64.2.2.2.2.2.2.2.1
theorem dX3_numberOf_10 : decode cX3_numberOf 10 = .ok (.iconst 1, 1) := db2_64.2.2.2.2.2.2.2.2.1
theorem dX3_numberOf_11 : decode cX3_numberOf 11 = .ok (.isub, 1) := db2_64.2.2.2.2.2.2.2.2.2.1
theorem dX3_numberOf_12 : decode cX3_numberOf 12 = .ok (.ireturn, 1) := db2_64.2.2.2.2.2.2.2.2.2.2
theorem db2_65 : (decode cX3_dateOf 0 = .ok (.iload_n 0, 1)) ∧ (decode cX3_dateOf 1 = .ok (.ldc 49, 2)) ∧ (decode cX3_dateOf 3 = .ok (.iadd, 1)) ∧ (decode cX3_dateOf 4 = .ok (.ldc 48, 2)) ∧ (decode cX3_dateOf 6 = .ok (.invokestatic 35, 3)) ∧ (decode cX3_dateOf 9 = .ok (.istore_n 1, 1)) ∧ (decode cX3_dateOf 10 = .ok (.iload_n 0, 1)) ∧ (decode cX3_dateOf 11 = .ok (.ldc 49, 2)) ∧ (decode cX3_dateOf 13 = .ok (.iadd, 1)) ∧ (decode cX3_dateOf 14 = .ok (.iload_n 1, 1)) ∧ (decode cX3_dateOf 15 = .ok (.ldc 48, 2)) ∧ (decode cX3_dateOf 17 = .ok (.imul, 1)) ∧ (decode cX3_dateOf 18 = .ok (.isub, 1)) ∧ (decode cX3_dateOf 19 = .ok (.istore_n 2, 1)) ∧ (decode cX3_dateOf 20 = .ok (.sipush 400, 3)) ∧ (decode cX3_dateOf 23 = .ok (.iload_n 1, 1)) := by decide +kernel
theorem dX3_dateOf_0 : decode cX3_dateOf 0 = .ok (.iload_n 0, 1) := db2_65.1
theorem dX3_dateOf_1 : decode cX3_dateOf 1 = .ok (.ldc 49, 2) := db2_65.2.1
theorem dX3_dateOf_3 : decode cX3_dateOf 3 = .ok (.iadd, 1) := db2_65.2.2.1
theorem dX3_dateOf_4 : decode cX3_dateOf 4 = .ok (.ldc 48, 2) := db2_65.2.2.2.1
theorem dX3_dateOf_6 : decode cX3_dateOf 6 = .ok (.invokestatic 35, 3) := db2_65.2.2.2.2.1
theorem dX3_dateOf_9 : decode cX3_dateOf 9 = .ok (.istore_n 1, 1) := db2_65.2.2.2.2.2.1
theorem dX3_dateOf_10 : decode cX3_dateOf 10 = .ok (.iload_n 0, 1) := db2_65.2.2.2.2.2.2.1
theorem dX3_dateOf_11 : decode cX3_dateOf 11 = .ok (.ldc 49, 2) := db2_65.2.2.2.2.2.2.2.1
theorem dX3_dateOf_13 : decode cX3_dateOf 13 = .ok (.iadd, 1) := db2_65.2.2.2.2.2.2.2.2.1
theorem dX3_dateOf_14 : decode cX3_dateOf 14 = .ok (.iload_n 1, 1) := db2_65.2.2.2.2.2.2.2.2.2.1
theorem dX3_dateOf_15 : decode cX3_dateOf 15 = .ok (.ldc 48, 2) := db2_65.2.2.2.2.2.2.2.2.2.2.1
theorem dX3_dateOf_17 : decode cX3_dateOf 17 = .ok (.imul, 1) := db2_65.2.2.2.2.2.2.2.2.2.2.2.1
theorem dX3_dateOf_18 : decode cX3_dateOf 18 = .ok (.isub, 1) := db2_65.2.2.2.2.2.2.2.2.2.2.2.2.1
theorem dX3_dateOf_19 : decode cX3_dateOf 19 = .ok (.istore_n 2, 1) := db2_65.2.2.2.2.2.2.2.2.2.2.2.2.2.1
theorem dX3_dateOf_20 : decode cX3_dateOf 20 = .ok (.sipush 400, 3) := db2_65.2.2.2.2.2.2.2.2.2.2.2.2.2.2.1
theorem dX3_dateOf_23 : decode cX3_dateOf 23 = .ok (.iload_n 1, 1) := db2_65.2.2.2.2.2.2.2.2.2.2.2.2.2.2.2
theorem db2_66 : (decode cX3_dateOf 24 = .ok (.imul, 1)) ∧ (decode cX3_dateOf 25 = .ok (.istore_n 3, 1)) ∧ (decode cX3_dateOf 26 = .ok (.iload_n 2, 1)) ∧ (decode cX3_dateOf 27 = .ok (.iload_n 3, 1)) ∧ (decode cX3_dateOf 28 = .ok (.invokestatic 50, 3)) ∧ (decode cX3_dateOf 31 = .ok (.if_icmp .lt 16, 3)) ∧ (decode cX3_dateOf 34 = .ok (.iload_n 2, 1)) ∧ (decode cX3_dateOf 35 = .ok (.iload_n 3, 1)) ∧ (decode cX3_dateOf 36 = .ok (.invokestatic 50, 3)) ∧ (decode cX3_dateOf 39 = .ok (.isub, 1)) ∧ (decode cX3_dateOf 40 = .ok (.istore_n 2, 1)) ∧ (decode cX3_dateOf 41 = .ok (.iinc 3 1, 3)) ∧ (decode cX3_dateOf 44 = .ok (.goto (-18), 3)) ∧ (decode cX3_dateOf 47 = .ok (.bipush 12, 2)) ∧ (decode cX3_dateOf 49 = .ok (.iload_n 3, 1)) ∧ (decode cX3_dateOf 50 = .ok (.imul, 1)) := by decide +kernel
theorem dX3_dateOf_24 : decode cX3_dateOf 24 = .ok (.imul, 1) := db2_66.1
theorem dX3_dateOf_25 : decode cX3_dateOf 25 = .ok (.istore_n 3, 1) := db2_66.2.1
theorem dX3_dateOf_26 : decode cX3_dateOf 26 = .ok (.iload_n 2, 1) := db2_66.2.2.1
theorem dX3_dateOf_27 : decode cX3_dateOf 27 = .ok (.iload_n 3, 1) := db2_66.2.2.2.1
theorem dX3_dateOf_28 : decode cX3_dateOf 28 = .ok (.invokestatic 50, 3) := db2_66.2.2.2.2.1
theorem dX3_dateOf_31 : decode cX3_dateOf 31 = .ok (.if_icmp .lt 16, 3) := db2_66.2.2.2.2.2.1
theorem dX3_dateOf_34 : decode cX3_dateOf 34 = .ok (.iload_n 2, 1) := db2_66.2.2.2.2.2.2.1
theorem dX3_dateOf_35 : decode cX3_dateOf 35 = .ok (.iload_n 3, 1) := db2_66.2.2.2.2.2.2.2.1
theorem dX3_dateOf_36 : decode cX3_dateOf 36 = .ok (.invokestatic 50, 3) := db2_66.2.2.2.2.2.2.2.2.1
theorem dX3_dateOf_39 : decode cX3_dateOf 39 = .ok (.isub, 1) := db2_66.2.2.2.2.2.2.2.2.2.1
theorem dX3_dateOf_40 : decode cX3_dateOf 40 = .ok (.istore_n 2, 1) := db2_66.2.2.2.2.2.2.2.2.2.2.1
theorem dX3_dateOf_41 : decode cX3_dateOf 41 = .ok (.iinc 3 1, 3) := db2_66.2.2.2.2.2.2.2.2.2.2.2.1
theorem dX3_dateOf_44 : decode cX3_dateOf 44 = .ok (.goto (-18), 3) := db2_66.2.2.2.2.2.2.2.2.2.2.2.2.1
theorem dX3_dateOf_47 : decode cX3_dateOf 47 = .ok (.bipush 12, 2) := db2_66.2.2.2.2.2.2.2.2.2.2.2.2.2.1
theorem dX3_dateOf_49 : decode cX3_dateOf 49 = .ok (.iload_n 3, 1) := db2_66.2.2.2.2.2.2.2.2.2.2.2.2.2.2.1
theorem dX3_dateOf_50 : decode cX3_dateOf 50 = .ok (.imul, 1) := db2_66.2.2.2.2.2.2.2.2.2.2.2.2.2.2.2
theorem db2_67 : (decode cX3_dateOf 51 = .ok (.istore 4, 2)) ∧ (decode cX3_dateOf 53 = .ok (.iload_n 2, 1)) ∧ (decode cX3_dateOf 54 = .ok (.iload 4, 2)) ∧ (decode cX3_dateOf 56 = .ok (.invokestatic 54, 3)) ∧ (decode cX3_dateOf 59 = .ok (.if_icmp .lt 17, 3)) ∧ (decode cX3_dateOf 62 = .ok (.iload_n 2, 1)) ∧ (decode cX3_dateOf 63 = .ok (.iload 4, 2)) ∧ (decode cX3_dateOf 65 = .ok (.invokestatic 54, 3)) ∧ (decode cX3_dateOf 68 = .ok (.isub, 1)) ∧ (decode cX3_dateOf 69 = .ok (.istore_n 2, 1)) ∧ (decode cX3_dateOf 70 = .ok (.iinc 4 1, 3)) ∧ (decode cX3_dateOf 73 = .ok (.goto (-20), 3)) ∧ (decode cX3_dateOf 76 = .ok (.iconst 2, 1)) ∧ (decode cX3_dateOf 77 = .ok (.newarray .int, 2)) ∧ (decode cX3_dateOf 79 = .ok (.dup, 1)) ∧ (decode cX3_dateOf 80 = .ok (.iconst 0, 1)) := by decide +kernel
theorem dX3_dateOf_51 : decode cX3_dateOf 51 = .ok (.istore 4, 2) := db2_67.1
theorem dX3_dateOf_53 : decode cX3_dateOf 53 = .ok (.iload_n 2, 1) := db2_67.2.1
theorem dX3_dateOf_54 : decode cX3_dateOf 54 = .ok (.iload 4, 2) := db2_67.2.2.1
theorem dX3_dateOf_56 : decode cX3_dateOf 56 = .ok (.invokestatic 54, 3) := db2_67.2.2.2.1
theorem dX3_dateOf_59 : decode cX3_dateOf 59 = .ok (.if_icmp .lt 17, 3) := db2_67.2.2.2.2.1
theorem dX3_dateOf_62 : decode cX3_dateOf 62 = .ok (.iload_n 2, 1) := db2_67.2.2.2.2.2.1
theorem dX3_dateOf_63 : decode cX3_dateOf 63 = .ok (.iload 4, 2) := db2_67.2.2.2.2.2.2.1
theorem dX3_dateOf_65 : decode cX3_dateOf 65 = .ok (.invokestatic 54, 3) := db2_67.2.2.2.2.2.2.2.1
theorem dX3_dateOf_68 : decode cX3_dateOf 68 = .ok (.isub, 1) := db2_67.2.2.2.2.2.2.2.2.1
theorem dX3_dateOf_69 : decode cX3_dateOf 69 = .ok (.istore_n 2, 1) := db2_67.2.2.2.2.2.2.2.2.2.1
theorem dX3_dateOf_70 : decode cX3_dateOf 70 = .ok (.iinc 4 1, 3) := db2_67.2.2.2.2.2.2.2.2.2.2.1
theorem dX3_dateOf_73 : decode cX3_dateOf 73 = .ok (.goto (-20), 3) := db2_67.2.2.2.2.2.2.2.2.2.2.2.1
theorem dX3_dateOf_76 : decode cX3_dateOf 76 = .ok (.iconst 2, 1) := db2_67.2.2.2.2.2.2.2.2.2.2.2.2.1
theorem dX3_dateOf_77 : decode cX3_dateOf 77 = .ok (.newarray .int, 2) := db2_67.2.2.2.2.2.2.2.2.2.2.2.2.2.1
theorem dX3_dateOf_79 : decode cX3_dateOf 79 = .ok (.dup, 1) := db2_67.2.2.2.2.2.2.2.2.2.2.2.2.2.2.1
theorem dX3_dateOf_80 : decode cX3_dateOf 80 = .ok (.iconst 0, 1) := db2_67.2.2.2.2.2.2.2.2.2.2.2.2.2.2.2
theorem db2_68 : (decode cX3_dateOf 81 = .ok (.iload 4, 2)) ∧ (decode cX3_dateOf 83 = .ok (.iastore, 1)) ∧ (decode cX3_dateOf 84 = .ok (.dup, 1)) ∧ (decode cX3_dateOf 85 = .ok (.iconst 1, 1)) ∧ (decode cX3_dateOf 86 = .ok (.iload_n 2, 1)) ∧ (decode cX3_dateOf 87 = .ok (.iconst 1, 1)) ∧ (decode cX3_dateOf 88 = .ok (.iadd, 1)) ∧ (decode cX3_dateOf 89 = .ok (.iastore, 1)) ∧ (decode cX3_dateOf 90 = .ok (.areturn, 1)) := by decide +kernel
theorem dX3_dateOf_81 : decode cX3_dateOf 81 = .ok (.iload 4, 2) := db2_68.1
theorem dX3_dateOf_83 : decode cX3_dateOf 83 = .ok (.iastore, 1) := db2_68.2.1
theorem dX3_dateOf_84 : decode cX3_dateOf 84 = .ok (.dup, 1) := db2_68.2.2.1
theorem dX3_dateOf_85 : decode cX3_dateOf 85 = .ok (.iconst 1, 1) := db2_68.2.2.2.1
theorem dX3_dateOf_86 : decode cX3_dateOf 86 = .ok (.iload_n 2, 1) := db2_68.2.2.2.2.1
theorem dX3_dateOf_87 : decode cX3_dateOf 87 = .ok (.iconst 1, 1) := db2_68.2.2.2.2.2.1
theorem dX3_dateOf_88 : decode cX3_dateOf 88 = .ok (.iadd, 1) := db2_68.2.2.2.2.2.2.1
theorem dX3_dateOf_89 : decode cX3_dateOf 89 = .ok (.iastore, 1) := db2_68.2.2.2.2.2.2.2.1
theorem dX3_dateOf_90 : decode cX3_dateOf 90 = .ok (.areturn, 1) := db2_68.2.2.2.2.2.2.2.2
theorem db2_69 : (decode cX3_within 0 = .ok (.iconst 2, 1)) ∧ (decode cX3_within 1 = .ok (.newarray .int, 2)) ∧ (decode cX3_within 3 = .ok (.dup, 1)) ∧ (decode cX3_within 4 = .ok (.iconst 0, 1)) ∧ (decode cX3_within 5 = .ok (.iload_n 0, 1)) ∧ (decode cX3_within 6 = .ok (.iastore, 1)) ∧ (decode cX3_within 7 = .ok (.dup, 1)) ∧ (decode cX3_within 8 = .ok (.iconst 1, 1)) ∧ (decode cX3_within 9 = .ok (.iload_n 1, 1)) ∧ (decode cX3_within 10 = .ok (.iload_n 0, 1)) ∧ (decode cX3_within 11 = .ok (.invokestatic 54, 3)) ∧ (decode cX3_within 14 = .ok (.if_icmp .ge 7, 3)) ∧ (decode cX3_within 17 = .ok (.iload_n 1, 1)) ∧ (decode cX3_within 18 = .ok (.goto 7, 3)) ∧ (decode cX3_within 21 = .ok (.iload_n 0, 1)) ∧ (decode cX3_within 22 = .ok (.invokestatic 54, 3)) := by decide +kernel
theorem dX3_within_0 : decode cX3_within 0 = .ok (.iconst 2, 1) := db2_69.1
theorem dX3_within_1 : decode cX3_within 1 = .ok (.newarray .int, 2) := db2_69.2.1
theorem dX3_within_3 : decode cX3_within 3 = .ok (.dup, 1) := db2_69.2.2.1
theorem dX3_within_4 : decode cX3_within 4 = .ok (.iconst 0, 1) := db2_69.2.2.2.1
theorem dX3_within_5 : decode cX3_within 5 = .ok (.iload_n 0, 1) := db2_69.2.2.2.2.1
theorem dX3_within_6 : decode cX3_within 6 = .ok (.iastore, 1) := db2_69.2.2.2.2.2.1
theorem dX3_within_7 : decode cX3_within 7 = .ok (.dup, 1) := db2_69.2.2.2.2.2.2.1
theorem dX3_within_8 : decode cX3_within 8 = .ok (.iconst 1, 1) := db2_69.2.2.2.2.2.2.2.1
theorem dX3_within_9 : decode cX3_within 9 = .ok (.iload_n 1, 1) := db2_69.2.2.2.2.2.2.2.2.1
theorem dX3_within_10 : decode cX3_within 10 = .ok (.iload_n 0, 1) := db2_69.2.2.2.2.2.2.2.2.2.1
theorem dX3_within_11 : decode cX3_within 11 = .ok (.invokestatic 54, 3) := db2_69.2.2.2.2.2.2.2.2.2.2.1
theorem dX3_within_14 : decode cX3_within 14 = .ok (.if_icmp .ge 7, 3) := db2_69.2.2.2.2.2.2.2.2.2.2.2.1
theorem dX3_within_17 : decode cX3_within 17 = .ok (.iload_n 1, 1) := db2_69.2.2.2.2.2.2.2.2.2.2.2.2.1
theorem dX3_within_18 : decode cX3_within 18 = .ok (.goto 7, 3) := db2_69.2.2.2.2.2.2.2.2.2.2.2.2.2.1
theorem dX3_within_21 : decode cX3_within 21 = .ok (.iload_n 0, 1) := db2_69.2.2.2.2.2.2.2.2.2.2.2.2.2.2.1
theorem dX3_within_22 : decode cX3_within 22 = .ok (.invokestatic 54, 3) := db2_69.2.2.2.2.2.2.2.2.2.2.2.2.2.2.2
theorem db2_70 : (decode cX3_within 25 = .ok (.iastore, 1)) ∧ (decode cX3_within 26 = .ok (.areturn, 1)) := by decide +kernel
theorem dX3_within_25 : decode cX3_within 25 = .ok (.iastore, 1) := db2_70.1
theorem dX3_within_26 : decode cX3_within 26 = .ok (.areturn, 1) := db2_70.2
theorem db2_71 : (decode cX3_shifted 0 = .ok (.aload_n 0, 1)) ∧ (decode cX3_shifted 1 = .ok (.iconst 0, 1)) ∧ (decode cX3_shifted 2 = .ok (.iaload, 1)) ∧ (decode cX3_shifted 3 = .ok (.iload_n 1, 1)) ∧ (decode cX3_shifted 4 = .ok (.iadd, 1)) ∧ (decode cX3_shifted 5 = .ok (.aload_n 0, 1)) ∧ (decode cX3_shifted 6 = .ok (.iconst 1, 1)) ∧ (decode cX3_shifted 7 = .ok (.iaload, 1)) ∧ (decode cX3_shifted 8 = .ok (.invokestatic 60, 3)) ∧ (decode cX3_shifted 11 = .ok (.areturn, 1)) := by decide +kernel
theorem dX3_shifted_0 : decode cX3_shifted 0 = .ok (.aload_n 0, 1) := db2_71.1
theorem dX3_shifted_1 : decode cX3_shifted 1 = .ok (.iconst 0, 1) := db2_71.2.1
theorem dX3_shifted_2 : decode cX3_shifted 2 = .ok (.iaload, 1) := db2_71.2.2.1
theorem dX3_shifted_3 : decode cX3_shifted 3 = .ok (.iload_n 1, 1) := db2_71.2.2.2.1
theorem dX3_shifted_4 : decode cX3_shifted 4 = .ok (.iadd, 1) := db2_71.2.2.2.2.1
theorem dX3_shifted_5 : decode cX3_shifted 5 = .ok (.aload_n 0, 1) := db2_71.2.2.2.2.2.1
theorem dX3_shifted_6 : decode cX3_shifted 6 = .ok (.iconst 1, 1) := db2_71.2.2.2.2.2.2.1
theorem dX3_shifted_7 : decode cX3_shifted 7 = .ok (.iaload, 1) := db2_71.2.2.2.2.2.2.2.1
theorem dX3_shifted_8 : decode cX3_shifted 8 = .ok (.invokestatic 60, 3) := db2_71.2.2.2.2.2.2.2.2.1
theorem dX3_shifted_11 : decode cX3_shifted 11 = .ok (.areturn, 1) := db2_71.2.2.2.2.2.2.2.2.2
theorem db2_72 : (decode cX3_on 0 = .ok (.aload_n 0, 1)) ∧ (decode cX3_on 1 = .ok (.invokestatic 64, 3)) ∧ (decode cX3_on 4 = .ok (.iload_n 1, 1)) ∧ (decode cX3_on 5 = .ok (.iadd, 1)) ∧ (decode cX3_on 6 = .ok (.invokestatic 19, 3)) ∧ (decode cX3_on 9 = .ok (.areturn, 1)) := by decide +kernel
theorem dX3_on_0 : decode cX3_on 0 = .ok (.aload_n 0, 1) := db2_72.1
theorem dX3_on_1 : decode cX3_on 1 = .ok (.invokestatic 64, 3) := db2_72.2.1
theorem dX3_on_4 : decode cX3_on 4 = .ok (.iload_n 1, 1) := db2_72.2.2.1
theorem dX3_on_5 : decode cX3_on 5 = .ok (.iadd, 1) := db2_72.2.2.2.1
theorem dX3_on_6 : decode cX3_on 6 = .ok (.invokestatic 19, 3) := db2_72.2.2.2.2.1
theorem dX3_on_9 : decode cX3_on 9 = .ok (.areturn, 1) := db2_72.2.2.2.2.2
theorem db2_73 : (decode cX3_isDate 0 = .ok (.aload_n 0, 1)) ∧ (decode cX3_isDate 1 = .ok (.invokestatic 64, 3)) ∧ (decode cX3_isDate 4 = .ok (.ldc 68, 2)) ∧ (decode cX3_isDate 6 = .ok (.ldc 69, 2)) ∧ (decode cX3_isDate 8 = .ok (.invokestatic 27, 3)) ∧ (decode cX3_isDate 11 = .ok (.ifCond .ne 7, 3)) ∧ (decode cX3_isDate 14 = .ok (.iconst 1, 1)) ∧ (decode cX3_isDate 15 = .ok (.goto 4, 3)) ∧ (decode cX3_isDate 18 = .ok (.iconst 0, 1)) ∧ (decode cX3_isDate 19 = .ok (.ireturn, 1)) := by decide +kernel
theorem dX3_isDate_0 : decode cX3_isDate 0 = .ok (.aload_n 0, 1) := db2_73.1
theorem dX3_isDate_1 : decode cX3_isDate 1 = .ok (.invokestatic 64, 3) := db2_73.2.1
theorem dX3_isDate_4 : decode cX3_isDate 4 = .ok (.ldc 68, 2) := db2_73.2.2.1
theorem dX3_isDate_6 : decode cX3_isDate 6 = .ok (.ldc 69, 2) := db2_73.2.2.2.1
theorem dX3_isDate_8 : decode cX3_isDate 8 = .ok (.invokestatic 27, 3) := db2_73.2.2.2.2.1
theorem dX3_isDate_11 : decode cX3_isDate 11 = .ok (.ifCond .ne 7, 3) := db2_73.2.2.2.2.2.1
theorem dX3_isDate_14 : decode cX3_isDate 14 = .ok (.iconst 1, 1) := db2_73.2.2.2.2.2.2.1
theorem dX3_isDate_15 : decode cX3_isDate 15 = .ok (.goto 4, 3) := db2_73.2.2.2.2.2.2.2.1
theorem dX3_isDate_18 : decode cX3_isDate 18 = .ok (.iconst 0, 1) := db2_73.2.2.2.2.2.2.2.2.1
theorem dX3_isDate_19 : decode cX3_isDate 19 = .ok (.ireturn, 1) := db2_73.2.2.2.2.2.2.2.2.2
theorem db2_74 : (decode cX3_weekdayOf 0 = .ok (.iconst 1, 1)) ∧ (decode cX3_weekdayOf 1 = .ok (.iload_n 0, 1)) ∧ (decode cX3_weekdayOf 2 = .ok (.iconst 3, 1)) ∧ (decode cX3_weekdayOf 3 = .ok (.iadd, 1)) ∧ (decode cX3_weekdayOf 4 = .ok (.bipush 7, 2)) ∧ (decode cX3_weekdayOf 6 = .ok (.invokestatic 39, 3)) ∧ (decode cX3_weekdayOf 9 = .ok (.iadd, 1)) ∧ (decode cX3_weekdayOf 10 = .ok (.ireturn, 1)) := by decide +kernel
theorem dX3_weekdayOf_0 : decode cX3_weekdayOf 0 = .ok (.iconst 1, 1) := db2_74.1
theorem dX3_weekdayOf_1 : decode cX3_weekdayOf 1 = .ok (.iload_n 0, 1) := db2_74.2.1
theorem dX3_weekdayOf_2 : decode cX3_weekdayOf 2 = .ok (.iconst 3, 1) := db2_74.2.2.1
theorem dX3_weekdayOf_3 : decode cX3_weekdayOf 3 = .ok (.iadd, 1) := db2_74.2.2.2.1
theorem dX3_weekdayOf_4 : decode cX3_weekdayOf 4 = .ok (.bipush 7, 2) := db2_74.2.2.2.2.1
theorem dX3_weekdayOf_6 : decode cX3_weekdayOf 6 = .ok (.invokestatic 39, 3) := db2_74.2.2.2.2.2.1
theorem dX3_weekdayOf_9 : decode cX3_weekdayOf 9 = .ok (.iadd, 1) := db2_74.2.2.2.2.2.2.1
theorem dX3_weekdayOf_10 : decode cX3_weekdayOf 10 = .ok (.ireturn, 1) := db2_74.2.2.2.2.2.2.2
theorem db2_75 : (decode cX3_become 0 = .ok (.aload_n 2, 1)) ∧ (decode cX3_become 1 = .ok (.invokestatic 70, 3)) ∧ (decode cX3_become 4 = .ok (.ifCond .ne 10, 3)) ∧ (decode cX3_become 7 = .ok (.aload_n 0, 1)) ∧ (decode cX3_become 8 = .ok (.iload_n 3, 1)) ∧ (decode cX3_become 9 = .ok (.putfield 23, 3)) ∧ (decode cX3_become 12 = .ok (.iconst 0, 1)) ∧ (decode cX3_become 13 = .ok (.ireturn, 1)) ∧ (decode cX3_become 14 = .ok (.aload_n 0, 1)) ∧ (decode cX3_become 15 = .ok (.getfield 11, 3)) ∧ (decode cX3_become 18 = .ok (.iload_n 1, 1)) ∧ (decode cX3_become 19 = .ok (.aload_n 2, 1)) ∧ (decode cX3_become 20 = .ok (.aastore, 1)) ∧ (decode cX3_become 21 = .ok (.aload_n 0, 1)) ∧ (decode cX3_become 22 = .ok (.dup, 1)) ∧ (decode cX3_become 23 = .ok (.getfield 74, 3)) := by decide +kernel
theorem dX3_become_0 : decode cX3_become 0 = .ok (.aload_n 2, 1) := db2_75.1
theorem dX3_become_1 : decode cX3_become 1 = .ok (.invokestatic 70, 3) := db2_75.2.1
theorem dX3_become_4 : decode cX3_become 4 = .ok (.ifCond .ne 10, 3) := db2_75.2.2.1
theorem dX3_become_7 : decode cX3_become 7 = .ok (.aload_n 0, 1) := db2_75.2.2.2.1
theorem dX3_become_8 : decode cX3_become 8 = .ok (.iload_n 3, 1) := db2_75.2.2.2.2.1
theorem dX3_become_9 : decode cX3_become 9 = .ok (.putfield 23, 3) := db2_75.2.2.2.2.2.1
theorem dX3_become_12 : decode cX3_become 12 = .ok (.iconst 0, 1) := db2_75.2.2.2.2.2.2.1
theorem dX3_become_13 : decode cX3_become 13 = .ok (.ireturn, 1) := db2_75.2.2.2.2.2.2.2.1
theorem dX3_become_14 : decode cX3_become 14 = .ok (.aload_n 0, 1) := db2_75.2.2.2.2.2.2.2.2.1
theorem dX3_become_15 : decode cX3_become 15 = .ok (.getfield 11, 3) := db2_75.2.2.2.2.2.2.2.2.2.1
theorem dX3_become_18 : decode cX3_become 18 = .ok (.iload_n 1, 1) := db2_75.2.2.2.2.2.2.2.2.2.2.1
theorem dX3_become_19 : decode cX3_become 19 = .ok (.aload_n 2, 1) := db2_75.2.2.2.2.2.2.2.2.2.2.2.1
theorem dX3_become_20 : decode cX3_become 20 = .ok (.aastore, 1) := db2_75.2.2.2.2.2.2.2.2.2.2.2.2.1
theorem dX3_become_21 : decode cX3_become 21 = .ok (.aload_n 0, 1) := db2_75.2.2.2.2.2.2.2.2.2.2.2.2.2.1
theorem dX3_become_22 : decode cX3_become 22 = .ok (.dup, 1) := db2_75.2.2.2.2.2.2.2.2.2.2.2.2.2.2.1
theorem dX3_become_23 : decode cX3_become 23 = .ok (.getfield 74, 3) := db2_75.2.2.2.2.2.2.2.2.2.2.2.2.2.2.2
theorem db2_76 : (decode cX3_become 26 = .ok (.iconst 1, 1)) ∧ (decode cX3_become 27 = .ok (.iadd, 1)) ∧ (decode cX3_become 28 = .ok (.putfield 74, 3)) ∧ (decode cX3_become 31 = .ok (.iconst 1, 1)) ∧ (decode cX3_become 32 = .ok (.ireturn, 1)) := by decide +kernel
theorem dX3_become_26 : decode cX3_become 26 = .ok (.iconst 1, 1) := db2_76.1
theorem dX3_become_27 : decode cX3_become 27 = .ok (.iadd, 1) := db2_76.2.1
theorem dX3_become_28 : decode cX3_become 28 = .ok (.putfield 74, 3) := db2_76.2.2.1
theorem dX3_become_31 : decode cX3_become 31 = .ok (.iconst 1, 1) := db2_76.2.2.2.1
theorem dX3_become_32 : decode cX3_become 32 = .ok (.ireturn, 1) := db2_76.2.2.2.2
theorem db2_77 : (decode cX3_became 0 = .ok (.aload_n 0, 1)) ∧ (decode cX3_became 1 = .ok (.getfield 11, 3)) ∧ (decode cX3_became 4 = .ok (.iload_n 1, 1)) ∧ (decode cX3_became 5 = .ok (.aaload, 1)) ∧ (decode cX3_became 6 = .ok (.invokestatic 64, 3)) ∧ (decode cX3_became 9 = .ok (.ireturn, 1)) := by decide +kernel
theorem dX3_became_0 : decode cX3_became 0 = .ok (.aload_n 0, 1) := db2_77.1
theorem dX3_became_1 : decode cX3_became 1 = .ok (.getfield 11, 3) := db2_77.2.1
theorem dX3_became_4 : decode cX3_became 4 = .ok (.iload_n 1, 1) := db2_77.2.2.1
theorem dX3_became_5 : decode cX3_became 5 = .ok (.aaload, 1) := db2_77.2.2.2.1
theorem dX3_became_6 : decode cX3_became 6 = .ok (.invokestatic 64, 3) := db2_77.2.2.2.2.1
theorem dX3_became_9 : decode cX3_became 9 = .ok (.ireturn, 1) := db2_77.2.2.2.2.2
theorem db2_78 : (decode cX3_of 0 = .ok (.aload_n 0, 1)) ∧ (decode cX3_of 1 = .ok (.iload_n 1, 1)) ∧ (decode cX3_of 2 = .ok (.invokestatic 31, 3)) ∧ (decode cX3_of 5 = .ok (.iload_n 2, 1)) ∧ (decode cX3_of 6 = .ok (.sipush (-9999), 3)) ∧ (decode cX3_of 9 = .ok (.sipush 9999, 3)) ∧ (decode cX3_of 12 = .ok (.invokestatic 27, 3)) ∧ (decode cX3_of 15 = .ok (.ifCond .ne 24, 3)) ∧ (decode cX3_of 18 = .ok (.iload_n 3, 1)) ∧ (decode cX3_of 19 = .ok (.iconst 1, 1)) ∧ (decode cX3_of 20 = .ok (.bipush 12, 2)) ∧ (decode cX3_of 22 = .ok (.invokestatic 27, 3)) ∧ (decode cX3_of 25 = .ok (.ifCond .ne 14, 3)) ∧ (decode cX3_of 28 = .ok (.iload 4, 2)) ∧ (decode cX3_of 30 = .ok (.iconst 1, 1)) ∧ (decode cX3_of 31 = .ok (.bipush 31, 2)) := by decide +kernel
theorem dX3_of_0 : decode cX3_of 0 = .ok (.aload_n 0, 1) := db2_78.1
theorem dX3_of_1 : decode cX3_of 1 = .ok (.iload_n 1, 1) := db2_78.2.1
theorem dX3_of_2 : decode cX3_of 2 = .ok (.invokestatic 31, 3) := db2_78.2.2.1
theorem dX3_of_5 : decode cX3_of 5 = .ok (.iload_n 2, 1) := db2_78.2.2.2.1
theorem dX3_of_6 : decode cX3_of 6 = .ok (.sipush (-9999), 3) := db2_78.2.2.2.2.1
theorem dX3_of_9 : decode cX3_of 9 = .ok (.sipush 9999, 3) := db2_78.2.2.2.2.2.1
theorem dX3_of_12 : decode cX3_of 12 = .ok (.invokestatic 27, 3) := db2_78.2.2.2.2.2.2.1
theorem dX3_of_15 : decode cX3_of 15 = .ok (.ifCond .ne 24, 3) := db2_78.2.2.2.2.2.2.2.1
theorem dX3_of_18 : decode cX3_of 18 = .ok (.iload_n 3, 1) := db2_78.2.2.2.2.2.2.2.2.1
theorem dX3_of_19 : decode cX3_of 19 = .ok (.iconst 1, 1) := db2_78.2.2.2.2.2.2.2.2.2.1
theorem dX3_of_20 : decode cX3_of 20 = .ok (.bipush 12, 2) := db2_78.2.2.2.2.2.2.2.2.2.2.1
theorem dX3_of_22 : decode cX3_of 22 = .ok (.invokestatic 27, 3) := db2_78.2.2.2.2.2.2.2.2.2.2.2.1
theorem dX3_of_25 : decode cX3_of 25 = .ok (.ifCond .ne 14, 3) := db2_78.2.2.2.2.2.2.2.2.2.2.2.2.1
theorem dX3_of_28 : decode cX3_of 28 = .ok (.iload 4, 2) := db2_78.2.2.2.2.2.2.2.2.2.2.2.2.2.1
theorem dX3_of_30 : decode cX3_of 30 = .ok (.iconst 1, 1) := db2_78.2.2.2.2.2.2.2.2.2.2.2.2.2.2.1
theorem dX3_of_31 : decode cX3_of 31 = .ok (.bipush 31, 2) := db2_78.2.2.2.2.2.2.2.2.2.2.2.2.2.2.2
theorem db2_79 : (decode cX3_of 33 = .ok (.invokestatic 27, 3)) ∧ (decode cX3_of 36 = .ok (.ifCond .eq 7, 3)) ∧ (decode cX3_of 39 = .ok (.iconst 1, 1)) ∧ (decode cX3_of 40 = .ok (.goto 4, 3)) ∧ (decode cX3_of 43 = .ok (.iconst 0, 1)) ∧ (decode cX3_of 44 = .ok (.iconst 0, 1)) ∧ (decode cX3_of 45 = .ok (.invokevirtual 77, 3)) ∧ (decode cX3_of 48 = .ok (.ifCond .eq 5, 3)) ∧ (decode cX3_of 51 = .ok (.iconst 0, 1)) ∧ (decode cX3_of 52 = .ok (.ireturn, 1)) ∧ (decode cX3_of 53 = .ok (.bipush 12, 2)) ∧ (decode cX3_of 55 = .ok (.iload_n 2, 1)) ∧ (decode cX3_of 56 = .ok (.imul, 1)) ∧ (decode cX3_of 57 = .ok (.iload_n 3, 1)) ∧ (decode cX3_of 58 = .ok (.iadd, 1)) ∧ (decode cX3_of 59 = .ok (.iconst 1, 1)) := by decide +kernel
theorem dX3_of_33 : decode cX3_of 33 = .ok (.invokestatic 27, 3) := db2_79.1
theorem dX3_of_36 : decode cX3_of 36 = .ok (.ifCond .eq 7, 3) := db2_79.2.1
theorem dX3_of_39 : decode cX3_of 39 = .ok (.iconst 1, 1) := db2_79.2.2.1
theorem dX3_of_40 : decode cX3_of 40 = .ok (.goto 4, 3) := db2_79.2.2.2.1
theorem dX3_of_43 : decode cX3_of 43 = .ok (.iconst 0, 1) := db2_79.2.2.2.2.1
theorem dX3_of_44 : decode cX3_of 44 = .ok (.iconst 0, 1) := db2_79.2.2.2.2.2.1
theorem dX3_of_45 : decode cX3_of 45 = .ok (.invokevirtual 77, 3) := db2_79.2.2.2.2.2.2.1
theorem dX3_of_48 : decode cX3_of 48 = .ok (.ifCond .eq 5, 3) := db2_79.2.2.2.2.2.2.2.1
theorem dX3_of_51 : decode cX3_of 51 = .ok (.iconst 0, 1) := db2_79.2.2.2.2.2.2.2.2.1
theorem dX3_of_52 : decode cX3_of 52 = .ok (.ireturn, 1) := db2_79.2.2.2.2.2.2.2.2.2.1
theorem dX3_of_53 : decode cX3_of 53 = .ok (.bipush 12, 2) := db2_79.2.2.2.2.2.2.2.2.2.2.1
theorem dX3_of_55 : decode cX3_of 55 = .ok (.iload_n 2, 1) := db2_79.2.2.2.2.2.2.2.2.2.2.2.1
theorem dX3_of_56 : decode cX3_of 56 = .ok (.imul, 1) := db2_79.2.2.2.2.2.2.2.2.2.2.2.2.1
theorem dX3_of_57 : decode cX3_of 57 = .ok (.iload_n 3, 1) := db2_79.2.2.2.2.2.2.2.2.2.2.2.2.2.1
theorem dX3_of_58 : decode cX3_of 58 = .ok (.iadd, 1) := db2_79.2.2.2.2.2.2.2.2.2.2.2.2.2.2.1
theorem dX3_of_59 : decode cX3_of 59 = .ok (.iconst 1, 1) := db2_79.2.2.2.2.2.2.2.2.2.2.2.2.2.2.2
theorem db2_80 : (decode cX3_of 60 = .ok (.isub, 1)) ∧ (decode cX3_of 61 = .ok (.istore 5, 2)) ∧ (decode cX3_of 63 = .ok (.aload_n 0, 1)) ∧ (decode cX3_of 64 = .ok (.iconst 0, 1)) ∧ (decode cX3_of 65 = .ok (.iconst 0, 1)) ∧ (decode cX3_of 66 = .ok (.iload 4, 2)) ∧ (decode cX3_of 68 = .ok (.iload 5, 2)) ∧ (decode cX3_of 70 = .ok (.invokestatic 54, 3)) ∧ (decode cX3_of 73 = .ok (.if_icmp .le 7, 3)) ∧ (decode cX3_of 76 = .ok (.iconst 1, 1)) ∧ (decode cX3_of 77 = .ok (.goto 4, 3)) ∧ (decode cX3_of 80 = .ok (.iconst 0, 1)) ∧ (decode cX3_of 81 = .ok (.invokevirtual 77, 3)) ∧ (decode cX3_of 84 = .ok (.ifCond .eq 5, 3)) ∧ (decode cX3_of 87 = .ok (.iconst 0, 1)) ∧ (decode cX3_of 88 = .ok (.ireturn, 1)) := by decide +kernel
theorem dX3_of_60 : decode cX3_of 60 = .ok (.isub, 1) := db2_80.1
theorem dX3_of_61 : decode cX3_of 61 = .ok (.istore 5, 2) := db2_80.2.1
theorem dX3_of_63 : decode cX3_of 63 = .ok (.aload_n 0, 1) := db2_80.2.2.1
theorem dX3_of_64 : decode cX3_of 64 = .ok (.iconst 0, 1) := db2_80.2.2.2.1
theorem dX3_of_65 : decode cX3_of 65 = .ok (.iconst 0, 1) := db2_80.2.2.2.2.1
theorem dX3_of_66 : decode cX3_of 66 = .ok (.iload 4, 2) := db2_80.2.2.2.2.2.1
theorem dX3_of_68 : decode cX3_of 68 = .ok (.iload 5, 2) := db2_80.2.2.2.2.2.2.1
theorem dX3_of_70 : decode cX3_of 70 = .ok (.invokestatic 54, 3) := db2_80.2.2.2.2.2.2.2.1
theorem dX3_of_73 : decode cX3_of 73 = .ok (.if_icmp .le 7, 3) := db2_80.2.2.2.2.2.2.2.2.1
theorem dX3_of_76 : decode cX3_of 76 = .ok (.iconst 1, 1) := db2_80.2.2.2.2.2.2.2.2.2.1
theorem dX3_of_77 : decode cX3_of 77 = .ok (.goto 4, 3) := db2_80.2.2.2.2.2.2.2.2.2.2.1
theorem dX3_of_80 : decode cX3_of 80 = .ok (.iconst 0, 1) := db2_80.2.2.2.2.2.2.2.2.2.2.2.1
theorem dX3_of_81 : decode cX3_of 81 = .ok (.invokevirtual 77, 3) := db2_80.2.2.2.2.2.2.2.2.2.2.2.2.1
theorem dX3_of_84 : decode cX3_of 84 = .ok (.ifCond .eq 5, 3) := db2_80.2.2.2.2.2.2.2.2.2.2.2.2.2.1
theorem dX3_of_87 : decode cX3_of 87 = .ok (.iconst 0, 1) := db2_80.2.2.2.2.2.2.2.2.2.2.2.2.2.2.1
theorem dX3_of_88 : decode cX3_of 88 = .ok (.ireturn, 1) := db2_80.2.2.2.2.2.2.2.2.2.2.2.2.2.2.2
theorem db2_81 : (decode cX3_of 89 = .ok (.aload_n 0, 1)) ∧ (decode cX3_of 90 = .ok (.iload_n 1, 1)) ∧ (decode cX3_of 91 = .ok (.iload 5, 2)) ∧ (decode cX3_of 93 = .ok (.iload 4, 2)) ∧ (decode cX3_of 95 = .ok (.invokestatic 60, 3)) ∧ (decode cX3_of 98 = .ok (.iconst 0, 1)) ∧ (decode cX3_of 99 = .ok (.invokevirtual 81, 3)) ∧ (decode cX3_of 102 = .ok (.pop, 1)) ∧ (decode cX3_of 103 = .ok (.aload_n 0, 1)) ∧ (decode cX3_of 104 = .ok (.iload_n 1, 1)) ∧ (decode cX3_of 105 = .ok (.invokevirtual 85, 3)) ∧ (decode cX3_of 108 = .ok (.ireturn, 1)) := by decide +kernel
theorem dX3_of_89 : decode cX3_of 89 = .ok (.aload_n 0, 1) := db2_81.1
theorem dX3_of_90 : decode cX3_of 90 = .ok (.iload_n 1, 1) := db2_81.2.1
theorem dX3_of_91 : decode cX3_of 91 = .ok (.iload 5, 2) := db2_81.2.2.1
theorem dX3_of_93 : decode cX3_of 93 = .ok (.iload 4, 2) := db2_81.2.2.2.1
theorem dX3_of_95 : decode cX3_of 95 = .ok (.invokestatic 60, 3) := db2_81.2.2.2.2.1
theorem dX3_of_98 : decode cX3_of 98 = .ok (.iconst 0, 1) := db2_81.2.2.2.2.2.1
theorem dX3_of_99 : decode cX3_of 99 = .ok (.invokevirtual 81, 3) := db2_81.2.2.2.2.2.2.1
theorem dX3_of_102 : decode cX3_of 102 = .ok (.pop, 1) := db2_81.2.2.2.2.2.2.2.1
theorem dX3_of_103 : decode cX3_of 103 = .ok (.aload_n 0, 1) := db2_81.2.2.2.2.2.2.2.2.1
theorem dX3_of_104 : decode cX3_of 104 = .ok (.iload_n 1, 1) := db2_81.2.2.2.2.2.2.2.2.2.1
theorem dX3_of_105 : decode cX3_of 105 = .ok (.invokevirtual 85, 3) := db2_81.2.2.2.2.2.2.2.2.2.2.1
theorem dX3_of_108 : decode cX3_of 108 = .ok (.ireturn, 1) := db2_81.2.2.2.2.2.2.2.2.2.2.2
theorem db2_82 : (decode cX3_ofDay 0 = .ok (.aload_n 0, 1)) ∧ (decode cX3_ofDay 1 = .ok (.iload_n 1, 1)) ∧ (decode cX3_ofDay 2 = .ok (.invokestatic 31, 3)) ∧ (decode cX3_ofDay 5 = .ok (.iload_n 2, 1)) ∧ (decode cX3_ofDay 6 = .ok (.ldc 68, 2)) ∧ (decode cX3_ofDay 8 = .ok (.ldc 69, 2)) ∧ (decode cX3_ofDay 10 = .ok (.invokestatic 27, 3)) ∧ (decode cX3_ofDay 13 = .ok (.iconst 0, 1)) ∧ (decode cX3_ofDay 14 = .ok (.invokevirtual 77, 3)) ∧ (decode cX3_ofDay 17 = .ok (.ifCond .eq 5, 3)) ∧ (decode cX3_ofDay 20 = .ok (.iconst 0, 1)) ∧ (decode cX3_ofDay 21 = .ok (.ireturn, 1)) ∧ (decode cX3_ofDay 22 = .ok (.aload_n 0, 1)) ∧ (decode cX3_ofDay 23 = .ok (.iload_n 1, 1)) ∧ (decode cX3_ofDay 24 = .ok (.iload_n 2, 1)) ∧ (decode cX3_ofDay 25 = .ok (.invokestatic 19, 3)) := by decide +kernel
theorem dX3_ofDay_0 : decode cX3_ofDay 0 = .ok (.aload_n 0, 1) := db2_82.1
theorem dX3_ofDay_1 : decode cX3_ofDay 1 = .ok (.iload_n 1, 1) := db2_82.2.1
theorem dX3_ofDay_2 : decode cX3_ofDay 2 = .ok (.invokestatic 31, 3) := db2_82.2.2.1
theorem dX3_ofDay_5 : decode cX3_ofDay 5 = .ok (.iload_n 2, 1) := db2_82.2.2.2.1
theorem dX3_ofDay_6 : decode cX3_ofDay 6 = .ok (.ldc 68, 2) := db2_82.2.2.2.2.1
theorem dX3_ofDay_8 : decode cX3_ofDay 8 = .ok (.ldc 69, 2) := db2_82.2.2.2.2.2.1
theorem dX3_ofDay_10 : decode cX3_ofDay 10 = .ok (.invokestatic 27, 3) := db2_82.2.2.2.2.2.2.1
theorem dX3_ofDay_13 : decode cX3_ofDay 13 = .ok (.iconst 0, 1) := db2_82.2.2.2.2.2.2.2.1
theorem dX3_ofDay_14 : decode cX3_ofDay 14 = .ok (.invokevirtual 77, 3) := db2_82.2.2.2.2.2.2.2.2.1
theorem dX3_ofDay_17 : decode cX3_ofDay 17 = .ok (.ifCond .eq 5, 3) := db2_82.2.2.2.2.2.2.2.2.2.1
theorem dX3_ofDay_20 : decode cX3_ofDay 20 = .ok (.iconst 0, 1) := db2_82.2.2.2.2.2.2.2.2.2.2.1
theorem dX3_ofDay_21 : decode cX3_ofDay 21 = .ok (.ireturn, 1) := db2_82.2.2.2.2.2.2.2.2.2.2.2.1
theorem dX3_ofDay_22 : decode cX3_ofDay 22 = .ok (.aload_n 0, 1) := db2_82.2.2.2.2.2.2.2.2.2.2.2.2.1
theorem dX3_ofDay_23 : decode cX3_ofDay 23 = .ok (.iload_n 1, 1) := db2_82.2.2.2.2.2.2.2.2.2.2.2.2.2.1
theorem dX3_ofDay_24 : decode cX3_ofDay 24 = .ok (.iload_n 2, 1) := db2_82.2.2.2.2.2.2.2.2.2.2.2.2.2.2.1
theorem dX3_ofDay_25 : decode cX3_ofDay 25 = .ok (.invokestatic 19, 3) := db2_82.2.2.2.2.2.2.2.2.2.2.2.2.2.2.2
theorem db2_83 : (decode cX3_ofDay 28 = .ok (.iconst 0, 1)) ∧ (decode cX3_ofDay 29 = .ok (.invokevirtual 81, 3)) ∧ (decode cX3_ofDay 32 = .ok (.pop, 1)) ∧ (decode cX3_ofDay 33 = .ok (.iload_n 2, 1)) ∧ (decode cX3_ofDay 34 = .ok (.invokestatic 88, 3)) ∧ (decode cX3_ofDay 37 = .ok (.ireturn, 1)) := by decide +kernel
theorem dX3_ofDay_28 : decode cX3_ofDay 28 = .ok (.iconst 0, 1) := db2_83.1
theorem dX3_ofDay_29 : decode cX3_ofDay 29 = .ok (.invokevirtual 81, 3) := db2_83.2.1
theorem dX3_ofDay_32 : decode cX3_ofDay 32 = .ok (.pop, 1) := db2_83.2.2.1
theorem dX3_ofDay_33 : decode cX3_ofDay 33 = .ok (.iload_n 2, 1) := db2_83.2.2.2.1
theorem dX3_ofDay_34 : decode cX3_ofDay 34 = .ok (.invokestatic 88, 3) := db2_83.2.2.2.2.1
theorem dX3_ofDay_37 : decode cX3_ofDay 37 = .ok (.ireturn, 1) := db2_83.2.2.2.2.2
theorem db2_84 : (decode cX3_ofMonth 0 = .ok (.aload_n 0, 1)) ∧ (decode cX3_ofMonth 1 = .ok (.iload_n 1, 1)) ∧ (decode cX3_ofMonth 2 = .ok (.invokestatic 31, 3)) ∧ (decode cX3_ofMonth 5 = .ok (.iload_n 2, 1)) ∧ (decode cX3_ofMonth 6 = .ok (.ldc 91, 2)) ∧ (decode cX3_ofMonth 8 = .ok (.ldc 92, 2)) ∧ (decode cX3_ofMonth 10 = .ok (.invokestatic 27, 3)) ∧ (decode cX3_ofMonth 13 = .ok (.ifCond .ne 13, 3)) ∧ (decode cX3_ofMonth 16 = .ok (.iload_n 3, 1)) ∧ (decode cX3_ofMonth 17 = .ok (.iconst 1, 1)) ∧ (decode cX3_ofMonth 18 = .ok (.bipush 31, 2)) ∧ (decode cX3_ofMonth 20 = .ok (.invokestatic 27, 3)) ∧ (decode cX3_ofMonth 23 = .ok (.ifCond .eq 7, 3)) ∧ (decode cX3_ofMonth 26 = .ok (.iconst 1, 1)) ∧ (decode cX3_ofMonth 27 = .ok (.goto 4, 3)) ∧ (decode cX3_ofMonth 30 = .ok (.iconst 0, 1)) := by decide +kernel
theorem dX3_ofMonth_0 : decode cX3_ofMonth 0 = .ok (.aload_n 0, 1) := db2_84.1
theorem dX3_ofMonth_1 : decode cX3_ofMonth 1 = .ok (.iload_n 1, 1) := db2_84.2.1
theorem dX3_ofMonth_2 : decode cX3_ofMonth 2 = .ok (.invokestatic 31, 3) := db2_84.2.2.1
theorem dX3_ofMonth_5 : decode cX3_ofMonth 5 = .ok (.iload_n 2, 1) := db2_84.2.2.2.1
theorem dX3_ofMonth_6 : decode cX3_ofMonth 6 = .ok (.ldc 91, 2) := db2_84.2.2.2.2.1
theorem dX3_ofMonth_8 : decode cX3_ofMonth 8 = .ok (.ldc 92, 2) := db2_84.2.2.2.2.2.1
theorem dX3_ofMonth_10 : decode cX3_ofMonth 10 = .ok (.invokestatic 27, 3) := db2_84.2.2.2.2.2.2.1
theorem dX3_ofMonth_13 : decode cX3_ofMonth 13 = .ok (.ifCond .ne 13, 3) := db2_84.2.2.2.2.2.2.2.1
theorem dX3_ofMonth_16 : decode cX3_ofMonth 16 = .ok (.iload_n 3, 1) := db2_84.2.2.2.2.2.2.2.2.1
theorem dX3_ofMonth_17 : decode cX3_ofMonth 17 = .ok (.iconst 1, 1) := db2_84.2.2.2.2.2.2.2.2.2.1
theorem dX3_ofMonth_18 : decode cX3_ofMonth 18 = .ok (.bipush 31, 2) := db2_84.2.2.2.2.2.2.2.2.2.2.1
theorem dX3_ofMonth_20 : decode cX3_ofMonth 20 = .ok (.invokestatic 27, 3) := db2_84.2.2.2.2.2.2.2.2.2.2.2.1
theorem dX3_ofMonth_23 : decode cX3_ofMonth 23 = .ok (.ifCond .eq 7, 3) := db2_84.2.2.2.2.2.2.2.2.2.2.2.2.1
theorem dX3_ofMonth_26 : decode cX3_ofMonth 26 = .ok (.iconst 1, 1) := db2_84.2.2.2.2.2.2.2.2.2.2.2.2.2.1
theorem dX3_ofMonth_27 : decode cX3_ofMonth 27 = .ok (.goto 4, 3) := db2_84.2.2.2.2.2.2.2.2.2.2.2.2.2.2.1
theorem dX3_ofMonth_30 : decode cX3_ofMonth 30 = .ok (.iconst 0, 1) := db2_84.2.2.2.2.2.2.2.2.2.2.2.2.2.2.2
theorem db2_85 : (decode cX3_ofMonth 31 = .ok (.iconst 0, 1)) ∧ (decode cX3_ofMonth 32 = .ok (.invokevirtual 77, 3)) ∧ (decode cX3_ofMonth 35 = .ok (.ifCond .eq 5, 3)) ∧ (decode cX3_ofMonth 38 = .ok (.iconst 0, 1)) ∧ (decode cX3_ofMonth 39 = .ok (.ireturn, 1)) ∧ (decode cX3_ofMonth 40 = .ok (.aload_n 0, 1)) ∧ (decode cX3_ofMonth 41 = .ok (.iload_n 1, 1)) ∧ (decode cX3_ofMonth 42 = .ok (.iload_n 2, 1)) ∧ (decode cX3_ofMonth 43 = .ok (.iload_n 3, 1)) ∧ (decode cX3_ofMonth 44 = .ok (.invokestatic 60, 3)) ∧ (decode cX3_ofMonth 47 = .ok (.iconst 0, 1)) ∧ (decode cX3_ofMonth 48 = .ok (.invokevirtual 81, 3)) ∧ (decode cX3_ofMonth 51 = .ok (.pop, 1)) ∧ (decode cX3_ofMonth 52 = .ok (.aload_n 0, 1)) ∧ (decode cX3_ofMonth 53 = .ok (.getfield 11, 3)) ∧ (decode cX3_ofMonth 56 = .ok (.iload_n 1, 1)) := by decide +kernel
theorem dX3_ofMonth_31 : decode cX3_ofMonth 31 = .ok (.iconst 0, 1) := db2_85.1
theorem dX3_ofMonth_32 : decode cX3_ofMonth 32 = .ok (.invokevirtual 77, 3) := db2_85.2.1
theorem dX3_ofMonth_35 : decode cX3_ofMonth 35 = .ok (.ifCond .eq 5, 3) := db2_85.2.2.1
theorem dX3_ofMonth_38 : decode cX3_ofMonth 38 = .ok (.iconst 0, 1) := db2_85.2.2.2.1
theorem dX3_ofMonth_39 : decode cX3_ofMonth 39 = .ok (.ireturn, 1) := db2_85.2.2.2.2.1
theorem dX3_ofMonth_40 : decode cX3_ofMonth 40 = .ok (.aload_n 0, 1) := db2_85.2.2.2.2.2.1
theorem dX3_ofMonth_41 : decode cX3_ofMonth 41 = .ok (.iload_n 1, 1) := db2_85.2.2.2.2.2.2.1
theorem dX3_ofMonth_42 : decode cX3_ofMonth 42 = .ok (.iload_n 2, 1) := db2_85.2.2.2.2.2.2.2.1
theorem dX3_ofMonth_43 : decode cX3_ofMonth 43 = .ok (.iload_n 3, 1) := db2_85.2.2.2.2.2.2.2.2.1
theorem dX3_ofMonth_44 : decode cX3_ofMonth 44 = .ok (.invokestatic 60, 3) := db2_85.2.2.2.2.2.2.2.2.2.1
theorem dX3_ofMonth_47 : decode cX3_ofMonth 47 = .ok (.iconst 0, 1) := db2_85.2.2.2.2.2.2.2.2.2.2.1
theorem dX3_ofMonth_48 : decode cX3_ofMonth 48 = .ok (.invokevirtual 81, 3) := db2_85.2.2.2.2.2.2.2.2.2.2.2.1
theorem dX3_ofMonth_51 : decode cX3_ofMonth 51 = .ok (.pop, 1) := db2_85.2.2.2.2.2.2.2.2.2.2.2.2.1
theorem dX3_ofMonth_52 : decode cX3_ofMonth 52 = .ok (.aload_n 0, 1) := db2_85.2.2.2.2.2.2.2.2.2.2.2.2.2.1
theorem dX3_ofMonth_53 : decode cX3_ofMonth 53 = .ok (.getfield 11, 3) := db2_85.2.2.2.2.2.2.2.2.2.2.2.2.2.2.1
theorem dX3_ofMonth_56 : decode cX3_ofMonth 56 = .ok (.iload_n 1, 1) := db2_85.2.2.2.2.2.2.2.2.2.2.2.2.2.2.2
theorem db2_86 : (decode cX3_ofMonth 57 = .ok (.aaload, 1)) ∧ (decode cX3_ofMonth 58 = .ok (.iconst 1, 1)) ∧ (decode cX3_ofMonth 59 = .ok (.iaload, 1)) ∧ (decode cX3_ofMonth 60 = .ok (.ireturn, 1)) := by decide +kernel
theorem dX3_ofMonth_57 : decode cX3_ofMonth 57 = .ok (.aaload, 1) := db2_86.1
theorem dX3_ofMonth_58 : decode cX3_ofMonth 58 = .ok (.iconst 1, 1) := db2_86.2.1
theorem dX3_ofMonth_59 : decode cX3_ofMonth 59 = .ok (.iaload, 1) := db2_86.2.2.1
theorem dX3_ofMonth_60 : decode cX3_ofMonth 60 = .ok (.ireturn, 1) := db2_86.2.2.2
theorem db2_87 : (decode cX3_copy 0 = .ok (.aload_n 0, 1)) ∧ (decode cX3_copy 1 = .ok (.iload_n 1, 1)) ∧ (decode cX3_copy 2 = .ok (.iload_n 2, 1)) ∧ (decode cX3_copy 3 = .ok (.invokestatic 93, 3)) ∧ (decode cX3_copy 6 = .ok (.iconst 0, 1)) ∧ (decode cX3_copy 7 = .ok (.iconst 0, 1)) ∧ (decode cX3_copy 8 = .ok (.invokevirtual 77, 3)) ∧ (decode cX3_copy 11 = .ok (.ifCond .eq 5, 3)) ∧ (decode cX3_copy 14 = .ok (.iconst 0, 1)) ∧ (decode cX3_copy 15 = .ok (.ireturn, 1)) ∧ (decode cX3_copy 16 = .ok (.aload_n 0, 1)) ∧ (decode cX3_copy 17 = .ok (.iload_n 1, 1)) ∧ (decode cX3_copy 18 = .ok (.aload_n 0, 1)) ∧ (decode cX3_copy 19 = .ok (.getfield 11, 3)) ∧ (decode cX3_copy 22 = .ok (.iload_n 2, 1)) ∧ (decode cX3_copy 23 = .ok (.aaload, 1)) := by decide +kernel
theorem dX3_copy_0 : decode cX3_copy 0 = .ok (.aload_n 0, 1) := db2_87.1
theorem dX3_copy_1 : decode cX3_copy 1 = .ok (.iload_n 1, 1) := db2_87.2.1
theorem dX3_copy_2 : decode cX3_copy 2 = .ok (.iload_n 2, 1) := db2_87.2.2.1
theorem dX3_copy_3 : decode cX3_copy 3 = .ok (.invokestatic 93, 3) := db2_87.2.2.2.1
theorem dX3_copy_6 : decode cX3_copy 6 = .ok (.iconst 0, 1) := db2_87.2.2.2.2.1
theorem dX3_copy_7 : decode cX3_copy 7 = .ok (.iconst 0, 1) := db2_87.2.2.2.2.2.1
theorem dX3_copy_8 : decode cX3_copy 8 = .ok (.invokevirtual 77, 3) := db2_87.2.2.2.2.2.2.1
theorem dX3_copy_11 : decode cX3_copy 11 = .ok (.ifCond .eq 5, 3) := db2_87.2.2.2.2.2.2.2.1
theorem dX3_copy_14 : decode cX3_copy 14 = .ok (.iconst 0, 1) := db2_87.2.2.2.2.2.2.2.2.1
theorem dX3_copy_15 : decode cX3_copy 15 = .ok (.ireturn, 1) := db2_87.2.2.2.2.2.2.2.2.2.1
theorem dX3_copy_16 : decode cX3_copy 16 = .ok (.aload_n 0, 1) := db2_87.2.2.2.2.2.2.2.2.2.2.1
theorem dX3_copy_17 : decode cX3_copy 17 = .ok (.iload_n 1, 1) := db2_87.2.2.2.2.2.2.2.2.2.2.2.1
theorem dX3_copy_18 : decode cX3_copy 18 = .ok (.aload_n 0, 1) := db2_87.2.2.2.2.2.2.2.2.2.2.2.2.1
theorem dX3_copy_19 : decode cX3_copy 19 = .ok (.getfield 11, 3) := db2_87.2.2.2.2.2.2.2.2.2.2.2.2.2.1
theorem dX3_copy_22 : decode cX3_copy 22 = .ok (.iload_n 2, 1) := db2_87.2.2.2.2.2.2.2.2.2.2.2.2.2.2.1
theorem dX3_copy_23 : decode cX3_copy 23 = .ok (.aaload, 1) := db2_87.2.2.2.2.2.2.2.2.2.2.2.2.2.2.2
theorem db2_88 : (decode cX3_copy 24 = .ok (.iconst 0, 1)) ∧ (decode cX3_copy 25 = .ok (.iaload, 1)) ∧ (decode cX3_copy 26 = .ok (.aload_n 0, 1)) ∧ (decode cX3_copy 27 = .ok (.getfield 11, 3)) ∧ (decode cX3_copy 30 = .ok (.iload_n 2, 1)) ∧ (decode cX3_copy 31 = .ok (.aaload, 1)) ∧ (decode cX3_copy 32 = .ok (.iconst 1, 1)) ∧ (decode cX3_copy 33 = .ok (.iaload, 1)) ∧ (decode cX3_copy 34 = .ok (.invokestatic 60, 3)) ∧ (decode cX3_copy 37 = .ok (.iconst 0, 1)) ∧ (decode cX3_copy 38 = .ok (.invokevirtual 81, 3)) ∧ (decode cX3_copy 41 = .ok (.pop, 1)) ∧ (decode cX3_copy 42 = .ok (.aload_n 0, 1)) ∧ (decode cX3_copy 43 = .ok (.iload_n 1, 1)) ∧ (decode cX3_copy 44 = .ok (.invokevirtual 85, 3)) ∧ (decode cX3_copy 47 = .ok (.ireturn, 1)) := by decide +kernel
theorem dX3_copy_24 : decode cX3_copy 24 = .ok (.iconst 0, 1) := db2_88.1
theorem dX3_copy_25 : decode cX3_copy 25 = .ok (.iaload, 1) := db2_88.2.1
theorem dX3_copy_26 : decode cX3_copy 26 = .ok (.aload_n 0, 1) := db2_88.2.2.1
theorem dX3_copy_27 : decode cX3_copy 27 = .ok (.getfield 11, 3) := db2_88.2.2.2.1
theorem dX3_copy_30 : decode cX3_copy 30 = .ok (.iload_n 2, 1) := db2_88.2.2.2.2.1
theorem dX3_copy_31 : decode cX3_copy 31 = .ok (.aaload, 1) := db2_88.2.2.2.2.2.1
theorem dX3_copy_32 : decode cX3_copy 32 = .ok (.iconst 1, 1) := db2_88.2.2.2.2.2.2.1
theorem dX3_copy_33 : decode cX3_copy 33 = .ok (.iaload, 1) := db2_88.2.2.2.2.2.2.2.1
theorem dX3_copy_34 : decode cX3_copy 34 = .ok (.invokestatic 60, 3) := db2_88.2.2.2.2.2.2.2.2.1
theorem dX3_copy_37 : decode cX3_copy 37 = .ok (.iconst 0, 1) := db2_88.2.2.2.2.2.2.2.2.2.1
theorem dX3_copy_38 : decode cX3_copy 38 = .ok (.invokevirtual 81, 3) := db2_88.2.2.2.2.2.2.2.2.2.2.1
theorem dX3_copy_41 : decode cX3_copy 41 = .ok (.pop, 1) := db2_88.2.2.2.2.2.2.2.2.2.2.2.1
theorem dX3_copy_42 : decode cX3_copy 42 = .ok (.aload_n 0, 1) := db2_88.2.2.2.2.2.2.2.2.2.2.2.2.1
theorem dX3_copy_43 : decode cX3_copy 43 = .ok (.iload_n 1, 1) := db2_88.2.2.2.2.2.2.2.2.2.2.2.2.2.1
theorem dX3_copy_44 : decode cX3_copy 44 = .ok (.invokevirtual 85, 3) := db2_88.2.2.2.2.2.2.2.2.2.2.2.2.2.2.1
theorem dX3_copy_47 : decode cX3_copy 47 = .ok (.ireturn, 1) := db2_88.2.2.2.2.2.2.2.2.2.2.2.2.2.2.2
theorem db2_89 : (decode cX3_first 0 = .ok (.aload_n 0, 1)) ∧ (decode cX3_first 1 = .ok (.iload_n 1, 1)) ∧ (decode cX3_first 2 = .ok (.invokestatic 31, 3)) ∧ (decode cX3_first 5 = .ok (.iconst 0, 1)) ∧ (decode cX3_first 6 = .ok (.iconst 0, 1)) ∧ (decode cX3_first 7 = .ok (.invokevirtual 77, 3)) ∧ (decode cX3_first 10 = .ok (.ifCond .eq 5, 3)) ∧ (decode cX3_first 13 = .ok (.iconst 0, 1)) ∧ (decode cX3_first 14 = .ok (.ireturn, 1)) ∧ (decode cX3_first 15 = .ok (.aload_n 0, 1)) ∧ (decode cX3_first 16 = .ok (.getfield 11, 3)) ∧ (decode cX3_first 19 = .ok (.iload_n 1, 1)) ∧ (decode cX3_first 20 = .ok (.aaload, 1)) ∧ (decode cX3_first 21 = .ok (.iconst 1, 1)) ∧ (decode cX3_first 22 = .ok (.iaload, 1)) ∧ (decode cX3_first 23 = .ok (.istore_n 2, 1)) := by decide +kernel
theorem dX3_first_0 : decode cX3_first 0 = .ok (.aload_n 0, 1) := db2_89.1
theorem dX3_first_1 : decode cX3_first 1 = .ok (.iload_n 1, 1) := db2_89.2.1
theorem dX3_first_2 : decode cX3_first 2 = .ok (.invokestatic 31, 3) := db2_89.2.2.1
theorem dX3_first_5 : decode cX3_first 5 = .ok (.iconst 0, 1) := db2_89.2.2.2.1
theorem dX3_first_6 : decode cX3_first 6 = .ok (.iconst 0, 1) := db2_89.2.2.2.2.1
theorem dX3_first_7 : decode cX3_first 7 = .ok (.invokevirtual 77, 3) := db2_89.2.2.2.2.2.1
theorem dX3_first_10 : decode cX3_first 10 = .ok (.ifCond .eq 5, 3) := db2_89.2.2.2.2.2.2.1
theorem dX3_first_13 : decode cX3_first 13 = .ok (.iconst 0, 1) := db2_89.2.2.2.2.2.2.2.1
theorem dX3_first_14 : decode cX3_first 14 = .ok (.ireturn, 1) := db2_89.2.2.2.2.2.2.2.2.1
theorem dX3_first_15 : decode cX3_first 15 = .ok (.aload_n 0, 1) := db2_89.2.2.2.2.2.2.2.2.2.1
theorem dX3_first_16 : decode cX3_first 16 = .ok (.getfield 11, 3) := db2_89.2.2.2.2.2.2.2.2.2.2.1
theorem dX3_first_19 : decode cX3_first 19 = .ok (.iload_n 1, 1) := db2_89.2.2.2.2.2.2.2.2.2.2.2.1
theorem dX3_first_20 : decode cX3_first 20 = .ok (.aaload, 1) := db2_89.2.2.2.2.2.2.2.2.2.2.2.2.1
theorem dX3_first_21 : decode cX3_first 21 = .ok (.iconst 1, 1) := db2_89.2.2.2.2.2.2.2.2.2.2.2.2.2.1
theorem dX3_first_22 : decode cX3_first 22 = .ok (.iaload, 1) := db2_89.2.2.2.2.2.2.2.2.2.2.2.2.2.2.1
theorem dX3_first_23 : decode cX3_first 23 = .ok (.istore_n 2, 1) := db2_89.2.2.2.2.2.2.2.2.2.2.2.2.2.2.2
theorem db2_90 : (decode cX3_first 24 = .ok (.aload_n 0, 1)) ∧ (decode cX3_first 25 = .ok (.iload_n 1, 1)) ∧ (decode cX3_first 26 = .ok (.aload_n 0, 1)) ∧ (decode cX3_first 27 = .ok (.getfield 11, 3)) ∧ (decode cX3_first 30 = .ok (.iload_n 1, 1)) ∧ (decode cX3_first 31 = .ok (.aaload, 1)) ∧ (decode cX3_first 32 = .ok (.iconst 0, 1)) ∧ (decode cX3_first 33 = .ok (.iaload, 1)) ∧ (decode cX3_first 34 = .ok (.iconst 1, 1)) ∧ (decode cX3_first 35 = .ok (.invokestatic 60, 3)) ∧ (decode cX3_first 38 = .ok (.iconst 0, 1)) ∧ (decode cX3_first 39 = .ok (.invokevirtual 81, 3)) ∧ (decode cX3_first 42 = .ok (.pop, 1)) ∧ (decode cX3_first 43 = .ok (.iload_n 2, 1)) ∧ (decode cX3_first 44 = .ok (.iconst 1, 1)) ∧ (decode cX3_first 45 = .ok (.isub, 1)) := by decide +kernel
theorem dX3_first_24 : decode cX3_first 24 = .ok (.aload_n 0, 1) := db2_90.1
theorem dX3_first_25 : decode cX3_first 25 = .ok (.iload_n 1, 1) := db2_90.2.1
theorem dX3_first_26 : decode cX3_first 26 = .ok (.aload_n 0, 1) := db2_90.2.2.1
theorem dX3_first_27 : decode cX3_first 27 = .ok (.getfield 11, 3) := db2_90.2.2.2.1
theorem dX3_first_30 : decode cX3_first 30 = .ok (.iload_n 1, 1) := db2_90.2.2.2.2.1
theorem dX3_first_31 : decode cX3_first 31 = .ok (.aaload, 1) := db2_90.2.2.2.2.2.1
theorem dX3_first_32 : decode cX3_first 32 = .ok (.iconst 0, 1) := db2_90.2.2.2.2.2.2.1
theorem dX3_first_33 : decode cX3_first 33 = .ok (.iaload, 1) := db2_90.2.2.2.2.2.2.2.1
theorem dX3_first_34 : decode cX3_first 34 = .ok (.iconst 1, 1) := db2_90.2.2.2.2.2.2.2.2.1
theorem dX3_first_35 : decode cX3_first 35 = .ok (.invokestatic 60, 3) := db2_90.2.2.2.2.2.2.2.2.2.1
theorem dX3_first_38 : decode cX3_first 38 = .ok (.iconst 0, 1) := db2_90.2.2.2.2.2.2.2.2.2.2.1
theorem dX3_first_39 : decode cX3_first 39 = .ok (.invokevirtual 81, 3) := db2_90.2.2.2.2.2.2.2.2.2.2.2.1
theorem dX3_first_42 : decode cX3_first 42 = .ok (.pop, 1) := db2_90.2.2.2.2.2.2.2.2.2.2.2.2.1
theorem dX3_first_43 : decode cX3_first 43 = .ok (.iload_n 2, 1) := db2_90.2.2.2.2.2.2.2.2.2.2.2.2.2.1
theorem dX3_first_44 : decode cX3_first 44 = .ok (.iconst 1, 1) := db2_90.2.2.2.2.2.2.2.2.2.2.2.2.2.2.1
theorem dX3_first_45 : decode cX3_first 45 = .ok (.isub, 1) := db2_90.2.2.2.2.2.2.2.2.2.2.2.2.2.2.2
theorem dX3_first_46 : decode cX3_first 46 = .ok (.ireturn, 1) := by decide +kernel
theorem db2_91 : (decode cX3_last 0 = .ok (.aload_n 0, 1)) ∧ (decode cX3_last 1 = .ok (.iload_n 1, 1)) ∧ (decode cX3_last 2 = .ok (.invokestatic 31, 3)) ∧ (decode cX3_last 5 = .ok (.iconst 0, 1)) ∧ (decode cX3_last 6 = .ok (.iconst 0, 1)) ∧ (decode cX3_last 7 = .ok (.invokevirtual 77, 3)) ∧ (decode cX3_last 10 = .ok (.ifCond .eq 5, 3)) ∧ (decode cX3_last 13 = .ok (.iconst 0, 1)) ∧ (decode cX3_last 14 = .ok (.ireturn, 1)) ∧ (decode cX3_last 15 = .ok (.aload_n 0, 1)) ∧ (decode cX3_last 16 = .ok (.getfield 11, 3)) ∧ (decode cX3_last 19 = .ok (.iload_n 1, 1)) ∧ (decode cX3_last 20 = .ok (.aaload, 1)) ∧ (decode cX3_last 21 = .ok (.iconst 1, 1)) ∧ (decode cX3_last 22 = .ok (.iaload, 1)) ∧ (decode cX3_last 23 = .ok (.istore_n 2, 1)) := by decide +kernel
theorem dX3_last_0 : decode cX3_last 0 = .ok (.aload_n 0, 1) := db2_91.1
theorem dX3_last_1 : decode cX3_last 1 = .ok (.iload_n 1, 1) := db2_91.2.1
theorem dX3_last_2 : decode cX3_last 2 = .ok (.invokestatic 31, 3) := db2_91.2.2.1
theorem dX3_last_5 : decode cX3_last 5 = .ok (.iconst 0, 1) := db2_91.2.2.2.1
theorem dX3_last_6 : decode cX3_last 6 = .ok (.iconst 0, 1) := db2_91.2.2.2.2.1
theorem dX3_last_7 : decode cX3_last 7 = .ok (.invokevirtual 77, 3) := db2_91.2.2.2.2.2.1
theorem dX3_last_10 : decode cX3_last 10 = .ok (.ifCond .eq 5, 3) := db2_91.2.2.2.2.2.2.1
theorem dX3_last_13 : decode cX3_last 13 = .ok (.iconst 0, 1) := db2_91.2.2.2.2.2.2.2.1
theorem dX3_last_14 : decode cX3_last 14 = .ok (.ireturn, 1) := db2_91.2.2.2.2.2.2.2.2.1
theorem dX3_last_15 : decode cX3_last 15 = .ok (.aload_n 0, 1) := db2_91.2.2.2.2.2.2.2.2.2.1
theorem dX3_last_16 : decode cX3_last 16 = .ok (.getfield 11, 3) := db2_91.2.2.2.2.2.2.2.2.2.2.1
theorem dX3_last_19 : decode cX3_last 19 = .ok (.iload_n 1, 1) := db2_91.2.2.2.2.2.2.2.2.2.2.2.1
theorem dX3_last_20 : decode cX3_last 20 = .ok (.aaload, 1) := db2_91.2.2.2.2.2.2.2.2.2.2.2.2.1
theorem dX3_last_21 : decode cX3_last 21 = .ok (.iconst 1, 1) := db2_91.2.2.2.2.2.2.2.2.2.2.2.2.2.1
theorem dX3_last_22 : decode cX3_last 22 = .ok (.iaload, 1) := db2_91.2.2.2.2.2.2.2.2.2.2.2.2.2.2.1
theorem dX3_last_23 : decode cX3_last 23 = .ok (.istore_n 2, 1) := db2_91.2.2.2.2.2.2.2.2.2.2.2.2.2.2.2
theorem db2_92 : (decode cX3_last 24 = .ok (.aload_n 0, 1)) ∧ (decode cX3_last 25 = .ok (.iload_n 1, 1)) ∧ (decode cX3_last 26 = .ok (.aload_n 0, 1)) ∧ (decode cX3_last 27 = .ok (.getfield 11, 3)) ∧ (decode cX3_last 30 = .ok (.iload_n 1, 1)) ∧ (decode cX3_last 31 = .ok (.aaload, 1)) ∧ (decode cX3_last 32 = .ok (.iconst 0, 1)) ∧ (decode cX3_last 33 = .ok (.iaload, 1)) ∧ (decode cX3_last 34 = .ok (.bipush 31, 2)) ∧ (decode cX3_last 36 = .ok (.invokestatic 60, 3)) ∧ (decode cX3_last 39 = .ok (.iconst 0, 1)) ∧ (decode cX3_last 40 = .ok (.invokevirtual 81, 3)) ∧ (decode cX3_last 43 = .ok (.pop, 1)) ∧ (decode cX3_last 44 = .ok (.aload_n 0, 1)) ∧ (decode cX3_last 45 = .ok (.getfield 11, 3)) ∧ (decode cX3_last 48 = .ok (.iload_n 1, 1)) := by decide +kernel
theorem dX3_last_24 : decode cX3_last 24 = .ok (.aload_n 0, 1) := db2_92.1
theorem dX3_last_25 : decode cX3_last 25 = .ok (.iload_n 1, 1) := db2_92.2.1
theorem dX3_last_26 : decode cX3_last 26 = .ok (.aload_n 0, 1) := db2_92.2.2.1
theorem dX3_last_27 : decode cX3_last 27 = .ok (.getfield 11, 3) := db2_92.2.2.2.1
theorem dX3_last_30 : decode cX3_last 30 = .ok (.iload_n 1, 1) := db2_92.2.2.2.2.1
theorem dX3_last_31 : decode cX3_last 31 = .ok (.aaload, 1) := db2_92.2.2.2.2.2.1
theorem dX3_last_32 : decode cX3_last 32 = .ok (.iconst 0, 1) := db2_92.2.2.2.2.2.2.1
theorem dX3_last_33 : decode cX3_last 33 = .ok (.iaload, 1) := db2_92.2.2.2.2.2.2.2.1
theorem dX3_last_34 : decode cX3_last 34 = .ok (.bipush 31, 2) := db2_92.2.2.2.2.2.2.2.2.1
theorem dX3_last_36 : decode cX3_last 36 = .ok (.invokestatic 60, 3) := db2_92.2.2.2.2.2.2.2.2.2.1
theorem dX3_last_39 : decode cX3_last 39 = .ok (.iconst 0, 1) := db2_92.2.2.2.2.2.2.2.2.2.2.1
theorem dX3_last_40 : decode cX3_last 40 = .ok (.invokevirtual 81, 3) := db2_92.2.2.2.2.2.2.2.2.2.2.2.1
theorem dX3_last_43 : decode cX3_last 43 = .ok (.pop, 1) := db2_92.2.2.2.2.2.2.2.2.2.2.2.2.1
theorem dX3_last_44 : decode cX3_last 44 = .ok (.aload_n 0, 1) := db2_92.2.2.2.2.2.2.2.2.2.2.2.2.2.1
theorem dX3_last_45 : decode cX3_last 45 = .ok (.getfield 11, 3) := db2_92.2.2.2.2.2.2.2.2.2.2.2.2.2.2.1
theorem dX3_last_48 : decode cX3_last 48 = .ok (.iload_n 1, 1) := db2_92.2.2.2.2.2.2.2.2.2.2.2.2.2.2.2
theorem db2_93 : (decode cX3_last 49 = .ok (.aaload, 1)) ∧ (decode cX3_last 50 = .ok (.iconst 1, 1)) ∧ (decode cX3_last 51 = .ok (.iaload, 1)) ∧ (decode cX3_last 52 = .ok (.iload_n 2, 1)) ∧ (decode cX3_last 53 = .ok (.isub, 1)) ∧ (decode cX3_last 54 = .ok (.ireturn, 1)) := by decide +kernel
theorem dX3_last_49 : decode cX3_last 49 = .ok (.aaload, 1) := db2_93.1
theorem dX3_last_50 : decode cX3_last 50 = .ok (.iconst 1, 1) := db2_93.2.1
theorem dX3_last_51 : decode cX3_last 51 = .ok (.iaload, 1) := db2_93.2.2.1
theorem dX3_last_52 : decode cX3_last 52 = .ok (.iload_n 2, 1) := db2_93.2.2.2.1
theorem dX3_last_53 : decode cX3_last 53 = .ok (.isub, 1) := db2_93.2.2.2.2.1
theorem dX3_last_54 : decode cX3_last 54 = .ok (.ireturn, 1) := db2_93.2.2.2.2.2
theorem db2_94 : (decode cX3_withDay 0 = .ok (.aload_n 0, 1)) ∧ (decode cX3_withDay 1 = .ok (.iload_n 1, 1)) ∧ (decode cX3_withDay 2 = .ok (.invokestatic 31, 3)) ∧ (decode cX3_withDay 5 = .ok (.iload_n 2, 1)) ∧ (decode cX3_withDay 6 = .ok (.iconst 1, 1)) ∧ (decode cX3_withDay 7 = .ok (.bipush 31, 2)) ∧ (decode cX3_withDay 9 = .ok (.invokestatic 27, 3)) ∧ (decode cX3_withDay 12 = .ok (.iload_n 1, 1)) ∧ (decode cX3_withDay 13 = .ok (.invokestatic 31, 3)) ∧ (decode cX3_withDay 16 = .ok (.ifCond .ne 22, 3)) ∧ (decode cX3_withDay 19 = .ok (.iload_n 2, 1)) ∧ (decode cX3_withDay 20 = .ok (.aload_n 0, 1)) ∧ (decode cX3_withDay 21 = .ok (.getfield 11, 3)) ∧ (decode cX3_withDay 24 = .ok (.iload_n 1, 1)) ∧ (decode cX3_withDay 25 = .ok (.aaload, 1)) ∧ (decode cX3_withDay 26 = .ok (.iconst 0, 1)) := by decide +kernel
theorem dX3_withDay_0 : decode cX3_withDay 0 = .ok (.aload_n 0, 1) := db2_94.1
theorem dX3_withDay_1 : decode cX3_withDay 1 = .ok (.iload_n 1, 1) := db2_94.2.1
theorem dX3_withDay_2 : decode cX3_withDay 2 = .ok (.invokestatic 31, 3) := db2_94.2.2.1
theorem dX3_withDay_5 : decode cX3_withDay 5 = .ok (.iload_n 2, 1) := db2_94.2.2.2.1
theorem dX3_withDay_6 : decode cX3_withDay 6 = .ok (.iconst 1, 1) := db2_94.2.2.2.2.1
theorem dX3_withDay_7 : decode cX3_withDay 7 = .ok (.bipush 31, 2) := db2_94.2.2.2.2.2.1
theorem dX3_withDay_9 : decode cX3_withDay 9 = .ok (.invokestatic 27, 3) := db2_94.2.2.2.2.2.2.1
theorem dX3_withDay_12 : decode cX3_withDay 12 = .ok (.iload_n 1, 1) := db2_94.2.2.2.2.2.2.2.1
theorem dX3_withDay_13 : decode cX3_withDay 13 = .ok (.invokestatic 31, 3) := db2_94.2.2.2.2.2.2.2.2.1
theorem dX3_withDay_16 : decode cX3_withDay 16 = .ok (.ifCond .ne 22, 3) := db2_94.2.2.2.2.2.2.2.2.2.1
theorem dX3_withDay_19 : decode cX3_withDay 19 = .ok (.iload_n 2, 1) := db2_94.2.2.2.2.2.2.2.2.2.2.1
theorem dX3_withDay_20 : decode cX3_withDay 20 = .ok (.aload_n 0, 1) := db2_94.2.2.2.2.2.2.2.2.2.2.2.1
theorem dX3_withDay_21 : decode cX3_withDay 21 = .ok (.getfield 11, 3) := db2_94.2.2.2.2.2.2.2.2.2.2.2.2.1
theorem dX3_withDay_24 : decode cX3_withDay 24 = .ok (.iload_n 1, 1) := db2_94.2.2.2.2.2.2.2.2.2.2.2.2.2.1
theorem dX3_withDay_25 : decode cX3_withDay 25 = .ok (.aaload, 1) := db2_94.2.2.2.2.2.2.2.2.2.2.2.2.2.2.1
theorem dX3_withDay_26 : decode cX3_withDay 26 = .ok (.iconst 0, 1) := db2_94.2.2.2.2.2.2.2.2.2.2.2.2.2.2.2
theorem db2_95 : (decode cX3_withDay 27 = .ok (.iaload, 1)) ∧ (decode cX3_withDay 28 = .ok (.invokestatic 54, 3)) ∧ (decode cX3_withDay 31 = .ok (.if_icmp .le 7, 3)) ∧ (decode cX3_withDay 34 = .ok (.iconst 1, 1)) ∧ (decode cX3_withDay 35 = .ok (.goto 4, 3)) ∧ (decode cX3_withDay 38 = .ok (.iconst 0, 1)) ∧ (decode cX3_withDay 39 = .ok (.invokevirtual 77, 3)) ∧ (decode cX3_withDay 42 = .ok (.ifCond .eq 5, 3)) ∧ (decode cX3_withDay 45 = .ok (.iconst 0, 1)) ∧ (decode cX3_withDay 46 = .ok (.ireturn, 1)) ∧ (decode cX3_withDay 47 = .ok (.aload_n 0, 1)) ∧ (decode cX3_withDay 48 = .ok (.iload_n 1, 1)) ∧ (decode cX3_withDay 49 = .ok (.aload_n 0, 1)) ∧ (decode cX3_withDay 50 = .ok (.getfield 11, 3)) ∧ (decode cX3_withDay 53 = .ok (.iload_n 1, 1)) ∧ (decode cX3_withDay 54 = .ok (.aaload, 1)) := by decide +kernel
theorem dX3_withDay_27 : decode cX3_withDay 27 = .ok (.iaload, 1) := db2_95.1
theorem dX3_withDay_28 : decode cX3_withDay 28 = .ok (.invokestatic 54, 3) := db2_95.2.1
theorem dX3_withDay_31 : decode cX3_withDay 31 = .ok (.if_icmp .le 7, 3) := db2_95.2.2.1
theorem dX3_withDay_34 : decode cX3_withDay 34 = .ok (.iconst 1, 1) := db2_95.2.2.2.1
theorem dX3_withDay_35 : decode cX3_withDay 35 = .ok (.goto 4, 3) := db2_95.2.2.2.2.1
theorem dX3_withDay_38 : decode cX3_withDay 38 = .ok (.iconst 0, 1) := db2_95.2.2.2.2.2.1
theorem dX3_withDay_39 : decode cX3_withDay 39 = .ok (.invokevirtual 77, 3) := db2_95.2.2.2.2.2.2.1
theorem dX3_withDay_42 : decode cX3_withDay 42 = .ok (.ifCond .eq 5, 3) := db2_95.2.2.2.2.2.2.2.1
theorem dX3_withDay_45 : decode cX3_withDay 45 = .ok (.iconst 0, 1) := db2_95.2.2.2.2.2.2.2.2.1
theorem dX3_withDay_46 : decode cX3_withDay 46 = .ok (.ireturn, 1) := db2_95.2.2.2.2.2.2.2.2.2.1
theorem dX3_withDay_47 : decode cX3_withDay 47 = .ok (.aload_n 0, 1) := db2_95.2.2.2.2.2.2.2.2.2.2.1
theorem dX3_withDay_48 : decode cX3_withDay 48 = .ok (.iload_n 1, 1) := db2_95.2.2.2.2.2.2.2.2.2.2.2.1
theorem dX3_withDay_49 : decode cX3_withDay 49 = .ok (.aload_n 0, 1) := db2_95.2.2.2.2.2.2.2.2.2.2.2.2.1
theorem dX3_withDay_50 : decode cX3_withDay 50 = .ok (.getfield 11, 3) := db2_95.2.2.2.2.2.2.2.2.2.2.2.2.2.1
theorem dX3_withDay_53 : decode cX3_withDay 53 = .ok (.iload_n 1, 1) := db2_95.2.2.2.2.2.2.2.2.2.2.2.2.2.2.1
theorem dX3_withDay_54 : decode cX3_withDay 54 = .ok (.aaload, 1) := db2_95.2.2.2.2.2.2.2.2.2.2.2.2.2.2.2
theorem db2_96 : (decode cX3_withDay 55 = .ok (.iconst 0, 1)) ∧ (decode cX3_withDay 56 = .ok (.iaload, 1)) ∧ (decode cX3_withDay 57 = .ok (.iload_n 2, 1)) ∧ (decode cX3_withDay 58 = .ok (.invokestatic 60, 3)) ∧ (decode cX3_withDay 61 = .ok (.iconst 0, 1)) ∧ (decode cX3_withDay 62 = .ok (.invokevirtual 81, 3)) ∧ (decode cX3_withDay 65 = .ok (.pop, 1)) ∧ (decode cX3_withDay 66 = .ok (.aload_n 0, 1)) ∧ (decode cX3_withDay 67 = .ok (.iload_n 1, 1)) ∧ (decode cX3_withDay 68 = .ok (.invokevirtual 85, 3)) ∧ (decode cX3_withDay 71 = .ok (.ireturn, 1)) := by decide +kernel
theorem dX3_withDay_55 : decode cX3_withDay 55 = .ok (.iconst 0, 1) := db2_96.1
theorem dX3_withDay_56 : decode cX3_withDay 56 = .ok (.iaload, 1) := db2_96.2.1
theorem dX3_withDay_57 : decode cX3_withDay 57 = .ok (.iload_n 2, 1) := db2_96.2.2.1
theorem dX3_withDay_58 : decode cX3_withDay 58 = .ok (.invokestatic 60, 3) := db2_96.2.2.2.1
theorem dX3_withDay_61 : decode cX3_withDay 61 = .ok (.iconst 0, 1) := db2_96.2.2.2.2.1
theorem dX3_withDay_62 : decode cX3_withDay 62 = .ok (.invokevirtual 81, 3) := db2_96.2.2.2.2.2.1
theorem dX3_withDay_65 : decode cX3_withDay 65 = .ok (.pop, 1) := db2_96.2.2.2.2.2.2.1
theorem dX3_withDay_66 : decode cX3_withDay 66 = .ok (.aload_n 0, 1) := db2_96.2.2.2.2.2.2.2.1
theorem dX3_withDay_67 : decode cX3_withDay 67 = .ok (.iload_n 1, 1) := db2_96.2.2.2.2.2.2.2.2.1
theorem dX3_withDay_68 : decode cX3_withDay 68 = .ok (.invokevirtual 85, 3) := db2_96.2.2.2.2.2.2.2.2.2.1
theorem dX3_withDay_71 : decode cX3_withDay 71 = .ok (.ireturn, 1) := db2_96.2.2.2.2.2.2.2.2.2.2
theorem db2_97 : (decode cX3_shift 0 = .ok (.aload_n 0, 1)) ∧ (decode cX3_shift 1 = .ok (.iload_n 1, 1)) ∧ (decode cX3_shift 2 = .ok (.invokestatic 31, 3)) ∧ (decode cX3_shift 5 = .ok (.iload_n 2, 1)) ∧ (decode cX3_shift 6 = .ok (.ldc 97, 2)) ∧ (decode cX3_shift 8 = .ok (.ldc 98, 2)) ∧ (decode cX3_shift 10 = .ok (.invokestatic 27, 3)) ∧ (decode cX3_shift 13 = .ok (.iconst 0, 1)) ∧ (decode cX3_shift 14 = .ok (.invokevirtual 77, 3)) ∧ (decode cX3_shift 17 = .ok (.ifCond .eq 5, 3)) ∧ (decode cX3_shift 20 = .ok (.iconst 0, 1)) ∧ (decode cX3_shift 21 = .ok (.ireturn, 1)) ∧ (decode cX3_shift 22 = .ok (.aload_n 0, 1)) ∧ (decode cX3_shift 23 = .ok (.iload_n 1, 1)) ∧ (decode cX3_shift 24 = .ok (.aload_n 0, 1)) ∧ (decode cX3_shift 25 = .ok (.getfield 11, 3)) := by decide +kernel
theorem dX3_shift_0 : decode cX3_shift 0 = .ok (.aload_n 0, 1) := db2_97.1
theorem dX3_shift_1 : decode cX3_shift 1 = .ok (.iload_n 1, 1) := db2_97.2.1
theorem dX3_shift_2 : decode cX3_shift 2 = .ok (.invokestatic 31, 3) := db2_97.2.2.1
theorem dX3_shift_5 : decode cX3_shift 5 = .ok (.iload_n 2, 1) := db2_97.2.2.2.1
theorem dX3_shift_6 : decode cX3_shift 6 = .ok (.ldc 97, 2) := db2_97.2.2.2.2.1
theorem dX3_shift_8 : decode cX3_shift 8 = .ok (.ldc 98, 2) := db2_97.2.2.2.2.2.1
theorem dX3_shift_10 : decode cX3_shift 10 = .ok (.invokestatic 27, 3) := db2_97.2.2.2.2.2.2.1
theorem dX3_shift_13 : decode cX3_shift 13 = .ok (.iconst 0, 1) := db2_97.2.2.2.2.2.2.2.1
theorem dX3_shift_14 : decode cX3_shift 14 = .ok (.invokevirtual 77, 3) := db2_97.2.2.2.2.2.2.2.2.1
theorem dX3_shift_17 : decode cX3_shift 17 = .ok (.ifCond .eq 5, 3) := db2_97.2.2.2.2.2.2.2.2.2.1
theorem dX3_shift_20 : decode cX3_shift 20 = .ok (.iconst 0, 1) := db2_97.2.2.2.2.2.2.2.2.2.2.1
theorem dX3_shift_21 : decode cX3_shift 21 = .ok (.ireturn, 1) := db2_97.2.2.2.2.2.2.2.2.2.2.2.1
theorem dX3_shift_22 : decode cX3_shift 22 = .ok (.aload_n 0, 1) := db2_97.2.2.2.2.2.2.2.2.2.2.2.2.1
theorem dX3_shift_23 : decode cX3_shift 23 = .ok (.iload_n 1, 1) := db2_97.2.2.2.2.2.2.2.2.2.2.2.2.2.1
theorem dX3_shift_24 : decode cX3_shift 24 = .ok (.aload_n 0, 1) := db2_97.2.2.2.2.2.2.2.2.2.2.2.2.2.2.1
theorem dX3_shift_25 : decode cX3_shift 25 = .ok (.getfield 11, 3) := db2_97.2.2.2.2.2.2.2.2.2.2.2.2.2.2.2
theorem db2_98 : (decode cX3_shift 28 = .ok (.iload_n 1, 1)) ∧ (decode cX3_shift 29 = .ok (.aaload, 1)) ∧ (decode cX3_shift 30 = .ok (.iload_n 2, 1)) ∧ (decode cX3_shift 31 = .ok (.invokestatic 99, 3)) ∧ (decode cX3_shift 34 = .ok (.iconst 3, 1)) ∧ (decode cX3_shift 35 = .ok (.invokevirtual 81, 3)) ∧ (decode cX3_shift 38 = .ok (.ifCond .eq 14, 3)) ∧ (decode cX3_shift 41 = .ok (.aload_n 0, 1)) ∧ (decode cX3_shift 42 = .ok (.getfield 11, 3)) ∧ (decode cX3_shift 45 = .ok (.iload_n 1, 1)) ∧ (decode cX3_shift 46 = .ok (.aaload, 1)) ∧ (decode cX3_shift 47 = .ok (.iconst 1, 1)) ∧ (decode cX3_shift 48 = .ok (.iaload, 1)) ∧ (decode cX3_shift 49 = .ok (.goto 4, 3)) ∧ (decode cX3_shift 52 = .ok (.iconst 0, 1)) ∧ (decode cX3_shift 53 = .ok (.ireturn, 1)) := by decide +kernel
theorem dX3_shift_28 : decode cX3_shift 28 = .ok (.iload_n 1, 1) := db2_98.1
theorem dX3_shift_29 : decode cX3_shift 29 = .ok (.aaload, 1) := db2_98.2.1
theorem dX3_shift_30 : decode cX3_shift 30 = .ok (.iload_n 2, 1) := db2_98.2.2.1
theorem dX3_shift_31 : decode cX3_shift 31 = .ok (.invokestatic 99, 3) := db2_98.2.2.2.1
theorem dX3_shift_34 : decode cX3_shift 34 = .ok (.iconst 3, 1) := db2_98.2.2.2.2.1
theorem dX3_shift_35 : decode cX3_shift 35 = .ok (.invokevirtual 81, 3) := db2_98.2.2.2.2.2.1
theorem dX3_shift_38 : decode cX3_shift 38 = .ok (.ifCond .eq 14, 3) := db2_98.2.2.2.2.2.2.1
theorem dX3_shift_41 : decode cX3_shift 41 = .ok (.aload_n 0, 1) := db2_98.2.2.2.2.2.2.2.1
theorem dX3_shift_42 : decode cX3_shift 42 = .ok (.getfield 11, 3) := db2_98.2.2.2.2.2.2.2.2.1
theorem dX3_shift_45 : decode cX3_shift 45 = .ok (.iload_n 1, 1) := db2_98.2.2.2.2.2.2.2.2.2.1
theorem dX3_shift_46 : decode cX3_shift 46 = .ok (.aaload, 1) := db2_98.2.2.2.2.2.2.2.2.2.2.1
theorem dX3_shift_47 : decode cX3_shift 47 = .ok (.iconst 1, 1) := db2_98.2.2.2.2.2.2.2.2.2.2.2.1
theorem dX3_shift_48 : decode cX3_shift 48 = .ok (.iaload, 1) := db2_98.2.2.2.2.2.2.2.2.2.2.2.2.1
theorem dX3_shift_49 : decode cX3_shift 49 = .ok (.goto 4, 3) := db2_98.2.2.2.2.2.2.2.2.2.2.2.2.2.1
theorem dX3_shift_52 : decode cX3_shift 52 = .ok (.iconst 0, 1) := db2_98.2.2.2.2.2.2.2.2.2.2.2.2.2.2.1
theorem dX3_shift_53 : decode cX3_shift 53 = .ok (.ireturn, 1) := db2_98.2.2.2.2.2.2.2.2.2.2.2.2.2.2.2
theorem db2_99 : (decode cX3_shiftYears 0 = .ok (.aload_n 0, 1)) ∧ (decode cX3_shiftYears 1 = .ok (.iload_n 1, 1)) ∧ (decode cX3_shiftYears 2 = .ok (.invokestatic 31, 3)) ∧ (decode cX3_shiftYears 5 = .ok (.iload_n 2, 1)) ∧ (decode cX3_shiftYears 6 = .ok (.sipush (-20000), 3)) ∧ (decode cX3_shiftYears 9 = .ok (.sipush 20000, 3)) ∧ (decode cX3_shiftYears 12 = .ok (.invokestatic 27, 3)) ∧ (decode cX3_shiftYears 15 = .ok (.iconst 0, 1)) ∧ (decode cX3_shiftYears 16 = .ok (.invokevirtual 77, 3)) ∧ (decode cX3_shiftYears 19 = .ok (.ifCond .eq 5, 3)) ∧ (decode cX3_shiftYears 22 = .ok (.iconst 0, 1)) ∧ (decode cX3_shiftYears 23 = .ok (.ireturn, 1)) ∧ (decode cX3_shiftYears 24 = .ok (.aload_n 0, 1)) ∧ (decode cX3_shiftYears 25 = .ok (.iload_n 1, 1)) ∧ (decode cX3_shiftYears 26 = .ok (.aload_n 0, 1)) ∧ (decode cX3_shiftYears 27 = .ok (.getfield 11, 3)) := by decide +kernel
theorem dX3_shiftYears_0 : decode cX3_shiftYears 0 = .ok (.aload_n 0, 1) := db2_99.1
theorem dX3_shiftYears_1 : decode cX3_shiftYears 1 = .ok (.iload_n 1, 1) := db2_99.2.1
theorem dX3_shiftYears_2 : decode cX3_shiftYears 2 = .ok (.invokestatic 31, 3) := db2_99.2.2.1
theorem dX3_shiftYears_5 : decode cX3_shiftYears 5 = .ok (.iload_n 2, 1) := db2_99.2.2.2.1
theorem dX3_shiftYears_6 : decode cX3_shiftYears 6 = .ok (.sipush (-20000), 3) := db2_99.2.2.2.2.1
theorem dX3_shiftYears_9 : decode cX3_shiftYears 9 = .ok (.sipush 20000, 3) := db2_99.2.2.2.2.2.1
theorem dX3_shiftYears_12 : decode cX3_shiftYears 12 = .ok (.invokestatic 27, 3) := db2_99.2.2.2.2.2.2.1
theorem dX3_shiftYears_15 : decode cX3_shiftYears 15 = .ok (.iconst 0, 1) := db2_99.2.2.2.2.2.2.2.1
theorem dX3_shiftYears_16 : decode cX3_shiftYears 16 = .ok (.invokevirtual 77, 3) := db2_99.2.2.2.2.2.2.2.2.1
theorem dX3_shiftYears_19 : decode cX3_shiftYears 19 = .ok (.ifCond .eq 5, 3) := db2_99.2.2.2.2.2.2.2.2.2.1
theorem dX3_shiftYears_22 : decode cX3_shiftYears 22 = .ok (.iconst 0, 1) := db2_99.2.2.2.2.2.2.2.2.2.2.1
theorem dX3_shiftYears_23 : decode cX3_shiftYears 23 = .ok (.ireturn, 1) := db2_99.2.2.2.2.2.2.2.2.2.2.2.1
theorem dX3_shiftYears_24 : decode cX3_shiftYears 24 = .ok (.aload_n 0, 1) := db2_99.2.2.2.2.2.2.2.2.2.2.2.2.1
theorem dX3_shiftYears_25 : decode cX3_shiftYears 25 = .ok (.iload_n 1, 1) := db2_99.2.2.2.2.2.2.2.2.2.2.2.2.2.1
theorem dX3_shiftYears_26 : decode cX3_shiftYears 26 = .ok (.aload_n 0, 1) := db2_99.2.2.2.2.2.2.2.2.2.2.2.2.2.2.1
theorem dX3_shiftYears_27 : decode cX3_shiftYears 27 = .ok (.getfield 11, 3) := db2_99.2.2.2.2.2.2.2.2.2.2.2.2.2.2.2
theorem db2_100 : (decode cX3_shiftYears 30 = .ok (.iload_n 1, 1)) ∧ (decode cX3_shiftYears 31 = .ok (.aaload, 1)) ∧ (decode cX3_shiftYears 32 = .ok (.bipush 12, 2)) ∧ (decode cX3_shiftYears 34 = .ok (.iload_n 2, 1)) ∧ (decode cX3_shiftYears 35 = .ok (.imul, 1)) ∧ (decode cX3_shiftYears 36 = .ok (.invokestatic 99, 3)) ∧ (decode cX3_shiftYears 39 = .ok (.iconst 3, 1)) ∧ (decode cX3_shiftYears 40 = .ok (.invokevirtual 81, 3)) ∧ (decode cX3_shiftYears 43 = .ok (.ifCond .eq 14, 3)) ∧ (decode cX3_shiftYears 46 = .ok (.aload_n 0, 1)) ∧ (decode cX3_shiftYears 47 = .ok (.getfield 11, 3)) ∧ (decode cX3_shiftYears 50 = .ok (.iload_n 1, 1)) ∧ (decode cX3_shiftYears 51 = .ok (.aaload, 1)) ∧ (decode cX3_shiftYears 52 = .ok (.iconst 1, 1)) ∧ (decode cX3_shiftYears 53 = .ok (.iaload, 1)) ∧ (decode cX3_shiftYears 54 = .ok (.goto 4, 3)) := by decide +kernel
theorem dX3_shiftYears_30 : decode cX3_shiftYears 30 = .ok (.iload_n 1, 1) := db2_100.1
theorem dX3_shiftYears_31 : decode cX3_shiftYears 31 = .ok (.aaload, 1) := db2_100.2.1
theorem dX3_shiftYears_32 : decode cX3_shiftYears 32 = .ok (.bipush 12, 2) := db2_100.2.2.1
theorem dX3_shiftYears_34 : decode cX3_shiftYears 34 = .ok (.iload_n 2, 1) := db2_100.2.2.2.1
theorem dX3_shiftYears_35 : decode cX3_shiftYears 35 = .ok (.imul, 1) := db2_100.2.2.2.2.1
theorem dX3_shiftYears_36 : decode cX3_shiftYears 36 = .ok (.invokestatic 99, 3) := db2_100.2.2.2.2.2.1
theorem dX3_shiftYears_39 : decode cX3_shiftYears 39 = .ok (.iconst 3, 1) := db2_100.2.2.2.2.2.2.1
theorem dX3_shiftYears_40 : decode cX3_shiftYears 40 = .ok (.invokevirtual 81, 3) := db2_100.2.2.2.2.2.2.2.1
theorem dX3_shiftYears_43 : decode cX3_shiftYears 43 = .ok (.ifCond .eq 14, 3) := db2_100.2.2.2.2.2.2.2.2.1
theorem dX3_shiftYears_46 : decode cX3_shiftYears 46 = .ok (.aload_n 0, 1) := db2_100.2.2.2.2.2.2.2.2.2.1
theorem dX3_shiftYears_47 : decode cX3_shiftYears 47 = .ok (.getfield 11, 3) := db2_100.2.2.2.2.2.2.2.2.2.2.1
theorem dX3_shiftYears_50 : decode cX3_shiftYears 50 = .ok (.iload_n 1, 1) := db2_100.2.2.2.2.2.2.2.2.2.2.2.1
theorem dX3_shiftYears_51 : decode cX3_shiftYears 51 = .ok (.aaload, 1) := db2_100.2.2.2.2.2.2.2.2.2.2.2.2.1
theorem dX3_shiftYears_52 : decode cX3_shiftYears 52 = .ok (.iconst 1, 1) := db2_100.2.2.2.2.2.2.2.2.2.2.2.2.2.1
theorem dX3_shiftYears_53 : decode cX3_shiftYears 53 = .ok (.iaload, 1) := db2_100.2.2.2.2.2.2.2.2.2.2.2.2.2.2.1
theorem dX3_shiftYears_54 : decode cX3_shiftYears 54 = .ok (.goto 4, 3) := db2_100.2.2.2.2.2.2.2.2.2.2.2.2.2.2.2
theorem db2_101 : (decode cX3_shiftYears 57 = .ok (.iconst 0, 1)) ∧ (decode cX3_shiftYears 58 = .ok (.ireturn, 1)) := by decide +kernel
theorem dX3_shiftYears_57 : decode cX3_shiftYears 57 = .ok (.iconst 0, 1) := db2_101.1
theorem dX3_shiftYears_58 : decode cX3_shiftYears 58 = .ok (.ireturn, 1) := db2_101.2
theorem db2_102 : (decode cX3_days 0 = .ok (.aload_n 0, 1)) ∧ (decode cX3_days 1 = .ok (.iload_n 1, 1)) ∧ (decode cX3_days 2 = .ok (.invokestatic 31, 3)) ∧ (decode cX3_days 5 = .ok (.iload_n 2, 1)) ∧ (decode cX3_days 6 = .ok (.ldc 103, 2)) ∧ (decode cX3_days 8 = .ok (.ldc 104, 2)) ∧ (decode cX3_days 10 = .ok (.invokestatic 27, 3)) ∧ (decode cX3_days 13 = .ok (.iconst 0, 1)) ∧ (decode cX3_days 14 = .ok (.invokevirtual 77, 3)) ∧ (decode cX3_days 17 = .ok (.ifCond .eq 5, 3)) ∧ (decode cX3_days 20 = .ok (.iconst 0, 1)) ∧ (decode cX3_days 21 = .ok (.ireturn, 1)) ∧ (decode cX3_days 22 = .ok (.aload_n 0, 1)) ∧ (decode cX3_days 23 = .ok (.iload_n 1, 1)) ∧ (decode cX3_days 24 = .ok (.aload_n 0, 1)) ∧ (decode cX3_days 25 = .ok (.getfield 11, 3)) := by decide +kernel
theorem dX3_days_0 : decode cX3_days 0 = .ok (.aload_n 0, 1) := db2_102.1
theorem dX3_days_1 : decode cX3_days 1 = .ok (.iload_n 1, 1) := db2_102.2.1
theorem dX3_days_2 : decode cX3_days 2 = .ok (.invokestatic 31, 3) := db2_102.2.2.1
theorem dX3_days_5 : decode cX3_days 5 = .ok (.iload_n 2, 1) := db2_102.2.2.2.1
theorem dX3_days_6 : decode cX3_days 6 = .ok (.ldc 103, 2) := db2_102.2.2.2.2.1
theorem dX3_days_8 : decode cX3_days 8 = .ok (.ldc 104, 2) := db2_102.2.2.2.2.2.1
theorem dX3_days_10 : decode cX3_days 10 = .ok (.invokestatic 27, 3) := db2_102.2.2.2.2.2.2.1
theorem dX3_days_13 : decode cX3_days 13 = .ok (.iconst 0, 1) := db2_102.2.2.2.2.2.2.2.1
theorem dX3_days_14 : decode cX3_days 14 = .ok (.invokevirtual 77, 3) := db2_102.2.2.2.2.2.2.2.2.1
theorem dX3_days_17 : decode cX3_days 17 = .ok (.ifCond .eq 5, 3) := db2_102.2.2.2.2.2.2.2.2.2.1
theorem dX3_days_20 : decode cX3_days 20 = .ok (.iconst 0, 1) := db2_102.2.2.2.2.2.2.2.2.2.2.1
theorem dX3_days_21 : decode cX3_days 21 = .ok (.ireturn, 1) := db2_102.2.2.2.2.2.2.2.2.2.2.2.1
theorem dX3_days_22 : decode cX3_days 22 = .ok (.aload_n 0, 1) := db2_102.2.2.2.2.2.2.2.2.2.2.2.2.1
theorem dX3_days_23 : decode cX3_days 23 = .ok (.iload_n 1, 1) := db2_102.2.2.2.2.2.2.2.2.2.2.2.2.2.1
theorem dX3_days_24 : decode cX3_days 24 = .ok (.aload_n 0, 1) := db2_102.2.2.2.2.2.2.2.2.2.2.2.2.2.2.1
theorem dX3_days_25 : decode cX3_days 25 = .ok (.getfield 11, 3) := db2_102.2.2.2.2.2.2.2.2.2.2.2.2.2.2.2
theorem db2_103 : (decode cX3_days 28 = .ok (.iload_n 1, 1)) ∧ (decode cX3_days 29 = .ok (.aaload, 1)) ∧ (decode cX3_days 30 = .ok (.iload_n 2, 1)) ∧ (decode cX3_days 31 = .ok (.invokestatic 105, 3)) ∧ (decode cX3_days 34 = .ok (.iconst 3, 1)) ∧ (decode cX3_days 35 = .ok (.invokevirtual 81, 3)) ∧ (decode cX3_days 38 = .ok (.ifCond .eq 11, 3)) ∧ (decode cX3_days 41 = .ok (.aload_n 0, 1)) ∧ (decode cX3_days 42 = .ok (.iload_n 1, 1)) ∧ (decode cX3_days 43 = .ok (.invokevirtual 85, 3)) ∧ (decode cX3_days 46 = .ok (.goto 4, 3)) ∧ (decode cX3_days 49 = .ok (.iconst 0, 1)) ∧ (decode cX3_days 50 = .ok (.ireturn, 1)) := by decide +kernel
theorem dX3_days_28 : decode cX3_days 28 = .ok (.iload_n 1, 1) := db2_103.1
theorem dX3_days_29 : decode cX3_days 29 = .ok (.aaload, 1) := db2_103.2.1
theorem dX3_days_30 : decode cX3_days 30 = .ok (.iload_n 2, 1) := db2_103.2.2.1
theorem dX3_days_31 : decode cX3_days 31 = .ok (.invokestatic 105, 3) := db2_103.2.2.2.1
theorem dX3_days_34 : decode cX3_days 34 = .ok (.iconst 3, 1) := db2_103.2.2.2.2.1
theorem dX3_days_35 : decode cX3_days 35 = .ok (.invokevirtual 81, 3) := db2_103.2.2.2.2.2.1
theorem dX3_days_38 : decode cX3_days 38 = .ok (.ifCond .eq 11, 3) := db2_103.2.2.2.2.2.2.1
theorem dX3_days_41 : decode cX3_days 41 = .ok (.aload_n 0, 1) := db2_103.2.2.2.2.2.2.2.1
theorem dX3_days_42 : decode cX3_days 42 = .ok (.iload_n 1, 1) := db2_103.2.2.2.2.2.2.2.2.1
theorem dX3_days_43 : decode cX3_days 43 = .ok (.invokevirtual 85, 3) := db2_103.2.2.2.2.2.2.2.2.2.1
theorem dX3_days_46 : decode cX3_days 46 = .ok (.goto 4, 3) := db2_103.2.2.2.2.2.2.2.2.2.2.1
theorem dX3_days_49 : decode cX3_days 49 = .ok (.iconst 0, 1) := db2_103.2.2.2.2.2.2.2.2.2.2.2.1
theorem dX3_days_50 : decode cX3_days 50 = .ok (.ireturn, 1) := db2_103.2.2.2.2.2.2.2.2.2.2.2.2
theorem db2_104 : (decode cX3_cycles 0 = .ok (.aload_n 0, 1)) ∧ (decode cX3_cycles 1 = .ok (.iload_n 1, 1)) ∧ (decode cX3_cycles 2 = .ok (.invokestatic 31, 3)) ∧ (decode cX3_cycles 5 = .ok (.iload_n 2, 1)) ∧ (decode cX3_cycles 6 = .ok (.bipush (-60), 2)) ∧ (decode cX3_cycles 8 = .ok (.bipush 60, 2)) ∧ (decode cX3_cycles 10 = .ok (.invokestatic 27, 3)) ∧ (decode cX3_cycles 13 = .ok (.iconst 0, 1)) ∧ (decode cX3_cycles 14 = .ok (.invokevirtual 77, 3)) ∧ (decode cX3_cycles 17 = .ok (.ifCond .eq 5, 3)) ∧ (decode cX3_cycles 20 = .ok (.iconst 0, 1)) ∧ (decode cX3_cycles 21 = .ok (.ireturn, 1)) ∧ (decode cX3_cycles 22 = .ok (.aload_n 0, 1)) ∧ (decode cX3_cycles 23 = .ok (.iload_n 1, 1)) ∧ (decode cX3_cycles 24 = .ok (.aload_n 0, 1)) ∧ (decode cX3_cycles 25 = .ok (.getfield 11, 3)) := by decide +kernel
theorem dX3_cycles_0 : decode cX3_cycles 0 = .ok (.aload_n 0, 1) := db2_104.1
theorem dX3_cycles_1 : decode cX3_cycles 1 = .ok (.iload_n 1, 1) := db2_104.2.1
theorem dX3_cycles_2 : decode cX3_cycles 2 = .ok (.invokestatic 31, 3) := db2_104.2.2.1
theorem dX3_cycles_5 : decode cX3_cycles 5 = .ok (.iload_n 2, 1) := db2_104.2.2.2.1
theorem dX3_cycles_6 : decode cX3_cycles 6 = .ok (.bipush (-60), 2) := db2_104.2.2.2.2.1
theorem dX3_cycles_8 : decode cX3_cycles 8 = .ok (.bipush 60, 2) := db2_104.2.2.2.2.2.1
theorem dX3_cycles_10 : decode cX3_cycles 10 = .ok (.invokestatic 27, 3) := db2_104.2.2.2.2.2.2.1
theorem dX3_cycles_13 : decode cX3_cycles 13 = .ok (.iconst 0, 1) := db2_104.2.2.2.2.2.2.2.1
theorem dX3_cycles_14 : decode cX3_cycles 14 = .ok (.invokevirtual 77, 3) := db2_104.2.2.2.2.2.2.2.2.1
theorem dX3_cycles_17 : decode cX3_cycles 17 = .ok (.ifCond .eq 5, 3) := db2_104.2.2.2.2.2.2.2.2.2.1
theorem dX3_cycles_20 : decode cX3_cycles 20 = .ok (.iconst 0, 1) := db2_104.2.2.2.2.2.2.2.2.2.2.1
theorem dX3_cycles_21 : decode cX3_cycles 21 = .ok (.ireturn, 1) := db2_104.2.2.2.2.2.2.2.2.2.2.2.1
theorem dX3_cycles_22 : decode cX3_cycles 22 = .ok (.aload_n 0, 1) := db2_104.2.2.2.2.2.2.2.2.2.2.2.2.1
theorem dX3_cycles_23 : decode cX3_cycles 23 = .ok (.iload_n 1, 1) := db2_104.2.2.2.2.2.2.2.2.2.2.2.2.2.1
theorem dX3_cycles_24 : decode cX3_cycles 24 = .ok (.aload_n 0, 1) := db2_104.2.2.2.2.2.2.2.2.2.2.2.2.2.2.1
theorem dX3_cycles_25 : decode cX3_cycles 25 = .ok (.getfield 11, 3) := db2_104.2.2.2.2.2.2.2.2.2.2.2.2.2.2.2
theorem db2_105 : (decode cX3_cycles 28 = .ok (.iload_n 1, 1)) ∧ (decode cX3_cycles 29 = .ok (.aaload, 1)) ∧ (decode cX3_cycles 30 = .ok (.sipush 4800, 3)) ∧ (decode cX3_cycles 33 = .ok (.iload_n 2, 1)) ∧ (decode cX3_cycles 34 = .ok (.imul, 1)) ∧ (decode cX3_cycles 35 = .ok (.invokestatic 99, 3)) ∧ (decode cX3_cycles 38 = .ok (.iconst 3, 1)) ∧ (decode cX3_cycles 39 = .ok (.invokevirtual 81, 3)) ∧ (decode cX3_cycles 42 = .ok (.ifCond .eq 11, 3)) ∧ (decode cX3_cycles 45 = .ok (.aload_n 0, 1)) ∧ (decode cX3_cycles 46 = .ok (.iload_n 1, 1)) ∧ (decode cX3_cycles 47 = .ok (.invokevirtual 85, 3)) ∧ (decode cX3_cycles 50 = .ok (.goto 4, 3)) ∧ (decode cX3_cycles 53 = .ok (.iconst 0, 1)) ∧ (decode cX3_cycles 54 = .ok (.ireturn, 1)) := by decide +kernel
theorem dX3_cycles_28 : decode cX3_cycles 28 = .ok (.iload_n 1, 1) := db2_105.1
theorem dX3_cycles_29 : decode cX3_cycles 29 = .ok (.aaload, 1) := db2_105.2.1
theorem dX3_cycles_30 : decode cX3_cycles 30 = .ok (.sipush 4800, 3) := db2_105.2.2.1
theorem dX3_cycles_33 : decode cX3_cycles 33 = .ok (.iload_n 2, 1) := db2_105.2.2.2.1
theorem dX3_cycles_34 : decode cX3_cycles 34 = .ok (.imul, 1) := db2_105.2.2.2.2.1
theorem dX3_cycles_35 : decode cX3_cycles 35 = .ok (.invokestatic 99, 3) := db2_105.2.2.2.2.2.1
theorem dX3_cycles_38 : decode cX3_cycles 38 = .ok (.iconst 3, 1) := db2_105.2.2.2.2.2.2.1
theorem dX3_cycles_39 : decode cX3_cycles 39 = .ok (.invokevirtual 81, 3) := db2_105.2.2.2.2.2.2.2.1
theorem dX3_cycles_42 : decode cX3_cycles 42 = .ok (.ifCond .eq 11, 3) := db2_105.2.2.2.2.2.2.2.2.1
theorem dX3_cycles_45 : decode cX3_cycles 45 = .ok (.aload_n 0, 1) := db2_105.2.2.2.2.2.2.2.2.2.1
theorem dX3_cycles_46 : decode cX3_cycles 46 = .ok (.iload_n 1, 1) := db2_105.2.2.2.2.2.2.2.2.2.2.1
theorem dX3_cycles_47 : decode cX3_cycles 47 = .ok (.invokevirtual 85, 3) := db2_105.2.2.2.2.2.2.2.2.2.2.2.1
theorem dX3_cycles_50 : decode cX3_cycles 50 = .ok (.goto 4, 3) := db2_105.2.2.2.2.2.2.2.2.2.2.2.2.1
theorem dX3_cycles_53 : decode cX3_cycles 53 = .ok (.iconst 0, 1) := db2_105.2.2.2.2.2.2.2.2.2.2.2.2.2.1
theorem dX3_cycles_54 : decode cX3_cycles 54 = .ok (.ireturn, 1) := db2_105.2.2.2.2.2.2.2.2.2.2.2.2.2.2
theorem db2_106 : (decode cX3_all 0 = .ok (.bipush 12, 2)) ∧ (decode cX3_all 2 = .ok (.aload_n 0, 1)) ∧ (decode cX3_all 3 = .ok (.getfield 16, 3)) ∧ (decode cX3_all 6 = .ok (.iload_n 1, 1)) ∧ (decode cX3_all 7 = .ok (.aaload, 1)) ∧ (decode cX3_all 8 = .ok (.iconst 0, 1)) ∧ (decode cX3_all 9 = .ok (.iaload, 1)) ∧ (decode cX3_all 10 = .ok (.imul, 1)) ∧ (decode cX3_all 11 = .ok (.aload_n 0, 1)) ∧ (decode cX3_all 12 = .ok (.getfield 16, 3)) ∧ (decode cX3_all 15 = .ok (.iload_n 1, 1)) ∧ (decode cX3_all 16 = .ok (.aaload, 1)) ∧ (decode cX3_all 17 = .ok (.iconst 1, 1)) ∧ (decode cX3_all 18 = .ok (.iaload, 1)) ∧ (decode cX3_all 19 = .ok (.iadd, 1)) ∧ (decode cX3_all 20 = .ok (.ireturn, 1)) := by decide +kernel
theorem dX3_all_0 : decode cX3_all 0 = .ok (.bipush 12, 2) := db2_106.1
theorem dX3_all_2 : decode cX3_all 2 = .ok (.aload_n 0, 1) := db2_106.2.1
theorem dX3_all_3 : decode cX3_all 3 = .ok (.getfield 16, 3) := db2_106.2.2.1
theorem dX3_all_6 : decode cX3_all 6 = .ok (.iload_n 1, 1) := db2_106.2.2.2.1
theorem dX3_all_7 : decode cX3_all 7 = .ok (.aaload, 1) := db2_106.2.2.2.2.1
theorem dX3_all_8 : decode cX3_all 8 = .ok (.iconst 0, 1) := db2_106.2.2.2.2.2.1
theorem dX3_all_9 : decode cX3_all 9 = .ok (.iaload, 1) := db2_106.2.2.2.2.2.2.1
theorem dX3_all_10 : decode cX3_all 10 = .ok (.imul, 1) := db2_106.2.2.2.2.2.2.2.1
theorem dX3_all_11 : decode cX3_all 11 = .ok (.aload_n 0, 1) := db2_106.2.2.2.2.2.2.2.2.1
theorem dX3_all_12 : decode cX3_all 12 = .ok (.getfield 16, 3) := db2_106.2.2.2.2.2.2.2.2.2.1
theorem dX3_all_15 : decode cX3_all 15 = .ok (.iload_n 1, 1) := db2_106.2.2.2.2.2.2.2.2.2.2.1
theorem dX3_all_16 : decode cX3_all 16 = .ok (.aaload, 1) := db2_106.2.2.2.2.2.2.2.2.2.2.2.1
theorem dX3_all_17 : decode cX3_all 17 = .ok (.iconst 1, 1) := db2_106.2.2.2.2.2.2.2.2.2.2.2.2.1
theorem dX3_all_18 : decode cX3_all 18 = .ok (.iaload, 1) := db2_106.2.2.2.2.2.2.2.2.2.2.2.2.2.1
theorem dX3_all_19 : decode cX3_all 19 = .ok (.iadd, 1) := db2_106.2.2.2.2.2.2.2.2.2.2.2.2.2.2.1
theorem dX3_all_20 : decode cX3_all 20 = .ok (.ireturn, 1) := db2_106.2.2.2.2.2.2.2.2.2.2.2.2.2.2.2
theorem db2_107 : (decode cX3_acted 0 = .ok (.iload 4, 2)) ∧ (decode cX3_acted 2 = .ok (.aload_n 0, 1)) ∧ (decode cX3_acted 3 = .ok (.iload_n 2, 1)) ∧ (decode cX3_acted 4 = .ok (.invokevirtual 108, 3)) ∧ (decode cX3_acted 7 = .ok (.imul, 1)) ∧ (decode cX3_acted 8 = .ok (.istore 5, 2)) ∧ (decode cX3_acted 10 = .ok (.iload 4, 2)) ∧ (decode cX3_acted 12 = .ok (.aload_n 0, 1)) ∧ (decode cX3_acted 13 = .ok (.getfield 16, 3)) ∧ (decode cX3_acted 16 = .ok (.iload_n 2, 1)) ∧ (decode cX3_acted 17 = .ok (.aaload, 1)) ∧ (decode cX3_acted 18 = .ok (.iconst 2, 1)) ∧ (decode cX3_acted 19 = .ok (.iaload, 1)) ∧ (decode cX3_acted 20 = .ok (.imul, 1)) ∧ (decode cX3_acted 21 = .ok (.istore 6, 2)) ∧ (decode cX3_acted 23 = .ok (.iload_n 3, 1)) := by decide +kernel
theorem dX3_acted_0 : decode cX3_acted 0 = .ok (.iload 4, 2) := db2_107.1
theorem dX3_acted_2 : decode cX3_acted 2 = .ok (.aload_n 0, 1) := db2_107.2.1
theorem dX3_acted_3 : decode cX3_acted 3 = .ok (.iload_n 2, 1) := db2_107.2.2.1
theorem dX3_acted_4 : decode cX3_acted 4 = .ok (.invokevirtual 108, 3) := db2_107.2.2.2.1
theorem dX3_acted_7 : decode cX3_acted 7 = .ok (.imul, 1) := db2_107.2.2.2.2.1
theorem dX3_acted_8 : decode cX3_acted 8 = .ok (.istore 5, 2) := db2_107.2.2.2.2.2.1
theorem dX3_acted_10 : decode cX3_acted 10 = .ok (.iload 4, 2) := db2_107.2.2.2.2.2.2.1
theorem dX3_acted_12 : decode cX3_acted 12 = .ok (.aload_n 0, 1) := db2_107.2.2.2.2.2.2.2.1
theorem dX3_acted_13 : decode cX3_acted 13 = .ok (.getfield 16, 3) := db2_107.2.2.2.2.2.2.2.2.1
theorem dX3_acted_16 : decode cX3_acted 16 = .ok (.iload_n 2, 1) := db2_107.2.2.2.2.2.2.2.2.2.1
theorem dX3_acted_17 : decode cX3_acted 17 = .ok (.aaload, 1) := db2_107.2.2.2.2.2.2.2.2.2.2.1
theorem dX3_acted_18 : decode cX3_acted 18 = .ok (.iconst 2, 1) := db2_107.2.2.2.2.2.2.2.2.2.2.2.1
theorem dX3_acted_19 : decode cX3_acted 19 = .ok (.iaload, 1) := db2_107.2.2.2.2.2.2.2.2.2.2.2.2.1
theorem dX3_acted_20 : decode cX3_acted 20 = .ok (.imul, 1) := db2_107.2.2.2.2.2.2.2.2.2.2.2.2.2.1
theorem dX3_acted_21 : decode cX3_acted 21 = .ok (.istore 6, 2) := db2_107.2.2.2.2.2.2.2.2.2.2.2.2.2.2.1
theorem dX3_acted_23 : decode cX3_acted 23 = .ok (.iload_n 3, 1) := db2_107.2.2.2.2.2.2.2.2.2.2.2.2.2.2.2
theorem db2_108 : (decode cX3_acted 24 = .ok (.ifCond .eq 17, 3)) ∧ (decode cX3_acted 27 = .ok (.aload_n 1, 1)) ∧ (decode cX3_acted 28 = .ok (.iload 6, 2)) ∧ (decode cX3_acted 30 = .ok (.invokestatic 105, 3)) ∧ (decode cX3_acted 33 = .ok (.iload 5, 2)) ∧ (decode cX3_acted 35 = .ok (.invokestatic 99, 3)) ∧ (decode cX3_acted 38 = .ok (.goto 14, 3)) ∧ (decode cX3_acted 41 = .ok (.aload_n 1, 1)) ∧ (decode cX3_acted 42 = .ok (.iload 5, 2)) ∧ (decode cX3_acted 44 = .ok (.invokestatic 99, 3)) ∧ (decode cX3_acted 47 = .ok (.iload 6, 2)) ∧ (decode cX3_acted 49 = .ok (.invokestatic 105, 3)) ∧ (decode cX3_acted 52 = .ok (.areturn, 1)) := by decide +kernel
theorem dX3_acted_24 : decode cX3_acted 24 = .ok (.ifCond .eq 17, 3) := db2_108.1
theorem dX3_acted_27 : decode cX3_acted 27 = .ok (.aload_n 1, 1) := db2_108.2.1
theorem dX3_acted_28 : decode cX3_acted 28 = .ok (.iload 6, 2) := db2_108.2.2.1
theorem dX3_acted_30 : decode cX3_acted 30 = .ok (.invokestatic 105, 3) := db2_108.2.2.2.1
theorem dX3_acted_33 : decode cX3_acted 33 = .ok (.iload 5, 2) := db2_108.2.2.2.2.1
theorem dX3_acted_35 : decode cX3_acted 35 = .ok (.invokestatic 99, 3) := db2_108.2.2.2.2.2.1
theorem dX3_acted_38 : decode cX3_acted 38 = .ok (.goto 14, 3) := db2_108.2.2.2.2.2.2.1
theorem dX3_acted_41 : decode cX3_acted 41 = .ok (.aload_n 1, 1) := db2_108.2.2.2.2.2.2.2.1
theorem dX3_acted_42 : decode cX3_acted 42 = .ok (.iload 5, 2) := db2_108.2.2.2.2.2.2.2.2.1
theorem dX3_acted_44 : decode cX3_acted 44 = .ok (.invokestatic 99, 3) := db2_108.2.2.2.2.2.2.2.2.2.1
theorem dX3_acted_47 : decode cX3_acted 47 = .ok (.iload 6, 2) := db2_108.2.2.2.2.2.2.2.2.2.2.1
theorem dX3_acted_49 : decode cX3_acted 49 = .ok (.invokestatic 105, 3) := db2_108.2.2.2.2.2.2.2.2.2.2.2.1
theorem dX3_acted_52 : decode cX3_acted 52 = .ok (.areturn, 1) := db2_108.2.2.2.2.2.2.2.2.2.2.2.2
theorem db2_109 : (decode cX3_act 0 = .ok (.aload_n 0, 1)) ∧ (decode cX3_act 1 = .ok (.iload_n 1, 1)) ∧ (decode cX3_act 2 = .ok (.invokestatic 31, 3)) ∧ (decode cX3_act 5 = .ok (.ifCond .ne 10, 3)) ∧ (decode cX3_act 8 = .ok (.iload_n 2, 1)) ∧ (decode cX3_act 9 = .ok (.invokestatic 111, 3)) ∧ (decode cX3_act 12 = .ok (.ifCond .eq 7, 3)) ∧ (decode cX3_act 15 = .ok (.iconst 1, 1)) ∧ (decode cX3_act 16 = .ok (.goto 4, 3)) ∧ (decode cX3_act 19 = .ok (.iconst 0, 1)) ∧ (decode cX3_act 20 = .ok (.iconst 0, 1)) ∧ (decode cX3_act 21 = .ok (.iconst 0, 1)) ∧ (decode cX3_act 22 = .ok (.invokevirtual 77, 3)) ∧ (decode cX3_act 25 = .ok (.ifCond .eq 5, 3)) ∧ (decode cX3_act 28 = .ok (.iconst 0, 1)) ∧ (decode cX3_act 29 = .ok (.ireturn, 1)) := by decide +kernel
theorem dX3_act_0 : decode cX3_act 0 = .ok (.aload_n 0, 1) := db2_109.1
theorem dX3_act_1 : decode cX3_act 1 = .ok (.iload_n 1, 1) := db2_109.2.1
theorem dX3_act_2 : decode cX3_act 2 = .ok (.invokestatic 31, 3) := db2_109.2.2.1
theorem dX3_act_5 : decode cX3_act 5 = .ok (.ifCond .ne 10, 3) := db2_109.2.2.2.1
theorem dX3_act_8 : decode cX3_act 8 = .ok (.iload_n 2, 1) := db2_109.2.2.2.2.1
theorem dX3_act_9 : decode cX3_act 9 = .ok (.invokestatic 111, 3) := db2_109.2.2.2.2.2.1
theorem dX3_act_12 : decode cX3_act 12 = .ok (.ifCond .eq 7, 3) := db2_109.2.2.2.2.2.2.1
theorem dX3_act_15 : decode cX3_act 15 = .ok (.iconst 1, 1) := db2_109.2.2.2.2.2.2.2.1
theorem dX3_act_16 : decode cX3_act 16 = .ok (.goto 4, 3) := db2_109.2.2.2.2.2.2.2.2.1
theorem dX3_act_19 : decode cX3_act 19 = .ok (.iconst 0, 1) := db2_109.2.2.2.2.2.2.2.2.2.1
theorem dX3_act_20 : decode cX3_act 20 = .ok (.iconst 0, 1) := db2_109.2.2.2.2.2.2.2.2.2.2.1
theorem dX3_act_21 : decode cX3_act 21 = .ok (.iconst 0, 1) := db2_109.2.2.2.2.2.2.2.2.2.2.2.1
theorem dX3_act_22 : decode cX3_act 22 = .ok (.invokevirtual 77, 3) := db2_109.2.2.2.2.2.2.2.2.2.2.2.2.1
theorem dX3_act_25 : decode cX3_act 25 = .ok (.ifCond .eq 5, 3) := db2_109.2.2.2.2.2.2.2.2.2.2.2.2.2.1
theorem dX3_act_28 : decode cX3_act 28 = .ok (.iconst 0, 1) := db2_109.2.2.2.2.2.2.2.2.2.2.2.2.2.2.1
theorem dX3_act_29 : decode cX3_act 29 = .ok (.ireturn, 1) := db2_109.2.2.2.2.2.2.2.2.2.2.2.2.2.2.2
theorem db2_110 : (decode cX3_act 30 = .ok (.aload_n 0, 1)) ∧ (decode cX3_act 31 = .ok (.iload_n 1, 1)) ∧ (decode cX3_act 32 = .ok (.aload_n 0, 1)) ∧ (decode cX3_act 33 = .ok (.aload_n 0, 1)) ∧ (decode cX3_act 34 = .ok (.getfield 11, 3)) ∧ (decode cX3_act 37 = .ok (.iload_n 1, 1)) ∧ (decode cX3_act 38 = .ok (.aaload, 1)) ∧ (decode cX3_act 39 = .ok (.iload_n 2, 1)) ∧ (decode cX3_act 40 = .ok (.iload_n 3, 1)) ∧ (decode cX3_act 41 = .ok (.iload 4, 2)) ∧ (decode cX3_act 43 = .ok (.ifCond .eq 7, 3)) ∧ (decode cX3_act 46 = .ok (.iconst (-1), 1)) ∧ (decode cX3_act 47 = .ok (.goto 4, 3)) ∧ (decode cX3_act 50 = .ok (.iconst 1, 1)) ∧ (decode cX3_act 51 = .ok (.invokevirtual 114, 3)) ∧ (decode cX3_act 54 = .ok (.iconst 2, 1)) := by decide +kernel
theorem dX3_act_30 : decode cX3_act 30 = .ok (.aload_n 0, 1) := db2_110.1
theorem dX3_act_31 : decode cX3_act 31 = .ok (.iload_n 1, 1) := db2_110.2.1
theorem dX3_act_32 : decode cX3_act 32 = .ok (.aload_n 0, 1) := db2_110.2.2.1
theorem dX3_act_33 : decode cX3_act 33 = .ok (.aload_n 0, 1) := db2_110.2.2.2.1
theorem dX3_act_34 : decode cX3_act 34 = .ok (.getfield 11, 3) := db2_110.2.2.2.2.1
theorem dX3_act_37 : decode cX3_act 37 = .ok (.iload_n 1, 1) := db2_110.2.2.2.2.2.1
theorem dX3_act_38 : decode cX3_act 38 = .ok (.aaload, 1) := db2_110.2.2.2.2.2.2.1
theorem dX3_act_39 : decode cX3_act 39 = .ok (.iload_n 2, 1) := db2_110.2.2.2.2.2.2.2.1
theorem dX3_act_40 : decode cX3_act 40 = .ok (.iload_n 3, 1) := db2_110.2.2.2.2.2.2.2.2.1
theorem dX3_act_41 : decode cX3_act 41 = .ok (.iload 4, 2) := db2_110.2.2.2.2.2.2.2.2.2.1
theorem dX3_act_43 : decode cX3_act 43 = .ok (.ifCond .eq 7, 3) := db2_110.2.2.2.2.2.2.2.2.2.2.1
theorem dX3_act_46 : decode cX3_act 46 = .ok (.iconst (-1), 1) := db2_110.2.2.2.2.2.2.2.2.2.2.2.1
theorem dX3_act_47 : decode cX3_act 47 = .ok (.goto 4, 3) := db2_110.2.2.2.2.2.2.2.2.2.2.2.2.1
theorem dX3_act_50 : decode cX3_act 50 = .ok (.iconst 1, 1) := db2_110.2.2.2.2.2.2.2.2.2.2.2.2.2.1
theorem dX3_act_51 : decode cX3_act 51 = .ok (.invokevirtual 114, 3) := db2_110.2.2.2.2.2.2.2.2.2.2.2.2.2.2.1
theorem dX3_act_54 : decode cX3_act 54 = .ok (.iconst 2, 1) := db2_110.2.2.2.2.2.2.2.2.2.2.2.2.2.2.2
theorem db2_111 : (decode cX3_act 55 = .ok (.invokevirtual 81, 3)) ∧ (decode cX3_act 58 = .ok (.ifCond .eq 11, 3)) ∧ (decode cX3_act 61 = .ok (.aload_n 0, 1)) ∧ (decode cX3_act 62 = .ok (.iload_n 1, 1)) ∧ (decode cX3_act 63 = .ok (.invokevirtual 85, 3)) ∧ (decode cX3_act 66 = .ok (.goto 4, 3)) ∧ (decode cX3_act 69 = .ok (.iconst 0, 1)) ∧ (decode cX3_act 70 = .ok (.ireturn, 1)) := by decide +kernel
theorem dX3_act_55 : decode cX3_act 55 = .ok (.invokevirtual 81, 3) := db2_111.1
theorem dX3_act_58 : decode cX3_act 58 = .ok (.ifCond .eq 11, 3) := db2_111.2.1
theorem dX3_act_61 : decode cX3_act 61 = .ok (.aload_n 0, 1) := db2_111.2.2.1
theorem dX3_act_62 : decode cX3_act 62 = .ok (.iload_n 1, 1) := db2_111.2.2.2.1
theorem dX3_act_63 : decode cX3_act 63 = .ok (.invokevirtual 85, 3) := db2_111.2.2.2.2.1
theorem dX3_act_66 : decode cX3_act 66 = .ok (.goto 4, 3) := db2_111.2.2.2.2.2.1
theorem dX3_act_69 : decode cX3_act 69 = .ok (.iconst 0, 1) := db2_111.2.2.2.2.2.2.1
theorem dX3_act_70 : decode cX3_act 70 = .ok (.ireturn, 1) := db2_111.2.2.2.2.2.2.2
theorem db2_112 : (decode cX3_actOften 0 = .ok (.aload_n 0, 1)) ∧ (decode cX3_actOften 1 = .ok (.iload_n 1, 1)) ∧ (decode cX3_actOften 2 = .ok (.invokestatic 31, 3)) ∧ (decode cX3_actOften 5 = .ok (.ifCond .ne 10, 3)) ∧ (decode cX3_actOften 8 = .ok (.iload_n 2, 1)) ∧ (decode cX3_actOften 9 = .ok (.invokestatic 111, 3)) ∧ (decode cX3_actOften 12 = .ok (.ifCond .eq 7, 3)) ∧ (decode cX3_actOften 15 = .ok (.iconst 1, 1)) ∧ (decode cX3_actOften 16 = .ok (.goto 4, 3)) ∧ (decode cX3_actOften 19 = .ok (.iconst 0, 1)) ∧ (decode cX3_actOften 20 = .ok (.iload_n 3, 1)) ∧ (decode cX3_actOften 21 = .ok (.iconst 0, 1)) ∧ (decode cX3_actOften 22 = .ok (.bipush 24, 2)) ∧ (decode cX3_actOften 24 = .ok (.invokestatic 27, 3)) ∧ (decode cX3_actOften 27 = .ok (.iconst 0, 1)) ∧ (decode cX3_actOften 28 = .ok (.invokevirtual 77, 3)) := by decide +kernel
theorem dX3_actOften_0 : decode cX3_actOften 0 = .ok (.aload_n 0, 1) := db2_112.1
theorem dX3_actOften_1 : decode cX3_actOften 1 = .ok (.iload_n 1, 1) := db2_112.2.1
theorem dX3_actOften_2 : decode cX3_actOften 2 = .ok (.invokestatic 31, 3) := db2_112.2.2.1
theorem dX3_actOften_5 : decode cX3_actOften 5 = .ok (.ifCond .ne 10, 3) := db2_112.2.2.2.1
theorem dX3_actOften_8 : decode cX3_actOften 8 = .ok (.iload_n 2, 1) := db2_112.2.2.2.2.1
theorem dX3_actOften_9 : decode cX3_actOften 9 = .ok (.invokestatic 111, 3) := db2_112.2.2.2.2.2.1
theorem dX3_actOften_12 : decode cX3_actOften 12 = .ok (.ifCond .eq 7, 3) := db2_112.2.2.2.2.2.2.1
theorem dX3_actOften_15 : decode cX3_actOften 15 = .ok (.iconst 1, 1) := db2_112.2.2.2.2.2.2.2.1
theorem dX3_actOften_16 : decode cX3_actOften 16 = .ok (.goto 4, 3) := db2_112.2.2.2.2.2.2.2.2.1
theorem dX3_actOften_19 : decode cX3_actOften 19 = .ok (.iconst 0, 1) := db2_112.2.2.2.2.2.2.2.2.2.1
theorem dX3_actOften_20 : decode cX3_actOften 20 = .ok (.iload_n 3, 1) := db2_112.2.2.2.2.2.2.2.2.2.2.1
theorem dX3_actOften_21 : decode cX3_actOften 21 = .ok (.iconst 0, 1) := db2_112.2.2.2.2.2.2.2.2.2.2.2.1
theorem dX3_actOften_22 : decode cX3_actOften 22 = .ok (.bipush 24, 2) := db2_112.2.2.2.2.2.2.2.2.2.2.2.2.1
theorem dX3_actOften_24 : decode cX3_actOften 24 = .ok (.invokestatic 27, 3) := db2_112.2.2.2.2.2.2.2.2.2.2.2.2.2.1
theorem dX3_actOften_27 : decode cX3_actOften 27 = .ok (.iconst 0, 1) := db2_112.2.2.2.2.2.2.2.2.2.2.2.2.2.2.1
theorem dX3_actOften_28 : decode cX3_actOften 28 = .ok (.invokevirtual 77, 3) := db2_112.2.2.2.2.2.2.2.2.2.2.2.2.2.2.2
theorem db2_113 : (decode cX3_actOften 31 = .ok (.ifCond .eq 5, 3)) ∧ (decode cX3_actOften 34 = .ok (.iconst 0, 1)) ∧ (decode cX3_actOften 35 = .ok (.ireturn, 1)) ∧ (decode cX3_actOften 36 = .ok (.aload_n 0, 1)) ∧ (decode cX3_actOften 37 = .ok (.getfield 11, 3)) ∧ (decode cX3_actOften 40 = .ok (.iload_n 1, 1)) ∧ (decode cX3_actOften 41 = .ok (.aaload, 1)) ∧ (decode cX3_actOften 42 = .ok (.astore 4, 2)) ∧ (decode cX3_actOften 44 = .ok (.iconst 0, 1)) ∧ (decode cX3_actOften 45 = .ok (.istore 5, 2)) ∧ (decode cX3_actOften 47 = .ok (.iload 5, 2)) ∧ (decode cX3_actOften 49 = .ok (.iload_n 3, 1)) ∧ (decode cX3_actOften 50 = .ok (.if_icmp .ge 20, 3)) ∧ (decode cX3_actOften 53 = .ok (.aload_n 0, 1)) ∧ (decode cX3_actOften 54 = .ok (.aload 4, 2)) ∧ (decode cX3_actOften 56 = .ok (.iload_n 2, 1)) := by decide +kernel
theorem dX3_actOften_31 : decode cX3_actOften 31 = .ok (.ifCond .eq 5, 3) := db2_113.1
theorem dX3_actOften_34 : decode cX3_actOften 34 = .ok (.iconst 0, 1) := db2_113.2.1
theorem dX3_actOften_35 : decode cX3_actOften 35 = .ok (.ireturn, 1) := db2_113.2.2.1
theorem dX3_actOften_36 : decode cX3_actOften 36 = .ok (.aload_n 0, 1) := db2_113.2.2.2.1
theorem dX3_actOften_37 : decode cX3_actOften 37 = .ok (.getfield 11, 3) := db2_113.2.2.2.2.1
theorem dX3_actOften_40 : decode cX3_actOften 40 = .ok (.iload_n 1, 1) := db2_113.2.2.2.2.2.1
theorem dX3_actOften_41 : decode cX3_actOften 41 = .ok (.aaload, 1) := db2_113.2.2.2.2.2.2.1
theorem dX3_actOften_42 : decode cX3_actOften 42 = .ok (.astore 4, 2) := db2_113.2.2.2.2.2.2.2.1
theorem dX3_actOften_44 : decode cX3_actOften 44 = .ok (.iconst 0, 1) := db2_113.2.2.2.2.2.2.2.2.1
theorem dX3_actOften_45 : decode cX3_actOften 45 = .ok (.istore 5, 2) := db2_113.2.2.2.2.2.2.2.2.2.1
theorem dX3_actOften_47 : decode cX3_actOften 47 = .ok (.iload 5, 2) := db2_113.2.2.2.2.2.2.2.2.2.2.1
theorem dX3_actOften_49 : decode cX3_actOften 49 = .ok (.iload_n 3, 1) := db2_113.2.2.2.2.2.2.2.2.2.2.2.1
theorem dX3_actOften_50 : decode cX3_actOften 50 = .ok (.if_icmp .ge 20, 3) := db2_113.2.2.2.2.2.2.2.2.2.2.2.2.1
theorem dX3_actOften_53 : decode cX3_actOften 53 = .ok (.aload_n 0, 1) := db2_113.2.2.2.2.2.2.2.2.2.2.2.2.2.1
theorem dX3_actOften_54 : decode cX3_actOften 54 = .ok (.aload 4, 2) := db2_113.2.2.2.2.2.2.2.2.2.2.2.2.2.2.1
theorem dX3_actOften_56 : decode cX3_actOften 56 = .ok (.iload_n 2, 1) := db2_113.2.2.2.2.2.2.2.2.2.2.2.2.2.2.2
theorem db2_114 : (decode cX3_actOften 57 = .ok (.iconst 0, 1)) ∧ (decode cX3_actOften 58 = .ok (.iconst 1, 1)) ∧ (decode cX3_actOften 59 = .ok (.invokevirtual 114, 3)) ∧ (decode cX3_actOften 62 = .ok (.astore 4, 2)) ∧ (decode cX3_actOften 64 = .ok (.iinc 5 1, 3)) ∧ (decode cX3_actOften 67 = .ok (.goto (-20), 3)) ∧ (decode cX3_actOften 70 = .ok (.aload_n 0, 1)) ∧ (decode cX3_actOften 71 = .ok (.iload_n 1, 1)) ∧ (decode cX3_actOften 72 = .ok (.aload 4, 2)) ∧ (decode cX3_actOften 74 = .ok (.iconst 3, 1)) ∧ (decode cX3_actOften 75 = .ok (.invokevirtual 81, 3)) ∧ (decode cX3_actOften 78 = .ok (.ifCond .eq 11, 3)) ∧ (decode cX3_actOften 81 = .ok (.aload_n 0, 1)) ∧ (decode cX3_actOften 82 = .ok (.iload_n 1, 1)) ∧ (decode cX3_actOften 83 = .ok (.invokevirtual 85, 3)) ∧ (decode cX3_actOften 86 = .ok (.goto 4, 3)) := by decide +kernel
theorem dX3_actOften_57 : decode cX3_actOften 57 = .ok (.iconst 0, 1) := db2_114.1
theorem dX3_actOften_58 : decode cX3_actOften 58 = .ok (.iconst 1, 1) := db2_114.2.1
theorem dX3_actOften_59 : decode cX3_actOften 59 = .ok (.invokevirtual 114, 3) := db2_114.2.2.1
theorem dX3_actOften_62 : decode cX3_actOften 62 = .ok (.astore 4, 2) := db2_114.2.2.2.1
theorem dX3_actOften_64 : decode cX3_actOften 64 = .ok (.iinc 5 1, 3) := db2_114.2.2.2.2.1
theorem dX3_actOften_67 : decode cX3_actOften 67 = .ok (.goto (-20), 3) := db2_114.2.2.2.2.2.1
theorem dX3_actOften_70 : decode cX3_actOften 70 = .ok (.aload_n 0, 1) := db2_114.2.2.2.2.2.2.1
theorem dX3_actOften_71 : decode cX3_actOften 71 = .ok (.iload_n 1, 1) := db2_114.2.2.2.2.2.2.2.1
theorem dX3_actOften_72 : decode cX3_actOften 72 = .ok (.aload 4, 2) := db2_114.2.2.2.2.2.2.2.2.1
theorem dX3_actOften_74 : decode cX3_actOften 74 = .ok (.iconst 3, 1) := db2_114.2.2.2.2.2.2.2.2.2.1
theorem dX3_actOften_75 : decode cX3_actOften 75 = .ok (.invokevirtual 81, 3) := db2_114.2.2.2.2.2.2.2.2.2.2.1
theorem dX3_actOften_78 : decode cX3_actOften 78 = .ok (.ifCond .eq 11, 3) := db2_114.2.2.2.2.2.2.2.2.2.2.2.1
theorem dX3_actOften_81 : decode cX3_actOften 81 = .ok (.aload_n 0, 1) := db2_114.2.2.2.2.2.2.2.2.2.2.2.2.1
theorem dX3_actOften_82 : decode cX3_actOften 82 = .ok (.iload_n 1, 1) := db2_114.2.2.2.2.2.2.2.2.2.2.2.2.2.1
theorem dX3_actOften_83 : decode cX3_actOften 83 = .ok (.invokevirtual 85, 3) := db2_114.2.2.2.2.2.2.2.2.2.2.2.2.2.2.1
theorem dX3_actOften_86 : decode cX3_actOften 86 = .ok (.goto 4, 3) := db2_114.2.2.2.2.2.2.2.2.2.2.2.2.2.2.2
theorem db2_115 : (decode cX3_actOften 89 = .ok (.iconst 0, 1)) ∧ (decode cX3_actOften 90 = .ok (.ireturn, 1)) := by decide +kernel
theorem dX3_actOften_89 : decode cX3_actOften 89 = .ok (.iconst 0, 1) := db2_115.1
theorem dX3_actOften_90 : decode cX3_actOften 90 = .ok (.ireturn, 1) := db2_115.2
theorem db2_116 : (decode cX3_span 0 = .ok (.iconst 3, 1)) ∧ (decode cX3_span 1 = .ok (.newarray .int, 2)) ∧ (decode cX3_span 3 = .ok (.dup, 1)) ∧ (decode cX3_span 4 = .ok (.iconst 0, 1)) ∧ (decode cX3_span 5 = .ok (.iload_n 2, 1)) ∧ (decode cX3_span 6 = .ok (.iastore, 1)) ∧ (decode cX3_span 7 = .ok (.dup, 1)) ∧ (decode cX3_span 8 = .ok (.iconst 1, 1)) ∧ (decode cX3_span 9 = .ok (.iload_n 3, 1)) ∧ (decode cX3_span 10 = .ok (.iastore, 1)) ∧ (decode cX3_span 11 = .ok (.dup, 1)) ∧ (decode cX3_span 12 = .ok (.iconst 2, 1)) ∧ (decode cX3_span 13 = .ok (.iload 4, 2)) ∧ (decode cX3_span 15 = .ok (.iastore, 1)) ∧ (decode cX3_span 16 = .ok (.astore 5, 2)) ∧ (decode cX3_span 18 = .ok (.iconst 0, 1)) := by decide +kernel
theorem dX3_span_0 : decode cX3_span 0 = .ok (.iconst 3, 1) := db2_116.1
theorem dX3_span_1 : decode cX3_span 1 = .ok (.newarray .int, 2) := db2_116.2.1
theorem dX3_span_3 : decode cX3_span 3 = .ok (.dup, 1) := db2_116.2.2.1
theorem dX3_span_4 : decode cX3_span 4 = .ok (.iconst 0, 1) := db2_116.2.2.2.1
theorem dX3_span_5 : decode cX3_span 5 = .ok (.iload_n 2, 1) := db2_116.2.2.2.2.1
theorem dX3_span_6 : decode cX3_span 6 = .ok (.iastore, 1) := db2_116.2.2.2.2.2.1
theorem dX3_span_7 : decode cX3_span 7 = .ok (.dup, 1) := db2_116.2.2.2.2.2.2.1
theorem dX3_span_8 : decode cX3_span 8 = .ok (.iconst 1, 1) := db2_116.2.2.2.2.2.2.2.1
theorem dX3_span_9 : decode cX3_span 9 = .ok (.iload_n 3, 1) := db2_116.2.2.2.2.2.2.2.2.1
theorem dX3_span_10 : decode cX3_span 10 = .ok (.iastore, 1) := db2_116.2.2.2.2.2.2.2.2.2.1
theorem dX3_span_11 : decode cX3_span 11 = .ok (.dup, 1) := db2_116.2.2.2.2.2.2.2.2.2.2.1
theorem dX3_span_12 : decode cX3_span 12 = .ok (.iconst 2, 1) := db2_116.2.2.2.2.2.2.2.2.2.2.2.1
theorem dX3_span_13 : decode cX3_span 13 = .ok (.iload 4, 2) := db2_116.2.2.2.2.2.2.2.2.2.2.2.2.1
theorem dX3_span_15 : decode cX3_span 15 = .ok (.iastore, 1) := db2_116.2.2.2.2.2.2.2.2.2.2.2.2.2.1
theorem dX3_span_16 : decode cX3_span 16 = .ok (.astore 5, 2) := db2_116.2.2.2.2.2.2.2.2.2.2.2.2.2.2.1
theorem dX3_span_18 : decode cX3_span 18 = .ok (.iconst 0, 1) := db2_116.2.2.2.2.2.2.2.2.2.2.2.2.2.2.2
theorem db2_117 : (decode cX3_span 19 = .ok (.istore 6, 2)) ∧ (decode cX3_span 21 = .ok (.iconst 0, 1)) ∧ (decode cX3_span 22 = .ok (.istore 7, 2)) ∧ (decode cX3_span 24 = .ok (.iload 7, 2)) ∧ (decode cX3_span 26 = .ok (.iconst 3, 1)) ∧ (decode cX3_span 27 = .ok (.if_icmp .ge 35, 3)) ∧ (decode cX3_span 30 = .ok (.iload 6, 2)) ∧ (decode cX3_span 32 = .ok (.aload 5, 2)) ∧ (decode cX3_span 34 = .ok (.iload 7, 2)) ∧ (decode cX3_span 36 = .ok (.iaload, 1)) ∧ (decode cX3_span 37 = .ok (.getstatic 118, 3)) ∧ (decode cX3_span 40 = .ok (.iload 7, 2)) ∧ (decode cX3_span 42 = .ok (.iaload, 1)) ∧ (decode cX3_span 43 = .ok (.ineg, 1)) ∧ (decode cX3_span 44 = .ok (.getstatic 118, 3)) ∧ (decode cX3_span 47 = .ok (.iload 7, 2)) := by decide +kernel
theorem dX3_span_19 : decode cX3_span 19 = .ok (.istore 6, 2) := db2_117.1
theorem dX3_span_21 : decode cX3_span 21 = .ok (.iconst 0, 1) := db2_117.2.1
theorem dX3_span_22 : decode cX3_span 22 = .ok (.istore 7, 2) := db2_117.2.2.1
theorem dX3_span_24 : decode cX3_span 24 = .ok (.iload 7, 2) := db2_117.2.2.2.1
theorem dX3_span_26 : decode cX3_span 26 = .ok (.iconst 3, 1) := db2_117.2.2.2.2.1
theorem dX3_span_27 : decode cX3_span 27 = .ok (.if_icmp .ge 35, 3) := db2_117.2.2.2.2.2.1
theorem dX3_span_30 : decode cX3_span 30 = .ok (.iload 6, 2) := db2_117.2.2.2.2.2.2.1
theorem dX3_span_32 : decode cX3_span 32 = .ok (.aload 5, 2) := db2_117.2.2.2.2.2.2.2.1
theorem dX3_span_34 : decode cX3_span 34 = .ok (.iload 7, 2) := db2_117.2.2.2.2.2.2.2.2.1
theorem dX3_span_36 : decode cX3_span 36 = .ok (.iaload, 1) := db2_117.2.2.2.2.2.2.2.2.2.1
theorem dX3_span_37 : decode cX3_span 37 = .ok (.getstatic 118, 3) := db2_117.2.2.2.2.2.2.2.2.2.2.1
theorem dX3_span_40 : decode cX3_span 40 = .ok (.iload 7, 2) := db2_117.2.2.2.2.2.2.2.2.2.2.2.1
theorem dX3_span_42 : decode cX3_span 42 = .ok (.iaload, 1) := db2_117.2.2.2.2.2.2.2.2.2.2.2.2.1
theorem dX3_span_43 : decode cX3_span 43 = .ok (.ineg, 1) := db2_117.2.2.2.2.2.2.2.2.2.2.2.2.2.1
theorem dX3_span_44 : decode cX3_span 44 = .ok (.getstatic 118, 3) := db2_117.2.2.2.2.2.2.2.2.2.2.2.2.2.2.1
theorem dX3_span_47 : decode cX3_span 47 = .ok (.iload 7, 2) := db2_117.2.2.2.2.2.2.2.2.2.2.2.2.2.2.2
theorem db2_118 : (decode cX3_span 49 = .ok (.iaload, 1)) ∧ (decode cX3_span 50 = .ok (.invokestatic 27, 3)) ∧ (decode cX3_span 53 = .ok (.ior, 1)) ∧ (decode cX3_span 54 = .ok (.istore 6, 2)) ∧ (decode cX3_span 56 = .ok (.iinc 7 1, 3)) ∧ (decode cX3_span 59 = .ok (.goto (-35), 3)) ∧ (decode cX3_span 62 = .ok (.aload_n 0, 1)) ∧ (decode cX3_span 63 = .ok (.iload_n 1, 1)) ∧ (decode cX3_span 64 = .ok (.invokestatic 111, 3)) ∧ (decode cX3_span 67 = .ok (.iload 6, 2)) ∧ (decode cX3_span 69 = .ok (.iconst 0, 1)) ∧ (decode cX3_span 70 = .ok (.invokevirtual 77, 3)) ∧ (decode cX3_span 73 = .ok (.ifCond .eq 5, 3)) ∧ (decode cX3_span 76 = .ok (.iconst 0, 1)) ∧ (decode cX3_span 77 = .ok (.ireturn, 1)) ∧ (decode cX3_span 78 = .ok (.aload_n 0, 1)) := by decide +kernel
theorem dX3_span_49 : decode cX3_span 49 = .ok (.iaload, 1) := db2_118.1
theorem dX3_span_50 : decode cX3_span 50 = .ok (.invokestatic 27, 3) := db2_118.2.1
theorem dX3_span_53 : decode cX3_span 53 = .ok (.ior, 1) := db2_118.2.2.1
theorem dX3_span_54 : decode cX3_span 54 = .ok (.istore 6, 2) := db2_118.2.2.2.1
theorem dX3_span_56 : decode cX3_span 56 = .ok (.iinc 7 1, 3) := db2_118.2.2.2.2.1
theorem dX3_span_59 : decode cX3_span 59 = .ok (.goto (-35), 3) := db2_118.2.2.2.2.2.1
theorem dX3_span_62 : decode cX3_span 62 = .ok (.aload_n 0, 1) := db2_118.2.2.2.2.2.2.1
theorem dX3_span_63 : decode cX3_span 63 = .ok (.iload_n 1, 1) := db2_118.2.2.2.2.2.2.2.1
theorem dX3_span_64 : decode cX3_span 64 = .ok (.invokestatic 111, 3) := db2_118.2.2.2.2.2.2.2.2.1
theorem dX3_span_67 : decode cX3_span 67 = .ok (.iload 6, 2) := db2_118.2.2.2.2.2.2.2.2.2.1
theorem dX3_span_69 : decode cX3_span 69 = .ok (.iconst 0, 1) := db2_118.2.2.2.2.2.2.2.2.2.2.1
theorem dX3_span_70 : decode cX3_span 70 = .ok (.invokevirtual 77, 3) := db2_118.2.2.2.2.2.2.2.2.2.2.2.1
theorem dX3_span_73 : decode cX3_span 73 = .ok (.ifCond .eq 5, 3) := db2_118.2.2.2.2.2.2.2.2.2.2.2.2.1
theorem dX3_span_76 : decode cX3_span 76 = .ok (.iconst 0, 1) := db2_118.2.2.2.2.2.2.2.2.2.2.2.2.2.1
theorem dX3_span_77 : decode cX3_span 77 = .ok (.ireturn, 1) := db2_118.2.2.2.2.2.2.2.2.2.2.2.2.2.2.1
theorem dX3_span_78 : decode cX3_span 78 = .ok (.aload_n 0, 1) := db2_118.2.2.2.2.2.2.2.2.2.2.2.2.2.2.2
theorem db2_119 : (decode cX3_span 79 = .ok (.getfield 16, 3)) ∧ (decode cX3_span 82 = .ok (.iload_n 1, 1)) ∧ (decode cX3_span 83 = .ok (.aload 5, 2)) ∧ (decode cX3_span 85 = .ok (.aastore, 1)) ∧ (decode cX3_span 86 = .ok (.aload_n 0, 1)) ∧ (decode cX3_span 87 = .ok (.dup, 1)) ∧ (decode cX3_span 88 = .ok (.getfield 74, 3)) ∧ (decode cX3_span 91 = .ok (.iconst 1, 1)) ∧ (decode cX3_span 92 = .ok (.iadd, 1)) ∧ (decode cX3_span 93 = .ok (.putfield 74, 3)) ∧ (decode cX3_span 96 = .ok (.aload_n 0, 1)) ∧ (decode cX3_span 97 = .ok (.iload_n 1, 1)) ∧ (decode cX3_span 98 = .ok (.invokevirtual 108, 3)) ∧ (decode cX3_span 101 = .ok (.ireturn, 1)) := by decide +kernel
theorem dX3_span_79 : decode cX3_span 79 = .ok (.getfield 16, 3) := db2_119.1
theorem dX3_span_82 : decode cX3_span 82 = .ok (.iload_n 1, 1) := db2_119.2.1
theorem dX3_span_83 : decode cX3_span 83 = .ok (.aload 5, 2) := db2_119.2.2.1
theorem dX3_span_85 : decode cX3_span 85 = .ok (.aastore, 1) := db2_119.2.2.2.1
theorem dX3_span_86 : decode cX3_span 86 = .ok (.aload_n 0, 1) := db2_119.2.2.2.2.1
theorem dX3_span_87 : decode cX3_span 87 = .ok (.dup, 1) := db2_119.2.2.2.2.2.1
theorem dX3_span_88 : decode cX3_span 88 = .ok (.getfield 74, 3) := db2_119.2.2.2.2.2.2.1
theorem dX3_span_91 : decode cX3_span 91 = .ok (.iconst 1, 1) := db2_119.2.2.2.2.2.2.2.1
theorem dX3_span_92 : decode cX3_span 92 = .ok (.iadd, 1) := db2_119.2.2.2.2.2.2.2.2.1
theorem dX3_span_93 : decode cX3_span 93 = .ok (.putfield 74, 3) := db2_119.2.2.2.2.2.2.2.2.2.1
theorem dX3_span_96 : decode cX3_span 96 = .ok (.aload_n 0, 1) := db2_119.2.2.2.2.2.2.2.2.2.2.1
theorem dX3_span_97 : decode cX3_span 97 = .ok (.iload_n 1, 1) := db2_119.2.2.2.2.2.2.2.2.2.2.2.1
theorem dX3_span_98 : decode cX3_span 98 = .ok (.invokevirtual 108, 3) := db2_119.2.2.2.2.2.2.2.2.2.2.2.2.1
theorem dX3_span_101 : decode cX3_span 101 = .ok (.ireturn, 1) := db2_119.2.2.2.2.2.2.2.2.2.2.2.2.2
theorem db2_120 : (decode cX3_wholeOf 0 = .ok (.aload_n 1, 1)) ∧ (decode cX3_wholeOf 1 = .ok (.iconst 0, 1)) ∧ (decode cX3_wholeOf 2 = .ok (.iaload, 1)) ∧ (decode cX3_wholeOf 3 = .ok (.aload_n 0, 1)) ∧ (decode cX3_wholeOf 4 = .ok (.iconst 0, 1)) ∧ (decode cX3_wholeOf 5 = .ok (.iaload, 1)) ∧ (decode cX3_wholeOf 6 = .ok (.isub, 1)) ∧ (decode cX3_wholeOf 7 = .ok (.aload_n 1, 1)) ∧ (decode cX3_wholeOf 8 = .ok (.iconst 1, 1)) ∧ (decode cX3_wholeOf 9 = .ok (.iaload, 1)) ∧ (decode cX3_wholeOf 10 = .ok (.aload_n 0, 1)) ∧ (decode cX3_wholeOf 11 = .ok (.iconst 1, 1)) ∧ (decode cX3_wholeOf 12 = .ok (.iaload, 1)) ∧ (decode cX3_wholeOf 13 = .ok (.if_icmp .ge 7, 3)) ∧ (decode cX3_wholeOf 16 = .ok (.iconst 1, 1)) ∧ (decode cX3_wholeOf 17 = .ok (.goto 4, 3)) := by decide +kernel
theorem dX3_wholeOf_0 : decode cX3_wholeOf 0 = .ok (.aload_n 1, 1) := db2_120.1
theorem dX3_wholeOf_1 : decode cX3_wholeOf 1 = .ok (.iconst 0, 1) := db2_120.2.1
theorem dX3_wholeOf_2 : decode cX3_wholeOf 2 = .ok (.iaload, 1) := db2_120.2.2.1
theorem dX3_wholeOf_3 : decode cX3_wholeOf 3 = .ok (.aload_n 0, 1) := db2_120.2.2.2.1
theorem dX3_wholeOf_4 : decode cX3_wholeOf 4 = .ok (.iconst 0, 1) := db2_120.2.2.2.2.1
theorem dX3_wholeOf_5 : decode cX3_wholeOf 5 = .ok (.iaload, 1) := db2_120.2.2.2.2.2.1
theorem dX3_wholeOf_6 : decode cX3_wholeOf 6 = .ok (.isub, 1) := db2_120.2.2.2.2.2.2.1
theorem dX3_wholeOf_7 : decode cX3_wholeOf 7 = .ok (.aload_n 1, 1) := db2_120.2.2.2.2.2.2.2.1
theorem dX3_wholeOf_8 : decode cX3_wholeOf 8 = .ok (.iconst 1, 1) := db2_120.2.2.2.2.2.2.2.2.1
theorem dX3_wholeOf_9 : decode cX3_wholeOf 9 = .ok (.iaload, 1) := db2_120.2.2.2.2.2.2.2.2.2.1
theorem dX3_wholeOf_10 : decode cX3_wholeOf 10 = .ok (.aload_n 0, 1) := db2_120.2.2.2.2.2.2.2.2.2.2.1
theorem dX3_wholeOf_11 : decode cX3_wholeOf 11 = .ok (.iconst 1, 1) := db2_120.2.2.2.2.2.2.2.2.2.2.2.1
theorem dX3_wholeOf_12 : decode cX3_wholeOf 12 = .ok (.iaload, 1) := db2_120.2.2.2.2.2.2.2.2.2.2.2.2.1
theorem dX3_wholeOf_13 : decode cX3_wholeOf 13 = .ok (.if_icmp .ge 7, 3) := db2_120.2.2.2.2.2.2.2.2.2.2.2.2.2.1
theorem dX3_wholeOf_16 : decode cX3_wholeOf 16 = .ok (.iconst 1, 1) := db2_120.2.2.2.2.2.2.2.2.2.2.2.2.2.2.1
theorem dX3_wholeOf_17 : decode cX3_wholeOf 17 = .ok (.goto 4, 3) := db2_120.2.2.2.2.2.2.2.2.2.2.2.2.2.2.2
theorem db2_121 : (decode cX3_wholeOf 20 = .ok (.iconst 0, 1)) ∧ (decode cX3_wholeOf 21 = .ok (.invokestatic 121, 3)) ∧ (decode cX3_wholeOf 24 = .ok (.isub, 1)) ∧ (decode cX3_wholeOf 25 = .ok (.ireturn, 1)) := by decide +kernel
theorem dX3_wholeOf_20 : decode cX3_wholeOf 20 = .ok (.iconst 0, 1) := db2_121.1
theorem dX3_wholeOf_21 : decode cX3_wholeOf 21 = .ok (.invokestatic 121, 3) := db2_121.2.1
theorem dX3_wholeOf_24 : decode cX3_wholeOf 24 = .ok (.isub, 1) := db2_121.2.2.1
theorem dX3_wholeOf_25 : decode cX3_wholeOf 25 = .ok (.ireturn, 1) := db2_121.2.2.2
theorem db2_122 : (decode cX3_isAhead 0 = .ok (.aload_n 0, 1)) ∧ (decode cX3_isAhead 1 = .ok (.iload_n 1, 1)) ∧ (decode cX3_isAhead 2 = .ok (.invokevirtual 85, 3)) ∧ (decode cX3_isAhead 5 = .ok (.aload_n 0, 1)) ∧ (decode cX3_isAhead 6 = .ok (.iload_n 2, 1)) ∧ (decode cX3_isAhead 7 = .ok (.invokevirtual 85, 3)) ∧ (decode cX3_isAhead 10 = .ok (.if_icmp .ge 7, 3)) ∧ (decode cX3_isAhead 13 = .ok (.iconst 1, 1)) ∧ (decode cX3_isAhead 14 = .ok (.goto 4, 3)) ∧ (decode cX3_isAhead 17 = .ok (.iconst 0, 1)) ∧ (decode cX3_isAhead 18 = .ok (.ireturn, 1)) := by decide +kernel
theorem dX3_isAhead_0 : decode cX3_isAhead 0 = .ok (.aload_n 0, 1) := db2_122.1
theorem dX3_isAhead_1 : decode cX3_isAhead 1 = .ok (.iload_n 1, 1) := db2_122.2.1
theorem dX3_isAhead_2 : decode cX3_isAhead 2 = .ok (.invokevirtual 85, 3) := db2_122.2.2.1
theorem dX3_isAhead_5 : decode cX3_isAhead 5 = .ok (.aload_n 0, 1) := db2_122.2.2.2.1
theorem dX3_isAhead_6 : decode cX3_isAhead 6 = .ok (.iload_n 2, 1) := db2_122.2.2.2.2.1
theorem dX3_isAhead_7 : decode cX3_isAhead 7 = .ok (.invokevirtual 85, 3) := db2_122.2.2.2.2.2.1
theorem dX3_isAhead_10 : decode cX3_isAhead 10 = .ok (.if_icmp .ge 7, 3) := db2_122.2.2.2.2.2.2.1
theorem dX3_isAhead_13 : decode cX3_isAhead 13 = .ok (.iconst 1, 1) := db2_122.2.2.2.2.2.2.2.1
theorem dX3_isAhead_14 : decode cX3_isAhead 14 = .ok (.goto 4, 3) := db2_122.2.2.2.2.2.2.2.2.1
theorem dX3_isAhead_17 : decode cX3_isAhead 17 = .ok (.iconst 0, 1) := db2_122.2.2.2.2.2.2.2.2.2.1
theorem dX3_isAhead_18 : decode cX3_isAhead 18 = .ok (.ireturn, 1) := db2_122.2.2.2.2.2.2.2.2.2.2
theorem db2_123 : (decode cX3_until 0 = .ok (.aload_n 0, 1)) ∧ (decode cX3_until 1 = .ok (.iload_n 1, 1)) ∧ (decode cX3_until 2 = .ok (.invokestatic 111, 3)) ∧ (decode cX3_until 5 = .ok (.ifCond .ne 11, 3)) ∧ (decode cX3_until 8 = .ok (.iload_n 2, 1)) ∧ (decode cX3_until 9 = .ok (.iload_n 3, 1)) := by decide +kernel
theorem dX3_until_0 : decode cX3_until 0 = .ok (.aload_n 0, 1) := db2_123.1
theorem dX3_until_1 : decode cX3_until 1 = .ok (.iload_n 1, 1) := db2_123.2.1
theorem dX3_until_2 : decode cX3_until 2 = .ok (.invokestatic 111, 3) := db2_123.2.2.1
theorem dX3_until_5 : decode cX3_until 5 = .ok (.ifCond .ne 11, 3) := db2_123.2.2.2.1
theorem dX3_until_8 : decode cX3_until 8 = .ok (.iload_n 2, 1) := db2_123.2.2.2.2.1
theorem dX3_until_9 : decode cX3_until 9 = .ok (.iload_n 3, 1) := db2_123.2.2.2.2.2
