theorem dX0_init_0 : decode cX0_init 0 = .ok (.aload_n 0, 1) := by decide +kernel
theorem dX0_init_1 : decode cX0_init 1 = .ok (.invokespecial 1, 3) := by decide +kernel
theorem dX0_init_4 : decode cX0_init 4 = .ok (.aload_n 0, 1) := by decide +kernel
theorem dX0_init_5 : decode cX0_init 5 = .ok (.new 7, 3) := by decide +kernel
theorem dX0_init_8 : decode cX0_init 8 = .ok (.dup, 1) := by decide +kernel
theorem dX0_init_9 : decode cX0_init 9 = .ok (.invokespecial 9, 3) := by decide +kernel
theorem dX0_init_12 : decode cX0_init 12 = .ok (.putfield 10, 3) := by decide +kernel
theorem dX0_init_15 : decode cX0_init 15 = .ok (.return_, 1) := by decide +kernel
theorem dX0_between_0 : decode cX0_between 0 = .ok (.aload_n 0, 1) := by decide +kernel
theorem dX0_between_1 : decode cX0_between 1 = .ok (.iload_n 1, 1) := by decide +kernel
theorem dX0_between_2 : decode cX0_between 2 = .ok (.putfield 16, 3) := by decide +kernel
theorem dX0_between_5 : decode cX0_between 5 = .ok (.aload_n 0, 1) := by decide +kernel
theorem dX0_between_6 : decode cX0_between 6 = .ok (.iload_n 2, 1) := by decide +kernel
theorem dX0_between_7 : decode cX0_between 7 = .ok (.putfield 20, 3) := by decide +kernel
theorem dX0_between_10 : decode cX0_between 10 = .ok (.aload_n 0, 1) := by decide +kernel
theorem dX0_between_11 : decode cX0_between 11 = .ok (.iconst 0, 1) := by decide +kernel
theorem dX0_between_12 : decode cX0_between 12 = .ok (.putfield 23, 3) := by decide +kernel
theorem dX0_between_15 : decode cX0_between 15 = .ok (.return_, 1) := by decide +kernel
theorem dX0_within_0 : decode cX0_within 0 = .ok (.aload_n 0, 1) := by decide +kernel
theorem dX0_within_1 : decode cX0_within 1 = .ok (.iload_n 1, 1) := by decide +kernel
theorem dX0_within_2 : decode cX0_within 2 = .ok (.putfield 27, 3) := by decide +kernel
theorem dX0_within_5 : decode cX0_within 5 = .ok (.aload_n 0, 1) := by decide +kernel
theorem dX0_within_6 : decode cX0_within 6 = .ok (.iload_n 2, 1) := by decide +kernel
theorem dX0_within_7 : decode cX0_within 7 = .ok (.putfield 30, 3) := by decide +kernel
theorem dX0_within_10 : decode cX0_within 10 = .ok (.return_, 1) := by decide +kernel
theorem dX0_like_0 : decode cX0_like 0 = .ok (.aload_n 0, 1) := by decide +kernel
theorem dX0_like_1 : decode cX0_like 1 = .ok (.iload_n 1, 1) := by decide +kernel
theorem dX0_like_2 : decode cX0_like 2 = .ok (.putfield 33, 3) := by decide +kernel
theorem dX0_like_5 : decode cX0_like 5 = .ok (.aload_n 0, 1) := by decide +kernel
theorem dX0_like_6 : decode cX0_like 6 = .ok (.iload_n 2, 1) := by decide +kernel
theorem dX0_like_7 : decode cX0_like 7 = .ok (.putfield 36, 3) := by decide +kernel
theorem dX0_like_10 : decode cX0_like 10 = .ok (.aload_n 0, 1) := by decide +kernel
theorem dX0_like_11 : decode cX0_like 11 = .ok (.iload_n 3, 1) := by decide +kernel
theorem dX0_like_12 : decode cX0_like 12 = .ok (.putfield 39, 3) := by decide +kernel
theorem dX0_like_15 : decode cX0_like 15 = .ok (.return_, 1) := by decide +kernel
theorem dX1_init_0 : decode cX1_init 0 = .ok (.aload_n 0, 1) := by decide +kernel
theorem dX1_init_1 : decode cX1_init 1 = .ok (.invokespecial 3, 3) := by decide +kernel
theorem dX1_init_4 : decode cX1_init 4 = .ok (.aload_n 0, 1) := by decide +kernel
theorem dX1_init_5 : decode cX1_init 5 = .ok (.bipush 10, 2) := by decide +kernel
theorem dX1_init_7 : decode cX1_init 7 = .ok (.newarray .int, 2) := by decide +kernel
theorem dX1_init_9 : decode cX1_init 9 = .ok (.putfield 9, 3) := by decide +kernel
theorem dX1_init_12 : decode cX1_init 12 = .ok (.aload_n 0, 1) := by decide +kernel
theorem dX1_init_13 : decode cX1_init 13 = .ok (.bipush 10, 2) := by decide +kernel
theorem dX1_init_15 : decode cX1_init 15 = .ok (.newarray .int, 2) := by decide +kernel
theorem dX1_init_17 : decode cX1_init 17 = .ok (.putfield 15, 3) := by decide +kernel
theorem dX1_init_20 : decode cX1_init 20 = .ok (.aload_n 0, 1) := by decide +kernel
theorem dX1_init_21 : decode cX1_init 21 = .ok (.aload_n 1, 1) := by decide +kernel
theorem dX1_init_22 : decode cX1_init 22 = .ok (.putfield 18, 3) := by decide +kernel
theorem dX1_init_25 : decode cX1_init 25 = .ok (.aload_n 0, 1) := by decide +kernel
theorem dX1_init_26 : decode cX1_init 26 = .ok (.aload_n 2, 1) := by decide +kernel
theorem dX1_init_27 : decode cX1_init 27 = .ok (.putfield 22, 3) := by decide +kernel
theorem dX1_init_30 : decode cX1_init 30 = .ok (.return_, 1) := by decide +kernel
theorem dX1_number_0 : decode cX1_number 0 = .ok (.iload_n 1, 1) := by decide +kernel
theorem dX1_number_1 : decode cX1_number 1 = .ok (.ifCond .lt 26, 3) := by decide +kernel
theorem dX1_number_4 : decode cX1_number 4 = .ok (.iload_n 1, 1) := by decide +kernel
theorem dX1_number_5 : decode cX1_number 5 = .ok (.aload_n 0, 1) := by decide +kernel
theorem dX1_number_6 : decode cX1_number 6 = .ok (.getfield 26, 3) := by decide +kernel
theorem dX1_number_9 : decode cX1_number 9 = .ok (.if_icmp .ge 18, 3) := by decide +kernel
theorem dX1_number_12 : decode cX1_number 12 = .ok (.iload_n 1, 1) := by decide +kernel
theorem dX1_number_13 : decode cX1_number 13 = .ok (.bipush 10, 2) := by decide +kernel
theorem dX1_number_15 : decode cX1_number 15 = .ok (.if_icmp .ge 12, 3) := by decide +kernel
theorem dX1_number_18 : decode cX1_number 18 = .ok (.aload_n 0, 1) := by decide +kernel
theorem dX1_number_19 : decode cX1_number 19 = .ok (.getfield 9, 3) := by decide +kernel
theorem dX1_number_22 : decode cX1_number 22 = .ok (.iload_n 1, 1) := by decide +kernel
theorem dX1_number_23 : decode cX1_number 23 = .ok (.iaload, 1) := by decide +kernel
theorem dX1_number_24 : decode cX1_number 24 = .ok (.goto 5, 3) := by decide +kernel
theorem dX1_number_27 : decode cX1_number 27 = .ok (.ldc 30, 2) := by decide +kernel
theorem dX1_number_29 : decode cX1_number 29 = .ok (.ireturn, 1) := by decide +kernel
theorem dX1_find_0 : decode cX1_find 0 = .ok (.aload_n 0, 1) := by decide +kernel
theorem dX1_find_1 : decode cX1_find 1 = .ok (.iconst 0, 1) := by decide +kernel
theorem dX1_find_2 : decode cX1_find 2 = .ok (.putfield 26, 3) := by decide +kernel
theorem dX1_find_5 : decode cX1_find 5 = .ok (.aload_n 0, 1) := by decide +kernel
theorem dX1_find_6 : decode cX1_find 6 = .ok (.getfield 18, 3) := by decide +kernel
theorem dX1_find_9 : decode cX1_find 9 = .ok (.invokevirtual 31, 3) := by decide +kernel
theorem dX1_find_12 : decode cX1_find 12 = .ok (.istore_n 2, 1) := by decide +kernel
theorem dX1_find_13 : decode cX1_find 13 = .ok (.aload_n 0, 1) := by decide +kernel
theorem dX1_find_14 : decode cX1_find 14 = .ok (.getfield 22, 3) := by decide +kernel
theorem dX1_find_17 : decode cX1_find 17 = .ok (.aload_n 1, 1) := by decide +kernel
theorem dX1_find_18 : decode cX1_find 18 = .ok (.iload_n 2, 1) := by decide +kernel
theorem dX1_find_19 : decode cX1_find 19 = .ok (.invokevirtual 37, 3) := by decide +kernel
theorem dX1_find_22 : decode cX1_find 22 = .ok (.ifCond .ne 5, 3) := by decide +kernel
theorem dX1_find_25 : decode cX1_find 25 = .ok (.iconst 0, 1) := by decide +kernel
theorem dX1_find_26 : decode cX1_find 26 = .ok (.ireturn, 1) := by decide +kernel
theorem dX1_find_27 : decode cX1_find 27 = .ok (.aload_n 0, 1) := by decide +kernel
theorem dX1_find_28 : decode cX1_find 28 = .ok (.iload_n 2, 1) := by decide +kernel
theorem dX1_find_29 : decode cX1_find 29 = .ok (.invokevirtual 43, 3) := by decide +kernel
theorem dX1_find_32 : decode cX1_find 32 = .ok (.istore_n 3, 1) := by decide +kernel
theorem dX1_find_33 : decode cX1_find 33 = .ok (.iconst 0, 1) := by decide +kernel
theorem dX1_find_34 : decode cX1_find 34 = .ok (.istore 4, 2) := by decide +kernel
theorem dX1_find_36 : decode cX1_find 36 = .ok (.iload 4, 2) := by decide +kernel
theorem dX1_find_38 : decode cX1_find 38 = .ok (.iload_n 3, 1) := by decide +kernel
theorem dX1_find_39 : decode cX1_find 39 = .ok (.if_icmp .gt 33, 3) := by decide +kernel
theorem dX1_find_42 : decode cX1_find 42 = .ok (.aload_n 0, 1) := by decide +kernel
theorem dX1_find_43 : decode cX1_find 43 = .ok (.aload_n 1, 1) := by decide +kernel
theorem dX1_find_44 : decode cX1_find 44 = .ok (.iload 4, 2) := by decide +kernel
theorem dX1_find_46 : decode cX1_find 46 = .ok (.iload_n 3, 1) := by decide +kernel
theorem dX1_find_47 : decode cX1_find 47 = .ok (.invokevirtual 47, 3) := by decide +kernel
theorem dX1_find_50 : decode cX1_find 50 = .ok (.istore 5, 2) := by decide +kernel
theorem dX1_find_52 : decode cX1_find 52 = .ok (.iload 5, 2) := by decide +kernel
theorem dX1_find_54 : decode cX1_find 54 = .ok (.iconst (-1), 1) := by decide +kernel
theorem dX1_find_55 : decode cX1_find 55 = .ok (.if_icmp .eq 11, 3) := by decide +kernel
theorem dX1_find_58 : decode cX1_find 58 = .ok (.aload_n 0, 1) := by decide +kernel
theorem dX1_find_59 : decode cX1_find 59 = .ok (.iload 5, 2) := by decide +kernel
theorem dX1_find_61 : decode cX1_find 61 = .ok (.invokevirtual 51, 3) := by decide +kernel
theorem dX1_find_64 : decode cX1_find 64 = .ok (.iconst 1, 1) := by decide +kernel
theorem dX1_find_65 : decode cX1_find 65 = .ok (.ireturn, 1) := by decide +kernel
theorem dX1_find_66 : decode cX1_find 66 = .ok (.iinc 4 1, 3) := by decide +kernel
theorem dX1_find_69 : decode cX1_find 69 = .ok (.goto (-33), 3) := by decide +kernel
theorem dX1_find_72 : decode cX1_find 72 = .ok (.iconst 0, 1) := by decide +kernel
theorem dX1_find_73 : decode cX1_find 73 = .ok (.ireturn, 1) := by decide +kernel
theorem dX1_listGiven_0 : decode cX1_listGiven 0 = .ok (.iconst 0, 1) := by decide +kernel
theorem dX1_listGiven_1 : decode cX1_listGiven 1 = .ok (.istore_n 2, 1) := by decide +kernel
theorem dX1_listGiven_2 : decode cX1_listGiven 2 = .ok (.iconst 0, 1) := by decide +kernel
theorem dX1_listGiven_3 : decode cX1_listGiven 3 = .ok (.istore_n 3, 1) := by decide +kernel
theorem dX1_listGiven_4 : decode cX1_listGiven 4 = .ok (.iload_n 3, 1) := by decide +kernel
theorem dX1_listGiven_5 : decode cX1_listGiven 5 = .ok (.bipush 10, 2) := by decide +kernel
theorem dX1_listGiven_7 : decode cX1_listGiven 7 = .ok (.if_icmp .ge 27, 3) := by decide +kernel
theorem dX1_listGiven_10 : decode cX1_listGiven 10 = .ok (.iload_n 1, 1) := by decide +kernel
theorem dX1_listGiven_11 : decode cX1_listGiven 11 = .ok (.iload_n 3, 1) := by decide +kernel
theorem dX1_listGiven_12 : decode cX1_listGiven 12 = .ok (.invokestatic 55, 3) := by decide +kernel
theorem dX1_listGiven_15 : decode cX1_listGiven 15 = .ok (.ifCond .eq 13, 3) := by decide +kernel
theorem dX1_listGiven_18 : decode cX1_listGiven 18 = .ok (.aload_n 0, 1) := by decide +kernel
theorem dX1_listGiven_19 : decode cX1_listGiven 19 = .ok (.getfield 15, 3) := by decide +kernel
theorem dX1_listGiven_22 : decode cX1_listGiven 22 = .ok (.iload_n 2, 1) := by decide +kernel
theorem dX1_listGiven_23 : decode cX1_listGiven 23 = .ok (.iload_n 3, 1) := by decide +kernel
theorem dX1_listGiven_24 : decode cX1_listGiven 24 = .ok (.iastore, 1) := by decide +kernel
theorem dX1_listGiven_25 : decode cX1_listGiven 25 = .ok (.iinc 2 1, 3) := by decide +kernel
theorem dX1_listGiven_28 : decode cX1_listGiven 28 = .ok (.iinc 3 1, 3) := by decide +kernel
theorem dX1_listGiven_31 : decode cX1_listGiven 31 = .ok (.goto (-27), 3) := by decide +kernel
theorem dX1_listGiven_34 : decode cX1_listGiven 34 = .ok (.iload_n 2, 1) := by decide +kernel
theorem dX1_listGiven_35 : decode cX1_listGiven 35 = .ok (.ireturn, 1) := by decide +kernel
theorem dX1_firstOfSize_0 : decode cX1_firstOfSize 0 = .ok (.iconst 1, 1) := by decide +kernel
theorem dX1_firstOfSize_1 : decode cX1_firstOfSize 1 = .ok (.iload_n 3, 1) := by decide +kernel
theorem dX1_firstOfSize_2 : decode cX1_firstOfSize 2 = .ok (.ishl, 1) := by decide +kernel
theorem dX1_firstOfSize_3 : decode cX1_firstOfSize 3 = .ok (.iconst 1, 1) := by decide +kernel
theorem dX1_firstOfSize_4 : decode cX1_firstOfSize 4 = .ok (.isub, 1) := by decide +kernel
theorem dX1_firstOfSize_5 : decode cX1_firstOfSize 5 = .ok (.istore 4, 2) := by decide +kernel
theorem dX1_firstOfSize_7 : decode cX1_firstOfSize 7 = .ok (.iload 4, 2) := by decide +kernel
theorem dX1_firstOfSize_9 : decode cX1_firstOfSize 9 = .ok (.ifCond .lt 43, 3) := by decide +kernel
theorem dX1_firstOfSize_12 : decode cX1_firstOfSize 12 = .ok (.iload 4, 2) := by decide +kernel
theorem dX1_firstOfSize_14 : decode cX1_firstOfSize 14 = .ok (.invokestatic 59, 3) := by decide +kernel
theorem dX1_firstOfSize_17 : decode cX1_firstOfSize 17 = .ok (.iload_n 2, 1) := by decide +kernel
theorem dX1_firstOfSize_18 : decode cX1_firstOfSize 18 = .ok (.if_icmp .ne 28, 3) := by decide +kernel
theorem dX1_firstOfSize_21 : decode cX1_firstOfSize 21 = .ok (.aload_n 0, 1) := by decide +kernel
theorem dX1_firstOfSize_22 : decode cX1_firstOfSize 22 = .ok (.iload 4, 2) := by decide +kernel
theorem dX1_firstOfSize_24 : decode cX1_firstOfSize 24 = .ok (.iload_n 3, 1) := by decide +kernel
theorem dX1_firstOfSize_25 : decode cX1_firstOfSize 25 = .ok (.invokevirtual 64, 3) := by decide +kernel
theorem dX1_firstOfSize_28 : decode cX1_firstOfSize 28 = .ok (.istore 5, 2) := by decide +kernel
theorem dX1_firstOfSize_30 : decode cX1_firstOfSize 30 = .ok (.aload_n 0, 1) := by decide +kernel
theorem dX1_firstOfSize_31 : decode cX1_firstOfSize 31 = .ok (.getfield 22, 3) := by decide +kernel
theorem dX1_firstOfSize_34 : decode cX1_firstOfSize 34 = .ok (.aload_n 1, 1) := by decide +kernel
theorem dX1_firstOfSize_35 : decode cX1_firstOfSize 35 = .ok (.iload 5, 2) := by decide +kernel
theorem dX1_firstOfSize_37 : decode cX1_firstOfSize 37 = .ok (.invokevirtual 37, 3) := by decide +kernel
theorem dX1_firstOfSize_40 : decode cX1_firstOfSize 40 = .ok (.ifCond .eq 6, 3) := by decide +kernel
theorem dX1_firstOfSize_43 : decode cX1_firstOfSize 43 = .ok (.iload 5, 2) := by decide +kernel
theorem dX1_firstOfSize_45 : decode cX1_firstOfSize 45 = .ok (.ireturn, 1) := by decide +kernel
theorem dX1_firstOfSize_46 : decode cX1_firstOfSize 46 = .ok (.iinc 4 (-1), 3) := by decide +kernel
theorem dX1_firstOfSize_49 : decode cX1_firstOfSize 49 = .ok (.goto (-42), 3) := by decide +kernel
theorem dX1_firstOfSize_52 : decode cX1_firstOfSize 52 = .ok (.iconst (-1), 1) := by decide +kernel
theorem dX1_firstOfSize_53 : decode cX1_firstOfSize 53 = .ok (.ireturn, 1) := by decide +kernel
theorem dX1_decoded_0 : decode cX1_decoded 0 = .ok (.iconst 0, 1) := by decide +kernel
theorem dX1_decoded_1 : decode cX1_decoded 1 = .ok (.istore_n 3, 1) := by decide +kernel
theorem dX1_decoded_2 : decode cX1_decoded 2 = .ok (.iconst 0, 1) := by decide +kernel
theorem dX1_decoded_3 : decode cX1_decoded 3 = .ok (.istore 4, 2) := by decide +kernel
theorem dX1_decoded_5 : decode cX1_decoded 5 = .ok (.iload 4, 2) := by decide +kernel
theorem dX1_decoded_7 : decode cX1_decoded 7 = .ok (.iload_n 2, 1) := by decide +kernel
theorem dX1_decoded_8 : decode cX1_decoded 8 = .ok (.if_icmp .ge 41, 3) := by decide +kernel
theorem dX1_decoded_11 : decode cX1_decoded 11 = .ok (.iload 4, 2) := by decide +kernel
theorem dX1_decoded_13 : decode cX1_decoded 13 = .ok (.bipush 10, 2) := by decide +kernel
theorem dX1_decoded_15 : decode cX1_decoded 15 = .ok (.if_icmp .ge 34, 3) := by decide +kernel
theorem dX1_decoded_18 : decode cX1_decoded 18 = .ok (.iload_n 1, 1) := by decide +kernel
theorem dX1_decoded_19 : decode cX1_decoded 19 = .ok (.iload_n 2, 1) := by decide +kernel
theorem dX1_decoded_20 : decode cX1_decoded 20 = .ok (.iconst 1, 1) := by decide +kernel
theorem dX1_decoded_21 : decode cX1_decoded 21 = .ok (.isub, 1) := by decide +kernel
theorem dX1_decoded_22 : decode cX1_decoded 22 = .ok (.iload 4, 2) := by decide +kernel
theorem dX1_decoded_24 : decode cX1_decoded 24 = .ok (.isub, 1) := by decide +kernel
theorem dX1_decoded_25 : decode cX1_decoded 25 = .ok (.invokestatic 55, 3) := by decide +kernel
theorem dX1_decoded_28 : decode cX1_decoded 28 = .ok (.ifCond .eq 15, 3) := by decide +kernel
theorem dX1_decoded_31 : decode cX1_decoded 31 = .ok (.iload_n 3, 1) := by decide +kernel
theorem dX1_decoded_32 : decode cX1_decoded 32 = .ok (.iconst 1, 1) := by decide +kernel
theorem dX1_decoded_33 : decode cX1_decoded 33 = .ok (.aload_n 0, 1) := by decide +kernel
theorem dX1_decoded_34 : decode cX1_decoded 34 = .ok (.getfield 15, 3) := by decide +kernel
theorem dX1_decoded_37 : decode cX1_decoded 37 = .ok (.iload 4, 2) := by decide +kernel
theorem dX1_decoded_39 : decode cX1_decoded 39 = .ok (.iaload, 1) := by decide +kernel
theorem dX1_decoded_40 : decode cX1_decoded 40 = .ok (.ishl, 1) := by decide +kernel
theorem dX1_decoded_41 : decode cX1_decoded 41 = .ok (.ior, 1) := by decide +kernel
theorem dX1_decoded_42 : decode cX1_decoded 42 = .ok (.istore_n 3, 1) := by decide +kernel
theorem dX1_decoded_43 : decode cX1_decoded 43 = .ok (.iinc 4 1, 3) := by decide +kernel
theorem dX1_decoded_46 : decode cX1_decoded 46 = .ok (.goto (-41), 3) := by decide +kernel
theorem dX1_decoded_49 : decode cX1_decoded 49 = .ok (.iload_n 3, 1) := by decide +kernel
theorem dX1_decoded_50 : decode cX1_decoded 50 = .ok (.ireturn, 1) := by decide +kernel
theorem dX1_keep_0 : decode cX1_keep 0 = .ok (.iconst 0, 1) := by decide +kernel
theorem dX1_keep_1 : decode cX1_keep 1 = .ok (.istore_n 2, 1) := by decide +kernel
theorem dX1_keep_2 : decode cX1_keep 2 = .ok (.iload_n 2, 1) := by decide +kernel
theorem dX1_keep_3 : decode cX1_keep 3 = .ok (.bipush 10, 2) := by decide +kernel
theorem dX1_keep_5 : decode cX1_keep 5 = .ok (.if_icmp .ge 37, 3) := by decide +kernel
theorem dX1_keep_8 : decode cX1_keep 8 = .ok (.iload_n 1, 1) := by decide +kernel
theorem dX1_keep_9 : decode cX1_keep 9 = .ok (.iload_n 2, 1) := by decide +kernel
theorem dX1_keep_10 : decode cX1_keep 10 = .ok (.invokestatic 55, 3) := by decide +kernel
theorem dX1_keep_13 : decode cX1_keep 13 = .ok (.ifCond .eq 23, 3) := by decide +kernel
theorem dX1_keep_16 : decode cX1_keep 16 = .ok (.aload_n 0, 1) := by decide +kernel
theorem dX1_keep_17 : decode cX1_keep 17 = .ok (.getfield 9, 3) := by decide +kernel
theorem dX1_keep_20 : decode cX1_keep 20 = .ok (.aload_n 0, 1) := by decide +kernel
theorem dX1_keep_21 : decode cX1_keep 21 = .ok (.getfield 26, 3) := by decide +kernel
theorem dX1_keep_24 : decode cX1_keep 24 = .ok (.iload_n 2, 1) := by decide +kernel
theorem dX1_keep_25 : decode cX1_keep 25 = .ok (.iastore, 1) := by decide +kernel
theorem dX1_keep_26 : decode cX1_keep 26 = .ok (.aload_n 0, 1) := by decide +kernel
theorem dX1_keep_27 : decode cX1_keep 27 = .ok (.dup, 1) := by decide +kernel
theorem dX1_keep_28 : decode cX1_keep 28 = .ok (.getfield 26, 3) := by decide +kernel
theorem dX1_keep_31 : decode cX1_keep 31 = .ok (.iconst 1, 1) := by decide +kernel
theorem dX1_keep_32 : decode cX1_keep 32 = .ok (.iadd, 1) := by decide +kernel
theorem dX1_keep_33 : decode cX1_keep 33 = .ok (.putfield 26, 3) := by decide +kernel
theorem dX1_keep_36 : decode cX1_keep 36 = .ok (.iinc 2 1, 3) := by decide +kernel
theorem dX1_keep_39 : decode cX1_keep 39 = .ok (.goto (-37), 3) := by decide +kernel
theorem dX1_keep_42 : decode cX1_keep 42 = .ok (.return_, 1) := by decide +kernel
theorem dX2_init_0 : decode cX2_init 0 = .ok (.aload_n 0, 1) := by decide +kernel
theorem dX2_init_1 : decode cX2_init 1 = .ok (.invokespecial 3, 3) := by decide +kernel
theorem dX2_init_4 : decode cX2_init 4 = .ok (.aload_n 0, 1) := by decide +kernel
theorem dX2_init_5 : decode cX2_init 5 = .ok (.bipush 10, 2) := by decide +kernel
theorem dX2_init_7 : decode cX2_init 7 = .ok (.anewarray 9, 3) := by decide +kernel
theorem dX2_init_10 : decode cX2_init 10 = .ok (.putfield 11, 3) := by decide +kernel
theorem dX2_init_13 : decode cX2_init 13 = .ok (.iconst 0, 1) := by decide +kernel
theorem dX2_init_14 : decode cX2_init 14 = .ok (.istore_n 1, 1) := by decide +kernel
theorem dX2_init_15 : decode cX2_init 15 = .ok (.iload_n 1, 1) := by decide +kernel
theorem dX2_init_16 : decode cX2_init 16 = .ok (.bipush 10, 2) := by decide +kernel
theorem dX2_init_18 : decode cX2_init 18 = .ok (.if_icmp .ge 22, 3) := by decide +kernel
theorem dX2_init_21 : decode cX2_init 21 = .ok (.aload_n 0, 1) := by decide +kernel
theorem dX2_init_22 : decode cX2_init 22 = .ok (.getfield 11, 3) := by decide +kernel
theorem dX2_init_25 : decode cX2_init 25 = .ok (.iload_n 1, 1) := by decide +kernel
theorem dX2_init_26 : decode cX2_init 26 = .ok (.new 9, 3) := by decide +kernel
theorem dX2_init_29 : decode cX2_init 29 = .ok (.dup, 1) := by decide +kernel
theorem dX2_init_30 : decode cX2_init 30 = .ok (.invokespecial 17, 3) := by decide +kernel
theorem dX2_init_33 : decode cX2_init 33 = .ok (.aastore, 1) := by decide +kernel
theorem dX2_init_34 : decode cX2_init 34 = .ok (.iinc 1 1, 3) := by decide +kernel
theorem dX2_init_37 : decode cX2_init 37 = .ok (.goto (-22), 3) := by decide +kernel
theorem dX2_init_40 : decode cX2_init 40 = .ok (.return_, 1) := by decide +kernel
theorem dX2_has_0 : decode cX2_has 0 = .ok (.iload_n 1, 1) := by decide +kernel
theorem dX2_has_1 : decode cX2_has 1 = .ok (.ifCond .lt 15, 3) := by decide +kernel
theorem dX2_has_4 : decode cX2_has 4 = .ok (.iload_n 1, 1) := by decide +kernel
theorem dX2_has_5 : decode cX2_has 5 = .ok (.aload_n 0, 1) := by decide +kernel
theorem dX2_has_6 : decode cX2_has 6 = .ok (.getfield 18, 3) := by decide +kernel
theorem dX2_has_9 : decode cX2_has 9 = .ok (.if_icmp .ge 7, 3) := by decide +kernel
theorem dX2_has_12 : decode cX2_has 12 = .ok (.iconst 1, 1) := by decide +kernel
theorem dX2_has_13 : decode cX2_has 13 = .ok (.goto 4, 3) := by decide +kernel
theorem dX2_has_16 : decode cX2_has 16 = .ok (.iconst 0, 1) := by decide +kernel
theorem dX2_has_17 : decode cX2_has 17 = .ok (.ireturn, 1) := by decide +kernel
theorem dX2_isFull_0 : decode cX2_isFull 0 = .ok (.aload_n 0, 1) := by decide +kernel
theorem dX2_isFull_1 : decode cX2_isFull 1 = .ok (.getfield 18, 3) := by decide +kernel
theorem dX2_isFull_4 : decode cX2_isFull 4 = .ok (.bipush 10, 2) := by decide +kernel
theorem dX2_isFull_6 : decode cX2_isFull 6 = .ok (.if_icmp .lt 7, 3) := by decide +kernel
theorem dX2_isFull_9 : decode cX2_isFull 9 = .ok (.iconst 1, 1) := by decide +kernel
theorem dX2_isFull_10 : decode cX2_isFull 10 = .ok (.goto 4, 3) := by decide +kernel
theorem dX2_isFull_13 : decode cX2_isFull 13 = .ok (.iconst 0, 1) := by decide +kernel
theorem dX2_isFull_14 : decode cX2_isFull 14 = .ok (.ireturn, 1) := by decide +kernel
theorem dX2_add_0 : decode cX2_add 0 = .ok (.aload_n 0, 1) := by decide +kernel
theorem dX2_add_1 : decode cX2_add 1 = .ok (.getfield 11, 3) := by decide +kernel
theorem dX2_add_4 : decode cX2_add 4 = .ok (.aload_n 0, 1) := by decide +kernel
theorem dX2_add_5 : decode cX2_add 5 = .ok (.getfield 18, 3) := by decide +kernel
theorem dX2_add_8 : decode cX2_add 8 = .ok (.bipush 9, 2) := by decide +kernel
theorem dX2_add_10 : decode cX2_add 10 = .ok (.invokestatic 22, 3) := by decide +kernel
theorem dX2_add_13 : decode cX2_add 13 = .ok (.aaload, 1) := by decide +kernel
theorem dX2_add_14 : decode cX2_add 14 = .ok (.astore_n 1, 1) := by decide +kernel
theorem dX2_add_15 : decode cX2_add 15 = .ok (.aload_n 0, 1) := by decide +kernel
theorem dX2_add_16 : decode cX2_add 16 = .ok (.aload_n 0, 1) := by decide +kernel
theorem dX2_add_17 : decode cX2_add 17 = .ok (.getfield 18, 3) := by decide +kernel
theorem dX2_add_20 : decode cX2_add 20 = .ok (.iconst 1, 1) := by decide +kernel
theorem dX2_add_21 : decode cX2_add 21 = .ok (.iadd, 1) := by decide +kernel
theorem dX2_add_22 : decode cX2_add 22 = .ok (.bipush 10, 2) := by decide +kernel
theorem dX2_add_24 : decode cX2_add 24 = .ok (.invokestatic 22, 3) := by decide +kernel
theorem dX2_add_27 : decode cX2_add 27 = .ok (.putfield 18, 3) := by decide +kernel
theorem dX2_add_30 : decode cX2_add 30 = .ok (.aload_n 1, 1) := by decide +kernel
theorem dX2_add_31 : decode cX2_add 31 = .ok (.areturn, 1) := by decide +kernel
theorem dX2_givenOnes_0 : decode cX2_givenOnes 0 = .ok (.iconst 0, 1) := by decide +kernel
theorem dX2_givenOnes_1 : decode cX2_givenOnes 1 = .ok (.istore_n 1, 1) := by decide +kernel
theorem dX2_givenOnes_2 : decode cX2_givenOnes 2 = .ok (.iconst 0, 1) := by decide +kernel
theorem dX2_givenOnes_3 : decode cX2_givenOnes 3 = .ok (.istore_n 2, 1) := by decide +kernel
theorem dX2_givenOnes_4 : decode cX2_givenOnes 4 = .ok (.iload_n 2, 1) := by decide +kernel
theorem dX2_givenOnes_5 : decode cX2_givenOnes 5 = .ok (.aload_n 0, 1) := by decide +kernel
theorem dX2_givenOnes_6 : decode cX2_givenOnes 6 = .ok (.getfield 18, 3) := by decide +kernel
theorem dX2_givenOnes_9 : decode cX2_givenOnes 9 = .ok (.if_icmp .ge 27, 3) := by decide +kernel
theorem dX2_givenOnes_12 : decode cX2_givenOnes 12 = .ok (.aload_n 0, 1) := by decide +kernel
theorem dX2_givenOnes_13 : decode cX2_givenOnes 13 = .ok (.getfield 11, 3) := by decide +kernel
theorem dX2_givenOnes_16 : decode cX2_givenOnes 16 = .ok (.iload_n 2, 1) := by decide +kernel
theorem dX2_givenOnes_17 : decode cX2_givenOnes 17 = .ok (.aaload, 1) := by decide +kernel
theorem dX2_givenOnes_18 : decode cX2_givenOnes 18 = .ok (.getfield 28, 3) := by decide +kernel
theorem dX2_givenOnes_21 : decode cX2_givenOnes 21 = .ok (.ifCond .eq 9, 3) := by decide +kernel
theorem dX2_givenOnes_24 : decode cX2_givenOnes 24 = .ok (.iload_n 1, 1) := by decide +kernel
theorem dX2_givenOnes_25 : decode cX2_givenOnes 25 = .ok (.iconst 1, 1) := by decide +kernel
theorem dX2_givenOnes_26 : decode cX2_givenOnes 26 = .ok (.iload_n 2, 1) := by decide +kernel
theorem dX2_givenOnes_27 : decode cX2_givenOnes 27 = .ok (.ishl, 1) := by decide +kernel
theorem dX2_givenOnes_28 : decode cX2_givenOnes 28 = .ok (.ior, 1) := by decide +kernel
theorem dX2_givenOnes_29 : decode cX2_givenOnes 29 = .ok (.istore_n 1, 1) := by decide +kernel
theorem dX2_givenOnes_30 : decode cX2_givenOnes 30 = .ok (.iinc 2 1, 3) := by decide +kernel
theorem dX2_givenOnes_33 : decode cX2_givenOnes 33 = .ok (.goto (-29), 3) := by decide +kernel
theorem dX2_givenOnes_36 : decode cX2_givenOnes 36 = .ok (.iload_n 1, 1) := by decide +kernel
theorem dX2_givenOnes_37 : decode cX2_givenOnes 37 = .ok (.ireturn, 1) := by decide +kernel
theorem dX2_countGiven_0 : decode cX2_countGiven 0 = .ok (.aload_n 0, 1) := by decide +kernel
theorem dX2_countGiven_1 : decode cX2_countGiven 1 = .ok (.invokevirtual 32, 3) := by decide +kernel
theorem dX2_countGiven_4 : decode cX2_countGiven 4 = .ok (.invokestatic 36, 3) := by decide +kernel
theorem dX2_countGiven_7 : decode cX2_countGiven 7 = .ok (.ireturn, 1) := by decide +kernel
theorem dX2_minutesGiven_0 : decode cX2_minutesGiven 0 = .ok (.iconst 0, 1) := by decide +kernel
theorem dX2_minutesGiven_1 : decode cX2_minutesGiven 1 = .ok (.istore_n 1, 1) := by decide +kernel
theorem dX2_minutesGiven_2 : decode cX2_minutesGiven 2 = .ok (.iconst 0, 1) := by decide +kernel
theorem dX2_minutesGiven_3 : decode cX2_minutesGiven 3 = .ok (.istore_n 2, 1) := by decide +kernel
theorem dX2_minutesGiven_4 : decode cX2_minutesGiven 4 = .ok (.iload_n 2, 1) := by decide +kernel
theorem dX2_minutesGiven_5 : decode cX2_minutesGiven 5 = .ok (.aload_n 0, 1) := by decide +kernel
theorem dX2_minutesGiven_6 : decode cX2_minutesGiven 6 = .ok (.getfield 18, 3) := by decide +kernel
theorem dX2_minutesGiven_9 : decode cX2_minutesGiven 9 = .ok (.if_icmp .ge 36, 3) := by decide +kernel
theorem dX2_minutesGiven_12 : decode cX2_minutesGiven 12 = .ok (.aload_n 0, 1) := by decide +kernel
theorem dX2_minutesGiven_13 : decode cX2_minutesGiven 13 = .ok (.getfield 11, 3) := by decide +kernel
theorem dX2_minutesGiven_16 : decode cX2_minutesGiven 16 = .ok (.iload_n 2, 1) := by decide +kernel
theorem dX2_minutesGiven_17 : decode cX2_minutesGiven 17 = .ok (.aaload, 1) := by decide +kernel
theorem dX2_minutesGiven_18 : decode cX2_minutesGiven 18 = .ok (.getfield 28, 3) := by decide +kernel
theorem dX2_minutesGiven_21 : decode cX2_minutesGiven 21 = .ok (.ifCond .eq 18, 3) := by decide +kernel
theorem dX2_minutesGiven_24 : decode cX2_minutesGiven 24 = .ok (.iload_n 1, 1) := by decide +kernel
theorem dX2_minutesGiven_25 : decode cX2_minutesGiven 25 = .ok (.aload_n 0, 1) := by decide +kernel
theorem dX2_minutesGiven_26 : decode cX2_minutesGiven 26 = .ok (.getfield 11, 3) := by decide +kernel
theorem dX2_minutesGiven_29 : decode cX2_minutesGiven 29 = .ok (.iload_n 2, 1) := by decide +kernel
theorem dX2_minutesGiven_30 : decode cX2_minutesGiven 30 = .ok (.aaload, 1) := by decide +kernel
theorem dX2_minutesGiven_31 : decode cX2_minutesGiven 31 = .ok (.getfield 42, 3) := by decide +kernel
theorem dX2_minutesGiven_34 : decode cX2_minutesGiven 34 = .ok (.invokevirtual 46, 3) := by decide +kernel
theorem dX2_minutesGiven_37 : decode cX2_minutesGiven 37 = .ok (.iadd, 1) := by decide +kernel
theorem dX2_minutesGiven_38 : decode cX2_minutesGiven 38 = .ok (.istore_n 1, 1) := by decide +kernel
theorem dX2_minutesGiven_39 : decode cX2_minutesGiven 39 = .ok (.iinc 2 1, 3) := by decide +kernel
theorem dX2_minutesGiven_42 : decode cX2_minutesGiven 42 = .ok (.goto (-38), 3) := by decide +kernel
theorem dX2_minutesGiven_45 : decode cX2_minutesGiven 45 = .ok (.iload_n 1, 1) := by decide +kernel
theorem dX2_minutesGiven_46 : decode cX2_minutesGiven 46 = .ok (.ireturn, 1) := by decide +kernel
theorem dX3_init_0 : decode cX3_init 0 = .ok (.aload_n 0, 1) := by decide +kernel
theorem dX3_init_1 : decode cX3_init 1 = .ok (.invokespecial 3, 3) := by decide +kernel
theorem dX3_init_4 : decode cX3_init 4 = .ok (.aload_n 0, 1) := by decide +kernel
theorem dX3_init_5 : decode cX3_init 5 = .ok (.bipush 36, 2) := by decide +kernel
theorem dX3_init_7 : decode cX3_init 7 = .ok (.newarray .int, 2) := by decide +kernel
theorem dX3_init_9 : decode cX3_init 9 = .ok (.putfield 9, 3) := by decide +kernel
theorem dX3_init_12 : decode cX3_init 12 = .ok (.aload_n 0, 1) := by decide +kernel
theorem dX3_init_13 : decode cX3_init 13 = .ok (.bipush 31, 2) := by decide +kernel
theorem dX3_init_15 : decode cX3_init 15 = .ok (.bipush 36, 2) := by decide +kernel
theorem dX3_init_17 : decode cX3_init 17 = .ok (.multianewarray 15 2, 4) := by decide +kernel
theorem dX3_init_21 : decode cX3_init 21 = .ok (.putfield 17, 3) := by decide +kernel
theorem dX3_init_24 : decode cX3_init 24 = .ok (.aload_n 0, 1) := by decide +kernel
theorem dX3_init_25 : decode cX3_init 25 = .ok (.aload_n 1, 1) := by decide +kernel
theorem dX3_init_26 : decode cX3_init 26 = .ok (.putfield 20, 3) := by decide +kernel
theorem dX3_init_29 : decode cX3_init 29 = .ok (.aload_n 0, 1) := by decide +kernel
theorem dX3_init_30 : decode cX3_init 30 = .ok (.aload_n 2, 1) := by decide +kernel
theorem dX3_init_31 : decode cX3_init 31 = .ok (.putfield 24, 3) := by decide +kernel
theorem dX3_init_34 : decode cX3_init 34 = .ok (.aload_n 0, 1) := by decide +kernel
theorem dX3_init_35 : decode cX3_init 35 = .ok (.aload_n 3, 1) := by decide +kernel
theorem dX3_init_36 : decode cX3_init 36 = .ok (.putfield 28, 3) := by decide +kernel
theorem dX3_init_39 : decode cX3_init 39 = .ok (.return_, 1) := by decide +kernel
theorem dX3_growth_0 : decode cX3_growth 0 = .ok (.aload_n 0, 1) := by decide +kernel
theorem dX3_growth_1 : decode cX3_growth 1 = .ok (.getfield 32, 3) := by decide +kernel
theorem dX3_growth_4 : decode cX3_growth 4 = .ok (.aload_n 1, 1) := by decide +kernel
theorem dX3_growth_5 : decode cX3_growth 5 = .ok (.getfield 36, 3) := by decide +kernel
theorem dX3_growth_8 : decode cX3_growth 8 = .ok (.imul, 1) := by decide +kernel
theorem dX3_growth_9 : decode cX3_growth 9 = .ok (.ireturn, 1) := by decide +kernel
theorem dX3_findQuietest_0 : decode cX3_findQuietest 0 = .ok (.aload_n 0, 1) := by decide +kernel
theorem dX3_findQuietest_1 : decode cX3_findQuietest 1 = .ok (.getfield 24, 3) := by decide +kernel
theorem dX3_findQuietest_4 : decode cX3_findQuietest 4 = .ok (.aload_n 1, 1) := by decide +kernel
theorem dX3_findQuietest_5 : decode cX3_findQuietest 5 = .ok (.iconst 0, 1) := by decide +kernel
theorem dX3_findQuietest_6 : decode cX3_findQuietest 6 = .ok (.invokevirtual 41, 3) := by decide +kernel
theorem dX3_findQuietest_9 : decode cX3_findQuietest 9 = .ok (.iconst 0, 1) := by decide +kernel
theorem dX3_findQuietest_10 : decode cX3_findQuietest 10 = .ok (.istore_n 2, 1) := by decide +kernel
theorem dX3_findQuietest_11 : decode cX3_findQuietest 11 = .ok (.iload_n 2, 1) := by decide +kernel
theorem dX3_findQuietest_12 : decode cX3_findQuietest 12 = .ok (.aload_n 0, 1) := by decide +kernel
theorem dX3_findQuietest_13 : decode cX3_findQuietest 13 = .ok (.getfield 20, 3) := by decide +kernel
theorem dX3_findQuietest_16 : decode cX3_findQuietest 16 = .ok (.getfield 47, 3) := by decide +kernel
theorem dX3_findQuietest_19 : decode cX3_findQuietest 19 = .ok (.if_icmp .ge 23, 3) := by decide +kernel
theorem dX3_findQuietest_22 : decode cX3_findQuietest 22 = .ok (.aload_n 0, 1) := by decide +kernel
theorem dX3_findQuietest_23 : decode cX3_findQuietest 23 = .ok (.getfield 9, 3) := by decide +kernel
theorem dX3_findQuietest_26 : decode cX3_findQuietest 26 = .ok (.iload_n 2, 1) := by decide +kernel
theorem dX3_findQuietest_27 : decode cX3_findQuietest 27 = .ok (.aload_n 0, 1) := by decide +kernel
theorem dX3_findQuietest_28 : decode cX3_findQuietest 28 = .ok (.getfield 28, 3) := by decide +kernel
theorem dX3_findQuietest_31 : decode cX3_findQuietest 31 = .ok (.iload_n 2, 1) := by decide +kernel
theorem dX3_findQuietest_32 : decode cX3_findQuietest 32 = .ok (.invokevirtual 52, 3) := by decide +kernel
theorem dX3_findQuietest_35 : decode cX3_findQuietest 35 = .ok (.iastore, 1) := by decide +kernel
theorem dX3_findQuietest_36 : decode cX3_findQuietest 36 = .ok (.iinc 2 1, 3) := by decide +kernel
theorem dX3_findQuietest_39 : decode cX3_findQuietest 39 = .ok (.goto (-28), 3) := by decide +kernel
theorem dX3_findQuietest_42 : decode cX3_findQuietest 42 = .ok (.aload_n 0, 1) := by decide +kernel
theorem dX3_findQuietest_43 : decode cX3_findQuietest 43 = .ok (.ldc 58, 2) := by decide +kernel
theorem dX3_findQuietest_45 : decode cX3_findQuietest 45 = .ok (.putfield 32, 3) := by decide +kernel
theorem dX3_findQuietest_48 : decode cX3_findQuietest 48 = .ok (.aload_n 1, 1) := by decide +kernel
theorem dX3_findQuietest_49 : decode cX3_findQuietest 49 = .ok (.getfield 59, 3) := by decide +kernel
theorem dX3_findQuietest_52 : decode cX3_findQuietest 52 = .ok (.iconst 1, 1) := by decide +kernel
theorem dX3_findQuietest_53 : decode cX3_findQuietest 53 = .ok (.iadd, 1) := by decide +kernel
theorem dX3_findQuietest_54 : decode cX3_findQuietest 54 = .ok (.istore_n 2, 1) := by decide +kernel
theorem dX3_findQuietest_55 : decode cX3_findQuietest 55 = .ok (.iload_n 2, 1) := by decide +kernel
theorem dX3_findQuietest_56 : decode cX3_findQuietest 56 = .ok (.aload_n 1, 1) := by decide +kernel
theorem dX3_findQuietest_57 : decode cX3_findQuietest 57 = .ok (.getfield 62, 3) := by decide +kernel
theorem dX3_findQuietest_60 : decode cX3_findQuietest 60 = .ok (.if_icmp .gt 21, 3) := by decide +kernel
theorem dX3_findQuietest_63 : decode cX3_findQuietest 63 = .ok (.iload_n 2, 1) := by decide +kernel
theorem dX3_findQuietest_64 : decode cX3_findQuietest 64 = .ok (.bipush 60, 2) := by decide +kernel
theorem dX3_findQuietest_66 : decode cX3_findQuietest 66 = .ok (.if_icmp .ge 15, 3) := by decide +kernel
theorem dX3_findQuietest_69 : decode cX3_findQuietest 69 = .ok (.aload_n 0, 1) := by decide +kernel
theorem dX3_findQuietest_70 : decode cX3_findQuietest 70 = .ok (.aload_n 1, 1) := by decide +kernel
theorem dX3_findQuietest_71 : decode cX3_findQuietest 71 = .ok (.iload_n 2, 1) := by decide +kernel
theorem dX3_findQuietest_72 : decode cX3_findQuietest 72 = .ok (.invokevirtual 65, 3) := by decide +kernel
theorem dX3_findQuietest_75 : decode cX3_findQuietest 75 = .ok (.iinc 2 1, 3) := by decide +kernel
theorem dX3_findQuietest_78 : decode cX3_findQuietest 78 = .ok (.goto (-23), 3) := by decide +kernel
theorem dX3_findQuietest_81 : decode cX3_findQuietest 81 = .ok (.aload_n 0, 1) := by decide +kernel
theorem dX3_findQuietest_82 : decode cX3_findQuietest 82 = .ok (.getfield 32, 3) := by decide +kernel
theorem dX3_findQuietest_85 : decode cX3_findQuietest 85 = .ok (.ldc 58, 2) := by decide +kernel
theorem dX3_findQuietest_87 : decode cX3_findQuietest 87 = .ok (.if_icmp .ne 5, 3) := by decide +kernel
theorem dX3_findQuietest_90 : decode cX3_findQuietest 90 = .ok (.iconst 0, 1) := by decide +kernel
theorem dX3_findQuietest_91 : decode cX3_findQuietest 91 = .ok (.ireturn, 1) := by decide +kernel
theorem dX3_findQuietest_92 : decode cX3_findQuietest 92 = .ok (.aload_n 0, 1) := by decide +kernel
theorem dX3_findQuietest_93 : decode cX3_findQuietest 93 = .ok (.aload_n 1, 1) := by decide +kernel
theorem dX3_findQuietest_94 : decode cX3_findQuietest 94 = .ok (.invokevirtual 68, 3) := by decide +kernel
theorem dX3_findQuietest_97 : decode cX3_findQuietest 97 = .ok (.iconst 1, 1) := by decide +kernel
theorem dX3_findQuietest_98 : decode cX3_findQuietest 98 = .ok (.ireturn, 1) := by decide +kernel
theorem dX3_lookBack_0 : decode cX3_lookBack 0 = .ok (.aload_n 0, 1) := by decide +kernel
theorem dX3_lookBack_1 : decode cX3_lookBack 1 = .ok (.aload_n 1, 1) := by decide +kernel
theorem dX3_lookBack_2 : decode cX3_lookBack 2 = .ok (.getfield 72, 3) := by decide +kernel
theorem dX3_lookBack_5 : decode cX3_lookBack 5 = .ok (.iload_n 2, 1) := by decide +kernel
theorem dX3_lookBack_6 : decode cX3_lookBack 6 = .ok (.invokevirtual 75, 3) := by decide +kernel
theorem dX3_lookBack_9 : decode cX3_lookBack 9 = .ok (.ifCond .ne 4, 3) := by decide +kernel
theorem dX3_lookBack_12 : decode cX3_lookBack 12 = .ok (.return_, 1) := by decide +kernel
theorem dX3_lookBack_13 : decode cX3_lookBack 13 = .ok (.aload_n 1, 1) := by decide +kernel
theorem dX3_lookBack_14 : decode cX3_lookBack 14 = .ok (.getfield 59, 3) := by decide +kernel
theorem dX3_lookBack_17 : decode cX3_lookBack 17 = .ok (.iload_n 2, 1) := by decide +kernel
theorem dX3_lookBack_18 : decode cX3_lookBack 18 = .ok (.aload_n 1, 1) := by decide +kernel
theorem dX3_lookBack_19 : decode cX3_lookBack 19 = .ok (.getfield 79, 3) := by decide +kernel
theorem dX3_lookBack_22 : decode cX3_lookBack 22 = .ok (.isub, 1) := by decide +kernel
theorem dX3_lookBack_23 : decode cX3_lookBack 23 = .ok (.invokestatic 82, 3) := by decide +kernel
theorem dX3_lookBack_26 : decode cX3_lookBack 26 = .ok (.istore_n 3, 1) := by decide +kernel
theorem dX3_lookBack_27 : decode cX3_lookBack 27 = .ok (.iload_n 2, 1) := by decide +kernel
theorem dX3_lookBack_28 : decode cX3_lookBack 28 = .ok (.iconst 1, 1) := by decide +kernel
theorem dX3_lookBack_29 : decode cX3_lookBack 29 = .ok (.isub, 1) := by decide +kernel
theorem dX3_lookBack_30 : decode cX3_lookBack 30 = .ok (.istore 4, 2) := by decide +kernel
theorem dX3_lookBack_32 : decode cX3_lookBack 32 = .ok (.iload 4, 2) := by decide +kernel
theorem dX3_lookBack_34 : decode cX3_lookBack 34 = .ok (.iload_n 3, 1) := by decide +kernel
theorem dX3_lookBack_35 : decode cX3_lookBack 35 = .ok (.if_icmp .lt 69, 3) := by decide +kernel
theorem dX3_lookBack_38 : decode cX3_lookBack 38 = .ok (.aload_n 0, 1) := by decide +kernel
theorem dX3_lookBack_39 : decode cX3_lookBack 39 = .ok (.iload 4, 2) := by decide +kernel
theorem dX3_lookBack_41 : decode cX3_lookBack 41 = .ok (.iload_n 2, 1) := by decide +kernel
theorem dX3_lookBack_42 : decode cX3_lookBack 42 = .ok (.iload 4, 2) := by decide +kernel
theorem dX3_lookBack_44 : decode cX3_lookBack 44 = .ok (.isub, 1) := by decide +kernel
theorem dX3_lookBack_45 : decode cX3_lookBack 45 = .ok (.aload_n 0, 1) := by decide +kernel
theorem dX3_lookBack_46 : decode cX3_lookBack 46 = .ok (.getfield 32, 3) := by decide +kernel
theorem dX3_lookBack_49 : decode cX3_lookBack 49 = .ok (.invokevirtual 88, 3) := by decide +kernel
theorem dX3_lookBack_52 : decode cX3_lookBack 52 = .ok (.ifCond .ne 4, 3) := by decide +kernel
theorem dX3_lookBack_55 : decode cX3_lookBack 55 = .ok (.return_, 1) := by decide +kernel
theorem dX3_lookBack_56 : decode cX3_lookBack 56 = .ok (.aload_n 0, 1) := by decide +kernel
theorem dX3_lookBack_57 : decode cX3_lookBack 57 = .ok (.getfield 17, 3) := by decide +kernel
theorem dX3_lookBack_60 : decode cX3_lookBack 60 = .ok (.iload_n 2, 1) := by decide +kernel
theorem dX3_lookBack_61 : decode cX3_lookBack 61 = .ok (.iload 4, 2) := by decide +kernel
theorem dX3_lookBack_63 : decode cX3_lookBack 63 = .ok (.isub, 1) := by decide +kernel
theorem dX3_lookBack_64 : decode cX3_lookBack 64 = .ok (.aaload, 1) := by decide +kernel
theorem dX3_lookBack_65 : decode cX3_lookBack 65 = .ok (.aload_n 1, 1) := by decide +kernel
theorem dX3_lookBack_66 : decode cX3_lookBack 66 = .ok (.getfield 92, 3) := by decide +kernel
theorem dX3_lookBack_69 : decode cX3_lookBack 69 = .ok (.iaload, 1) := by decide +kernel
theorem dX3_lookBack_70 : decode cX3_lookBack 70 = .ok (.istore 5, 2) := by decide +kernel
theorem dX3_lookBack_72 : decode cX3_lookBack 72 = .ok (.iload 5, 2) := by decide +kernel
theorem dX3_lookBack_74 : decode cX3_lookBack 74 = .ok (.aload_n 0, 1) := by decide +kernel
theorem dX3_lookBack_75 : decode cX3_lookBack 75 = .ok (.getfield 32, 3) := by decide +kernel
theorem dX3_lookBack_78 : decode cX3_lookBack 78 = .ok (.if_icmp .ge 20, 3) := by decide +kernel
theorem dX3_lookBack_81 : decode cX3_lookBack 81 = .ok (.aload_n 0, 1) := by decide +kernel
theorem dX3_lookBack_82 : decode cX3_lookBack 82 = .ok (.iload 5, 2) := by decide +kernel
theorem dX3_lookBack_84 : decode cX3_lookBack 84 = .ok (.putfield 32, 3) := by decide +kernel
theorem dX3_lookBack_87 : decode cX3_lookBack 87 = .ok (.aload_n 0, 1) := by decide +kernel
theorem dX3_lookBack_88 : decode cX3_lookBack 88 = .ok (.iload 4, 2) := by decide +kernel
theorem dX3_lookBack_90 : decode cX3_lookBack 90 = .ok (.putfield 95, 3) := by decide +kernel
theorem dX3_lookBack_93 : decode cX3_lookBack 93 = .ok (.aload_n 0, 1) := by decide +kernel
theorem dX3_lookBack_94 : decode cX3_lookBack 94 = .ok (.iload_n 2, 1) := by decide +kernel
theorem dX3_lookBack_95 : decode cX3_lookBack 95 = .ok (.putfield 98, 3) := by decide +kernel
theorem dX3_lookBack_98 : decode cX3_lookBack 98 = .ok (.iinc 4 (-1), 3) := by decide +kernel
theorem dX3_lookBack_101 : decode cX3_lookBack 101 = .ok (.goto (-69), 3) := by decide +kernel
theorem dX3_lookBack_104 : decode cX3_lookBack 104 = .ok (.return_, 1) := by decide +kernel
theorem dX3_beginAt_0 : decode cX3_beginAt 0 = .ok (.aload_n 0, 1) := by decide +kernel
theorem dX3_beginAt_1 : decode cX3_beginAt 1 = .ok (.getfield 24, 3) := by decide +kernel
theorem dX3_beginAt_4 : decode cX3_beginAt 4 = .ok (.getfield 101, 3) := by decide +kernel
theorem dX3_beginAt_7 : decode cX3_beginAt 7 = .ok (.iload_n 2, 1) := by decide +kernel
theorem dX3_beginAt_8 : decode cX3_beginAt 8 = .ok (.laload, 1) := by decide +kernel
theorem dX3_beginAt_9 : decode cX3_beginAt 9 = .ok (.iload_n 1, 1) := by decide +kernel
theorem dX3_beginAt_10 : decode cX3_beginAt 10 = .ok (.invokestatic 105, 3) := by decide +kernel
theorem dX3_beginAt_13 : decode cX3_beginAt 13 = .ok (.ifCond .ne 5, 3) := by decide +kernel
theorem dX3_beginAt_16 : decode cX3_beginAt 16 = .ok (.iconst 0, 1) := by decide +kernel
theorem dX3_beginAt_17 : decode cX3_beginAt 17 = .ok (.ireturn, 1) := by decide +kernel
theorem dX3_beginAt_18 : decode cX3_beginAt 18 = .ok (.iconst 0, 1) := by decide +kernel
theorem dX3_beginAt_19 : decode cX3_beginAt 19 = .ok (.istore_n 3, 1) := by decide +kernel
theorem dX3_beginAt_20 : decode cX3_beginAt 20 = .ok (.iload_n 3, 1) := by decide +kernel
theorem dX3_beginAt_21 : decode cX3_beginAt 21 = .ok (.aload_n 0, 1) := by decide +kernel
theorem dX3_beginAt_22 : decode cX3_beginAt 22 = .ok (.getfield 20, 3) := by decide +kernel
theorem dX3_beginAt_25 : decode cX3_beginAt 25 = .ok (.getfield 47, 3) := by decide +kernel
theorem dX3_beginAt_28 : decode cX3_beginAt 28 = .ok (.if_icmp .ge 33, 3) := by decide +kernel
theorem dX3_beginAt_31 : decode cX3_beginAt 31 = .ok (.aload_n 0, 1) := by decide +kernel
theorem dX3_beginAt_32 : decode cX3_beginAt 32 = .ok (.getfield 17, 3) := by decide +kernel
theorem dX3_beginAt_35 : decode cX3_beginAt 35 = .ok (.iconst 0, 1) := by decide +kernel
theorem dX3_beginAt_36 : decode cX3_beginAt 36 = .ok (.aaload, 1) := by decide +kernel
theorem dX3_beginAt_37 : decode cX3_beginAt 37 = .ok (.iload_n 3, 1) := by decide +kernel
theorem dX3_beginAt_38 : decode cX3_beginAt 38 = .ok (.iload_n 3, 1) := by decide +kernel
theorem dX3_beginAt_39 : decode cX3_beginAt 39 = .ok (.iload_n 1, 1) := by decide +kernel
theorem dX3_beginAt_40 : decode cX3_beginAt 40 = .ok (.if_icmp .ne 12, 3) := by decide +kernel
theorem dX3_beginAt_43 : decode cX3_beginAt 43 = .ok (.aload_n 0, 1) := by decide +kernel
theorem dX3_beginAt_44 : decode cX3_beginAt 44 = .ok (.getfield 9, 3) := by decide +kernel
theorem dX3_beginAt_47 : decode cX3_beginAt 47 = .ok (.iload_n 1, 1) := by decide +kernel
theorem dX3_beginAt_48 : decode cX3_beginAt 48 = .ok (.iaload, 1) := by decide +kernel
theorem dX3_beginAt_49 : decode cX3_beginAt 49 = .ok (.goto 5, 3) := by decide +kernel
theorem dX3_beginAt_52 : decode cX3_beginAt 52 = .ok (.ldc 58, 2) := by decide +kernel
theorem dX3_beginAt_54 : decode cX3_beginAt 54 = .ok (.iastore, 1) := by decide +kernel
theorem dX3_beginAt_55 : decode cX3_beginAt 55 = .ok (.iinc 3 1, 3) := by decide +kernel
theorem dX3_beginAt_58 : decode cX3_beginAt 58 = .ok (.goto (-38), 3) := by decide +kernel
theorem dX3_beginAt_61 : decode cX3_beginAt 61 = .ok (.iconst 1, 1) := by decide +kernel
theorem dX3_beginAt_62 : decode cX3_beginAt 62 = .ok (.ireturn, 1) := by decide +kernel
theorem dX3_stepBack_0 : decode cX3_stepBack 0 = .ok (.iload_n 2, 1) := by decide +kernel
theorem dX3_stepBack_1 : decode cX3_stepBack 1 = .ok (.iconst 1, 1) := by decide +kernel
theorem dX3_stepBack_2 : decode cX3_stepBack 2 = .ok (.if_icmp .lt 9, 3) := by decide +kernel
theorem dX3_stepBack_5 : decode cX3_stepBack 5 = .ok (.iload_n 2, 1) := by decide +kernel
theorem dX3_stepBack_6 : decode cX3_stepBack 6 = .ok (.bipush 30, 2) := by decide +kernel
theorem dX3_stepBack_8 : decode cX3_stepBack 8 = .ok (.if_icmp .le 5, 3) := by decide +kernel
theorem dX3_stepBack_11 : decode cX3_stepBack 11 = .ok (.iconst 0, 1) := by decide +kernel
theorem dX3_stepBack_12 : decode cX3_stepBack 12 = .ok (.ireturn, 1) := by decide +kernel
theorem dX3_stepBack_13 : decode cX3_stepBack 13 = .ok (.iconst 0, 1) := by decide +kernel
theorem dX3_stepBack_14 : decode cX3_stepBack 14 = .ok (.istore 4, 2) := by decide +kernel
theorem dX3_stepBack_16 : decode cX3_stepBack 16 = .ok (.iconst 0, 1) := by decide +kernel
theorem dX3_stepBack_17 : decode cX3_stepBack 17 = .ok (.istore 5, 2) := by decide +kernel
theorem dX3_stepBack_19 : decode cX3_stepBack 19 = .ok (.iload 5, 2) := by decide +kernel
theorem dX3_stepBack_21 : decode cX3_stepBack 21 = .ok (.aload_n 0, 1) := by decide +kernel
theorem dX3_stepBack_22 : decode cX3_stepBack 22 = .ok (.getfield 20, 3) := by decide +kernel
theorem dX3_stepBack_25 : decode cX3_stepBack 25 = .ok (.getfield 47, 3) := by decide +kernel
theorem dX3_stepBack_28 : decode cX3_stepBack 28 = .ok (.if_icmp .ge 106, 3) := by decide +kernel
theorem dX3_stepBack_31 : decode cX3_stepBack 31 = .ok (.ldc 58, 2) := by decide +kernel
theorem dX3_stepBack_33 : decode cX3_stepBack 33 = .ok (.istore 6, 2) := by decide +kernel
theorem dX3_stepBack_35 : decode cX3_stepBack 35 = .ok (.aload_n 0, 1) := by decide +kernel
theorem dX3_stepBack_36 : decode cX3_stepBack 36 = .ok (.getfield 24, 3) := by decide +kernel
theorem dX3_stepBack_39 : decode cX3_stepBack 39 = .ok (.getfield 101, 3) := by decide +kernel
theorem dX3_stepBack_42 : decode cX3_stepBack 42 = .ok (.iload_n 1, 1) := by decide +kernel
theorem dX3_stepBack_43 : decode cX3_stepBack 43 = .ok (.laload, 1) := by decide +kernel
theorem dX3_stepBack_44 : decode cX3_stepBack 44 = .ok (.iload 5, 2) := by decide +kernel
theorem dX3_stepBack_46 : decode cX3_stepBack 46 = .ok (.invokestatic 105, 3) := by decide +kernel
theorem dX3_stepBack_49 : decode cX3_stepBack 49 = .ok (.ifCond .eq 20, 3) := by decide +kernel
theorem dX3_stepBack_52 : decode cX3_stepBack 52 = .ok (.aload_n 0, 1) := by decide +kernel
theorem dX3_stepBack_53 : decode cX3_stepBack 53 = .ok (.iload 5, 2) := by decide +kernel
theorem dX3_stepBack_55 : decode cX3_stepBack 55 = .ok (.iload_n 1, 1) := by decide +kernel
theorem dX3_stepBack_56 : decode cX3_stepBack 56 = .ok (.aload_n 0, 1) := by decide +kernel
theorem dX3_stepBack_57 : decode cX3_stepBack 57 = .ok (.getfield 17, 3) := by decide +kernel
theorem dX3_stepBack_60 : decode cX3_stepBack 60 = .ok (.iload_n 2, 1) := by decide +kernel
theorem dX3_stepBack_61 : decode cX3_stepBack 61 = .ok (.iconst 1, 1) := by decide +kernel
theorem dX3_stepBack_62 : decode cX3_stepBack 62 = .ok (.isub, 1) := by decide +kernel
theorem dX3_stepBack_63 : decode cX3_stepBack 63 = .ok (.aaload, 1) := by decide +kernel
theorem dX3_stepBack_64 : decode cX3_stepBack 64 = .ok (.invokevirtual 109, 3) := by decide +kernel
theorem dX3_stepBack_67 : decode cX3_stepBack 67 = .ok (.istore 6, 2) := by decide +kernel
theorem dX3_stepBack_69 : decode cX3_stepBack 69 = .ok (.iload 6, 2) := by decide +kernel
theorem dX3_stepBack_71 : decode cX3_stepBack 71 = .ok (.ldc 58, 2) := by decide +kernel
theorem dX3_stepBack_73 : decode cX3_stepBack 73 = .ok (.if_icmp .ge 15, 3) := by decide +kernel
theorem dX3_stepBack_76 : decode cX3_stepBack 76 = .ok (.iload 6, 2) := by decide +kernel
theorem dX3_stepBack_78 : decode cX3_stepBack 78 = .ok (.aload_n 0, 1) := by decide +kernel
theorem dX3_stepBack_79 : decode cX3_stepBack 79 = .ok (.getfield 9, 3) := by decide +kernel
theorem dX3_stepBack_82 : decode cX3_stepBack 82 = .ok (.iload 5, 2) := by decide +kernel
theorem dX3_stepBack_84 : decode cX3_stepBack 84 = .ok (.iaload, 1) := by decide +kernel
theorem dX3_stepBack_85 : decode cX3_stepBack 85 = .ok (.iadd, 1) := by decide +kernel
theorem dX3_stepBack_86 : decode cX3_stepBack 86 = .ok (.istore 6, 2) := by decide +kernel
theorem dX3_stepBack_88 : decode cX3_stepBack 88 = .ok (.aload_n 0, 1) := by decide +kernel
theorem dX3_stepBack_89 : decode cX3_stepBack 89 = .ok (.getfield 17, 3) := by decide +kernel
theorem dX3_stepBack_92 : decode cX3_stepBack 92 = .ok (.iload_n 2, 1) := by decide +kernel
theorem dX3_stepBack_93 : decode cX3_stepBack 93 = .ok (.aaload, 1) := by decide +kernel
theorem dX3_stepBack_94 : decode cX3_stepBack 94 = .ok (.iload 5, 2) := by decide +kernel
theorem dX3_stepBack_96 : decode cX3_stepBack 96 = .ok (.iload 6, 2) := by decide +kernel
theorem dX3_stepBack_98 : decode cX3_stepBack 98 = .ok (.iload_n 3, 1) := by decide +kernel
theorem dX3_stepBack_99 : decode cX3_stepBack 99 = .ok (.if_icmp .ge 8, 3) := by decide +kernel
theorem dX3_stepBack_102 : decode cX3_stepBack 102 = .ok (.iload 6, 2) := by decide +kernel
theorem dX3_stepBack_104 : decode cX3_stepBack 104 = .ok (.goto 5, 3) := by decide +kernel
theorem dX3_stepBack_107 : decode cX3_stepBack 107 = .ok (.ldc 58, 2) := by decide +kernel
theorem dX3_stepBack_109 : decode cX3_stepBack 109 = .ok (.iastore, 1) := by decide +kernel
theorem dX3_stepBack_110 : decode cX3_stepBack 110 = .ok (.iload 4, 2) := by decide +kernel
theorem dX3_stepBack_112 : decode cX3_stepBack 112 = .ok (.ifCond .ne 9, 3) := by decide +kernel
theorem dX3_stepBack_115 : decode cX3_stepBack 115 = .ok (.iload 6, 2) := by decide +kernel
theorem dX3_stepBack_117 : decode cX3_stepBack 117 = .ok (.iload_n 3, 1) := by decide +kernel
theorem dX3_stepBack_118 : decode cX3_stepBack 118 = .ok (.if_icmp .ge 7, 3) := by decide +kernel
theorem dX3_stepBack_121 : decode cX3_stepBack 121 = .ok (.iconst 1, 1) := by decide +kernel
theorem dX3_stepBack_122 : decode cX3_stepBack 122 = .ok (.goto 4, 3) := by decide +kernel
theorem dX3_stepBack_125 : decode cX3_stepBack 125 = .ok (.iconst 0, 1) := by decide +kernel
theorem dX3_stepBack_126 : decode cX3_stepBack 126 = .ok (.istore 4, 2) := by decide +kernel
theorem dX3_stepBack_128 : decode cX3_stepBack 128 = .ok (.iinc 5 1, 3) := by decide +kernel
theorem dX3_stepBack_131 : decode cX3_stepBack 131 = .ok (.goto (-112), 3) := by decide +kernel
theorem dX3_stepBack_134 : decode cX3_stepBack 134 = .ok (.iload 4, 2) := by decide +kernel
theorem dX3_stepBack_136 : decode cX3_stepBack 136 = .ok (.ireturn, 1) := by decide +kernel
theorem dX3_leastNext_0 : decode cX3_leastNext 0 = .ok (.ldc 58, 2) := by decide +kernel
theorem dX3_leastNext_2 : decode cX3_leastNext 2 = .ok (.istore 4, 2) := by decide +kernel
theorem dX3_leastNext_4 : decode cX3_leastNext 4 = .ok (.iconst 0, 1) := by decide +kernel
theorem dX3_leastNext_5 : decode cX3_leastNext 5 = .ok (.istore 5, 2) := by decide +kernel
theorem dX3_leastNext_7 : decode cX3_leastNext 7 = .ok (.iload 5, 2) := by decide +kernel
theorem dX3_leastNext_9 : decode cX3_leastNext 9 = .ok (.iconst 4, 1) := by decide +kernel
theorem dX3_leastNext_10 : decode cX3_leastNext 10 = .ok (.if_icmp .gt 56, 3) := by decide +kernel
theorem dX3_leastNext_13 : decode cX3_leastNext 13 = .ok (.aload_n 0, 1) := by decide +kernel
theorem dX3_leastNext_14 : decode cX3_leastNext 14 = .ok (.getfield 20, 3) := by decide +kernel
theorem dX3_leastNext_17 : decode cX3_leastNext 17 = .ok (.iload_n 1, 1) := by decide +kernel
theorem dX3_leastNext_18 : decode cX3_leastNext 18 = .ok (.iload 5, 2) := by decide +kernel
theorem dX3_leastNext_20 : decode cX3_leastNext 20 = .ok (.invokevirtual 113, 3) := by decide +kernel
theorem dX3_leastNext_23 : decode cX3_leastNext 23 = .ok (.istore 6, 2) := by decide +kernel
theorem dX3_leastNext_25 : decode cX3_leastNext 25 = .ok (.iload 6, 2) := by decide +kernel
theorem dX3_leastNext_27 : decode cX3_leastNext 27 = .ok (.iconst (-1), 1) := by decide +kernel
theorem dX3_leastNext_28 : decode cX3_leastNext 28 = .ok (.if_icmp .eq 32, 3) := by decide +kernel
theorem dX3_leastNext_31 : decode cX3_leastNext 31 = .ok (.aload_n 3, 1) := by decide +kernel
theorem dX3_leastNext_32 : decode cX3_leastNext 32 = .ok (.iload 6, 2) := by decide +kernel
theorem dX3_leastNext_34 : decode cX3_leastNext 34 = .ok (.iaload, 1) := by decide +kernel
theorem dX3_leastNext_35 : decode cX3_leastNext 35 = .ok (.iload 4, 2) := by decide +kernel
theorem dX3_leastNext_37 : decode cX3_leastNext 37 = .ok (.if_icmp .ge 23, 3) := by decide +kernel
theorem dX3_leastNext_40 : decode cX3_leastNext 40 = .ok (.aload_n 0, 1) := by decide +kernel
theorem dX3_leastNext_41 : decode cX3_leastNext 41 = .ok (.getfield 24, 3) := by decide +kernel
theorem dX3_leastNext_44 : decode cX3_leastNext 44 = .ok (.iload 5, 2) := by decide +kernel
theorem dX3_leastNext_46 : decode cX3_leastNext 46 = .ok (.iload_n 1, 1) := by decide +kernel
theorem dX3_leastNext_47 : decode cX3_leastNext 47 = .ok (.iload_n 2, 1) := by decide +kernel
theorem dX3_leastNext_48 : decode cX3_leastNext 48 = .ok (.invokevirtual 116, 3) := by decide +kernel
theorem dX3_leastNext_51 : decode cX3_leastNext 51 = .ok (.ifCond .eq 9, 3) := by decide +kernel
theorem dX3_leastNext_54 : decode cX3_leastNext 54 = .ok (.aload_n 3, 1) := by decide +kernel
theorem dX3_leastNext_55 : decode cX3_leastNext 55 = .ok (.iload 6, 2) := by decide +kernel
theorem dX3_leastNext_57 : decode cX3_leastNext 57 = .ok (.iaload, 1) := by decide +kernel
theorem dX3_leastNext_58 : decode cX3_leastNext 58 = .ok (.istore 4, 2) := by decide +kernel
theorem dX3_leastNext_60 : decode cX3_leastNext 60 = .ok (.iinc 5 1, 3) := by decide +kernel
theorem dX3_leastNext_63 : decode cX3_leastNext 63 = .ok (.goto (-56), 3) := by decide +kernel
theorem dX3_leastNext_66 : decode cX3_leastNext 66 = .ok (.iload 4, 2) := by decide +kernel
theorem dX3_leastNext_68 : decode cX3_leastNext 68 = .ok (.ireturn, 1) := by decide +kernel
theorem dX3_follow_0 : decode cX3_follow 0 = .ok (.aload_n 0, 1) := by decide +kernel
theorem dX3_follow_1 : decode cX3_follow 1 = .ok (.aload_n 1, 1) := by decide +kernel
theorem dX3_follow_2 : decode cX3_follow 2 = .ok (.getfield 72, 3) := by decide +kernel
theorem dX3_follow_5 : decode cX3_follow 5 = .ok (.aload_n 0, 1) := by decide +kernel
theorem dX3_follow_6 : decode cX3_follow 6 = .ok (.getfield 98, 3) := by decide +kernel
theorem dX3_follow_9 : decode cX3_follow 9 = .ok (.invokevirtual 75, 3) := by decide +kernel
theorem dX3_follow_12 : decode cX3_follow 12 = .ok (.ifCond .ne 4, 3) := by decide +kernel
theorem dX3_follow_15 : decode cX3_follow 15 = .ok (.return_, 1) := by decide +kernel
theorem dX3_follow_16 : decode cX3_follow 16 = .ok (.aload_n 0, 1) := by decide +kernel
theorem dX3_follow_17 : decode cX3_follow 17 = .ok (.getfield 98, 3) := by decide +kernel
theorem dX3_follow_20 : decode cX3_follow 20 = .ok (.iconst 1, 1) := by decide +kernel
theorem dX3_follow_21 : decode cX3_follow 21 = .ok (.isub, 1) := by decide +kernel
theorem dX3_follow_22 : decode cX3_follow 22 = .ok (.istore_n 2, 1) := by decide +kernel
theorem dX3_follow_23 : decode cX3_follow 23 = .ok (.iload_n 2, 1) := by decide +kernel
theorem dX3_follow_24 : decode cX3_follow 24 = .ok (.aload_n 0, 1) := by decide +kernel
theorem dX3_follow_25 : decode cX3_follow 25 = .ok (.getfield 95, 3) := by decide +kernel
theorem dX3_follow_28 : decode cX3_follow 28 = .ok (.if_icmp .lt 23, 3) := by decide +kernel
theorem dX3_follow_31 : decode cX3_follow 31 = .ok (.aload_n 0, 1) := by decide +kernel
theorem dX3_follow_32 : decode cX3_follow 32 = .ok (.iload_n 2, 1) := by decide +kernel
theorem dX3_follow_33 : decode cX3_follow 33 = .ok (.aload_n 0, 1) := by decide +kernel
theorem dX3_follow_34 : decode cX3_follow 34 = .ok (.getfield 98, 3) := by decide +kernel
theorem dX3_follow_37 : decode cX3_follow 37 = .ok (.iload_n 2, 1) := by decide +kernel
theorem dX3_follow_38 : decode cX3_follow 38 = .ok (.isub, 1) := by decide +kernel
theorem dX3_follow_39 : decode cX3_follow 39 = .ok (.ldc 58, 2) := by decide +kernel
theorem dX3_follow_41 : decode cX3_follow 41 = .ok (.invokevirtual 88, 3) := by decide +kernel
theorem dX3_follow_44 : decode cX3_follow 44 = .ok (.pop, 1) := by decide +kernel
theorem dX3_follow_45 : decode cX3_follow 45 = .ok (.iinc 2 (-1), 3) := by decide +kernel
theorem dX3_follow_48 : decode cX3_follow 48 = .ok (.goto (-25), 3) := by decide +kernel
theorem dX3_follow_51 : decode cX3_follow 51 = .ok (.aload_n 1, 1) := by decide +kernel
theorem dX3_follow_52 : decode cX3_follow 52 = .ok (.getfield 92, 3) := by decide +kernel
theorem dX3_follow_55 : decode cX3_follow 55 = .ok (.istore_n 2, 1) := by decide +kernel
theorem dX3_follow_56 : decode cX3_follow 56 = .ok (.aload_n 1, 1) := by decide +kernel
theorem dX3_follow_57 : decode cX3_follow 57 = .ok (.getfield 119, 3) := by decide +kernel
theorem dX3_follow_60 : decode cX3_follow 60 = .ok (.aload_n 0, 1) := by decide +kernel
theorem dX3_follow_61 : decode cX3_follow 61 = .ok (.getfield 95, 3) := by decide +kernel
theorem dX3_follow_64 : decode cX3_follow 64 = .ok (.iload_n 2, 1) := by decide +kernel
theorem dX3_follow_65 : decode cX3_follow 65 = .ok (.invokevirtual 123, 3) := by decide +kernel
theorem dX3_follow_68 : decode cX3_follow 68 = .ok (.aload_n 0, 1) := by decide +kernel
theorem dX3_follow_69 : decode cX3_follow 69 = .ok (.getfield 95, 3) := by decide +kernel
theorem dX3_follow_72 : decode cX3_follow 72 = .ok (.istore_n 3, 1) := by decide +kernel
theorem dX3_follow_73 : decode cX3_follow 73 = .ok (.iload_n 3, 1) := by decide +kernel
theorem dX3_follow_74 : decode cX3_follow 74 = .ok (.aload_n 0, 1) := by decide +kernel
theorem dX3_follow_75 : decode cX3_follow 75 = .ok (.getfield 98, 3) := by decide +kernel
theorem dX3_follow_78 : decode cX3_follow 78 = .ok (.if_icmp .ge 38, 3) := by decide +kernel
theorem dX3_follow_81 : decode cX3_follow 81 = .ok (.aload_n 0, 1) := by decide +kernel
theorem dX3_follow_82 : decode cX3_follow 82 = .ok (.iload_n 2, 1) := by decide +kernel
theorem dX3_follow_83 : decode cX3_follow 83 = .ok (.iload_n 3, 1) := by decide +kernel
theorem dX3_follow_84 : decode cX3_follow 84 = .ok (.invokevirtual 129, 3) := by decide +kernel
theorem dX3_follow_87 : decode cX3_follow 87 = .ok (.istore 4, 2) := by decide +kernel
theorem dX3_follow_89 : decode cX3_follow 89 = .ok (.aload_n 0, 1) := by decide +kernel
theorem dX3_follow_90 : decode cX3_follow 90 = .ok (.getfield 20, 3) := by decide +kernel
theorem dX3_follow_93 : decode cX3_follow 93 = .ok (.iload_n 2, 1) := by decide +kernel
theorem dX3_follow_94 : decode cX3_follow 94 = .ok (.iload 4, 2) := by decide +kernel
theorem dX3_follow_96 : decode cX3_follow 96 = .ok (.invokevirtual 113, 3) := by decide +kernel
theorem dX3_follow_99 : decode cX3_follow 99 = .ok (.istore_n 2, 1) := by decide +kernel
theorem dX3_follow_100 : decode cX3_follow 100 = .ok (.aload_n 1, 1) := by decide +kernel
theorem dX3_follow_101 : decode cX3_follow 101 = .ok (.getfield 119, 3) := by decide +kernel
theorem dX3_follow_104 : decode cX3_follow 104 = .ok (.iload 4, 2) := by decide +kernel
theorem dX3_follow_106 : decode cX3_follow 106 = .ok (.iload_n 2, 1) := by decide +kernel
theorem dX3_follow_107 : decode cX3_follow 107 = .ok (.invokevirtual 132, 3) := by decide +kernel
theorem dX3_follow_110 : decode cX3_follow 110 = .ok (.iinc 3 1, 3) := by decide +kernel
theorem dX3_follow_113 : decode cX3_follow 113 = .ok (.goto (-40), 3) := by decide +kernel
theorem dX3_follow_116 : decode cX3_follow 116 = .ok (.return_, 1) := by decide +kernel
theorem dX3_firstStep_0 : decode cX3_firstStep 0 = .ok (.aload_n 0, 1) := by decide +kernel
theorem dX3_firstStep_1 : decode cX3_firstStep 1 = .ok (.getfield 98, 3) := by decide +kernel
theorem dX3_firstStep_4 : decode cX3_firstStep 4 = .ok (.iload_n 2, 1) := by decide +kernel
theorem dX3_firstStep_5 : decode cX3_firstStep 5 = .ok (.isub, 1) := by decide +kernel
theorem dX3_firstStep_6 : decode cX3_firstStep 6 = .ok (.istore_n 3, 1) := by decide +kernel
theorem dX3_firstStep_7 : decode cX3_firstStep 7 = .ok (.iload_n 3, 1) := by decide +kernel
theorem dX3_firstStep_8 : decode cX3_firstStep 8 = .ok (.iconst 1, 1) := by decide +kernel
theorem dX3_firstStep_9 : decode cX3_firstStep 9 = .ok (.if_icmp .lt 9, 3) := by decide +kernel
theorem dX3_firstStep_12 : decode cX3_firstStep 12 = .ok (.iload_n 3, 1) := by decide +kernel
theorem dX3_firstStep_13 : decode cX3_firstStep 13 = .ok (.bipush 30, 2) := by decide +kernel
theorem dX3_firstStep_15 : decode cX3_firstStep 15 = .ok (.if_icmp .le 5, 3) := by decide +kernel
theorem dX3_firstStep_18 : decode cX3_firstStep 18 = .ok (.iconst 4, 1) := by decide +kernel
theorem dX3_firstStep_19 : decode cX3_firstStep 19 = .ok (.ireturn, 1) := by decide +kernel
theorem dX3_firstStep_20 : decode cX3_firstStep 20 = .ok (.aload_n 0, 1) := by decide +kernel
theorem dX3_firstStep_21 : decode cX3_firstStep 21 = .ok (.getfield 17, 3) := by decide +kernel
theorem dX3_firstStep_24 : decode cX3_firstStep 24 = .ok (.iload_n 3, 1) := by decide +kernel
theorem dX3_firstStep_25 : decode cX3_firstStep 25 = .ok (.aaload, 1) := by decide +kernel
theorem dX3_firstStep_26 : decode cX3_firstStep 26 = .ok (.iload_n 1, 1) := by decide +kernel
theorem dX3_firstStep_27 : decode cX3_firstStep 27 = .ok (.iaload, 1) := by decide +kernel
theorem dX3_firstStep_28 : decode cX3_firstStep 28 = .ok (.aload_n 0, 1) := by decide +kernel
theorem dX3_firstStep_29 : decode cX3_firstStep 29 = .ok (.getfield 9, 3) := by decide +kernel
theorem dX3_firstStep_32 : decode cX3_firstStep 32 = .ok (.iload_n 1, 1) := by decide +kernel
theorem dX3_firstStep_33 : decode cX3_firstStep 33 = .ok (.iaload, 1) := by decide +kernel
theorem dX3_firstStep_34 : decode cX3_firstStep 34 = .ok (.isub, 1) := by decide +kernel
theorem dX3_firstStep_35 : decode cX3_firstStep 35 = .ok (.istore 4, 2) := by decide +kernel
theorem dX3_firstStep_37 : decode cX3_firstStep 37 = .ok (.iconst 0, 1) := by decide +kernel
theorem dX3_firstStep_38 : decode cX3_firstStep 38 = .ok (.istore 5, 2) := by decide +kernel
theorem dX3_firstStep_40 : decode cX3_firstStep 40 = .ok (.iload 5, 2) := by decide +kernel
theorem dX3_firstStep_42 : decode cX3_firstStep 42 = .ok (.iconst 4, 1) := by decide +kernel
theorem dX3_firstStep_43 : decode cX3_firstStep 43 = .ok (.if_icmp .ge 60, 3) := by decide +kernel
theorem dX3_firstStep_46 : decode cX3_firstStep 46 = .ok (.aload_n 0, 1) := by decide +kernel
theorem dX3_firstStep_47 : decode cX3_firstStep 47 = .ok (.getfield 20, 3) := by decide +kernel
theorem dX3_firstStep_50 : decode cX3_firstStep 50 = .ok (.iload_n 1, 1) := by decide +kernel
theorem dX3_firstStep_51 : decode cX3_firstStep 51 = .ok (.iload 5, 2) := by decide +kernel
theorem dX3_firstStep_53 : decode cX3_firstStep 53 = .ok (.invokevirtual 113, 3) := by decide +kernel
theorem dX3_firstStep_56 : decode cX3_firstStep 56 = .ok (.istore 6, 2) := by decide +kernel
theorem dX3_firstStep_58 : decode cX3_firstStep 58 = .ok (.iload 6, 2) := by decide +kernel
theorem dX3_firstStep_60 : decode cX3_firstStep 60 = .ok (.iconst (-1), 1) := by decide +kernel
theorem dX3_firstStep_61 : decode cX3_firstStep 61 = .ok (.if_icmp .eq 36, 3) := by decide +kernel
theorem dX3_firstStep_64 : decode cX3_firstStep 64 = .ok (.aload_n 0, 1) := by decide +kernel
theorem dX3_firstStep_65 : decode cX3_firstStep 65 = .ok (.getfield 17, 3) := by decide +kernel
theorem dX3_firstStep_68 : decode cX3_firstStep 68 = .ok (.iload_n 3, 1) := by decide +kernel
theorem dX3_firstStep_69 : decode cX3_firstStep 69 = .ok (.iconst 1, 1) := by decide +kernel
theorem dX3_firstStep_70 : decode cX3_firstStep 70 = .ok (.isub, 1) := by decide +kernel
theorem dX3_firstStep_71 : decode cX3_firstStep 71 = .ok (.aaload, 1) := by decide +kernel
theorem dX3_firstStep_72 : decode cX3_firstStep 72 = .ok (.iload 6, 2) := by decide +kernel
theorem dX3_firstStep_74 : decode cX3_firstStep 74 = .ok (.iaload, 1) := by decide +kernel
theorem dX3_firstStep_75 : decode cX3_firstStep 75 = .ok (.iload 4, 2) := by decide +kernel
theorem dX3_firstStep_77 : decode cX3_firstStep 77 = .ok (.if_icmp .ne 20, 3) := by decide +kernel
theorem dX3_firstStep_80 : decode cX3_firstStep 80 = .ok (.aload_n 0, 1) := by decide +kernel
theorem dX3_firstStep_81 : decode cX3_firstStep 81 = .ok (.getfield 24, 3) := by decide +kernel
theorem dX3_firstStep_84 : decode cX3_firstStep 84 = .ok (.iload 5, 2) := by decide +kernel
theorem dX3_firstStep_86 : decode cX3_firstStep 86 = .ok (.iload_n 1, 1) := by decide +kernel
theorem dX3_firstStep_87 : decode cX3_firstStep 87 = .ok (.iload_n 2, 1) := by decide +kernel
theorem dX3_firstStep_88 : decode cX3_firstStep 88 = .ok (.invokevirtual 116, 3) := by decide +kernel
theorem dX3_firstStep_91 : decode cX3_firstStep 91 = .ok (.ifCond .eq 6, 3) := by decide +kernel
theorem dX3_firstStep_94 : decode cX3_firstStep 94 = .ok (.iload 5, 2) := by decide +kernel
theorem dX3_firstStep_96 : decode cX3_firstStep 96 = .ok (.ireturn, 1) := by decide +kernel
theorem dX3_firstStep_97 : decode cX3_firstStep 97 = .ok (.iinc 5 1, 3) := by decide +kernel
theorem dX3_firstStep_100 : decode cX3_firstStep 100 = .ok (.goto (-60), 3) := by decide +kernel
theorem dX3_firstStep_103 : decode cX3_firstStep 103 = .ok (.iconst 4, 1) := by decide +kernel
theorem dX3_firstStep_104 : decode cX3_firstStep 104 = .ok (.ireturn, 1) := by decide +kernel
theorem dX4_init_0 : decode cX4_init 0 = .ok (.aload_n 0, 1) := by decide +kernel
theorem dX4_init_1 : decode cX4_init 1 = .ok (.invokespecial 3, 3) := by decide +kernel
theorem dX4_init_4 : decode cX4_init 4 = .ok (.aload_n 0, 1) := by decide +kernel
theorem dX4_init_5 : decode cX4_init 5 = .ok (.iconst 5, 1) := by decide +kernel
theorem dX4_init_6 : decode cX4_init 6 = .ok (.newarray .int, 2) := by decide +kernel
theorem dX4_init_8 : decode cX4_init 8 = .ok (.putfield 9, 3) := by decide +kernel
theorem dX4_init_11 : decode cX4_init 11 = .ok (.aload_n 0, 1) := by decide +kernel
theorem dX4_init_12 : decode cX4_init 12 = .ok (.iconst 5, 1) := by decide +kernel
theorem dX4_init_13 : decode cX4_init 13 = .ok (.newarray .int, 2) := by decide +kernel
theorem dX4_init_15 : decode cX4_init 15 = .ok (.putfield 15, 3) := by decide +kernel
theorem dX4_init_18 : decode cX4_init 18 = .ok (.aload_n 0, 1) := by decide +kernel
theorem dX4_init_19 : decode cX4_init 19 = .ok (.bipush 10, 2) := by decide +kernel
theorem dX4_init_21 : decode cX4_init 21 = .ok (.newarray .int, 2) := by decide +kernel
theorem dX4_init_23 : decode cX4_init 23 = .ok (.putfield 18, 3) := by decide +kernel
theorem dX4_init_26 : decode cX4_init 26 = .ok (.aload_n 0, 1) := by decide +kernel
theorem dX4_init_27 : decode cX4_init 27 = .ok (.aload_n 1, 1) := by decide +kernel
theorem dX4_init_28 : decode cX4_init 28 = .ok (.putfield 21, 3) := by decide +kernel
theorem dX4_init_31 : decode cX4_init 31 = .ok (.aload_n 0, 1) := by decide +kernel
theorem dX4_init_32 : decode cX4_init 32 = .ok (.aload_n 2, 1) := by decide +kernel
theorem dX4_init_33 : decode cX4_init 33 = .ok (.putfield 25, 3) := by decide +kernel
theorem dX4_init_36 : decode cX4_init 36 = .ok (.return_, 1) := by decide +kernel
theorem dX4_number_0 : decode cX4_number 0 = .ok (.iload_n 1, 1) := by decide +kernel
theorem dX4_number_1 : decode cX4_number 1 = .ok (.ifCond .lt 25, 3) := by decide +kernel
theorem dX4_number_4 : decode cX4_number 4 = .ok (.iload_n 1, 1) := by decide +kernel
theorem dX4_number_5 : decode cX4_number 5 = .ok (.aload_n 0, 1) := by decide +kernel
theorem dX4_number_6 : decode cX4_number 6 = .ok (.getfield 29, 3) := by decide +kernel
theorem dX4_number_9 : decode cX4_number 9 = .ok (.if_icmp .ge 17, 3) := by decide +kernel
theorem dX4_number_12 : decode cX4_number 12 = .ok (.iload_n 1, 1) := by decide +kernel
theorem dX4_number_13 : decode cX4_number 13 = .ok (.iconst 5, 1) := by decide +kernel
theorem dX4_number_14 : decode cX4_number 14 = .ok (.if_icmp .ge 12, 3) := by decide +kernel
theorem dX4_number_17 : decode cX4_number 17 = .ok (.aload_n 0, 1) := by decide +kernel
theorem dX4_number_18 : decode cX4_number 18 = .ok (.getfield 15, 3) := by decide +kernel
theorem dX4_number_21 : decode cX4_number 21 = .ok (.iload_n 1, 1) := by decide +kernel
theorem dX4_number_22 : decode cX4_number 22 = .ok (.iaload, 1) := by decide +kernel
theorem dX4_number_23 : decode cX4_number 23 = .ok (.goto 5, 3) := by decide +kernel
theorem dX4_number_26 : decode cX4_number 26 = .ok (.ldc 33, 2) := by decide +kernel
theorem dX4_number_28 : decode cX4_number 28 = .ok (.ireturn, 1) := by decide +kernel
theorem dX4_findBest_0 : decode cX4_findBest 0 = .ok (.aload_n 0, 1) := by decide +kernel
theorem dX4_findBest_1 : decode cX4_findBest 1 = .ok (.iload_n 1, 1) := by decide +kernel
theorem dX4_findBest_2 : decode cX4_findBest 2 = .ok (.invokestatic 34, 3) := by decide +kernel
theorem dX4_findBest_5 : decode cX4_findBest 5 = .ok (.putfield 29, 3) := by decide +kernel
theorem dX4_findBest_8 : decode cX4_findBest 8 = .ok (.aload_n 0, 1) := by decide +kernel
theorem dX4_findBest_9 : decode cX4_findBest 9 = .ok (.ldc 40, 2) := by decide +kernel
theorem dX4_findBest_11 : decode cX4_findBest 11 = .ok (.putfield 41, 3) := by decide +kernel
theorem dX4_findBest_14 : decode cX4_findBest 14 = .ok (.iconst 0, 1) := by decide +kernel
theorem dX4_findBest_15 : decode cX4_findBest 15 = .ok (.istore_n 2, 1) := by decide +kernel
theorem dX4_findBest_16 : decode cX4_findBest 16 = .ok (.iload_n 2, 1) := by decide +kernel
theorem dX4_findBest_17 : decode cX4_findBest 17 = .ok (.aload_n 0, 1) := by decide +kernel
theorem dX4_findBest_18 : decode cX4_findBest 18 = .ok (.getfield 21, 3) := by decide +kernel
theorem dX4_findBest_21 : decode cX4_findBest 21 = .ok (.getfield 44, 3) := by decide +kernel
theorem dX4_findBest_24 : decode cX4_findBest 24 = .ok (.if_icmp .ge 41, 3) := by decide +kernel
theorem dX4_findBest_27 : decode cX4_findBest 27 = .ok (.iload_n 1, 1) := by decide +kernel
theorem dX4_findBest_28 : decode cX4_findBest 28 = .ok (.iload_n 2, 1) := by decide +kernel
theorem dX4_findBest_29 : decode cX4_findBest 29 = .ok (.invokestatic 47, 3) := by decide +kernel
theorem dX4_findBest_32 : decode cX4_findBest 32 = .ok (.ifCond .eq 27, 3) := by decide +kernel
theorem dX4_findBest_35 : decode cX4_findBest 35 = .ok (.aload_n 0, 1) := by decide +kernel
theorem dX4_findBest_36 : decode cX4_findBest 36 = .ok (.getfield 18, 3) := by decide +kernel
theorem dX4_findBest_39 : decode cX4_findBest 39 = .ok (.iload_n 2, 1) := by decide +kernel
theorem dX4_findBest_40 : decode cX4_findBest 40 = .ok (.aload_n 0, 1) := by decide +kernel
theorem dX4_findBest_41 : decode cX4_findBest 41 = .ok (.iload_n 2, 1) := by decide +kernel
theorem dX4_findBest_42 : decode cX4_findBest 42 = .ok (.invokevirtual 51, 3) := by decide +kernel
theorem dX4_findBest_45 : decode cX4_findBest 45 = .ok (.iastore, 1) := by decide +kernel
theorem dX4_findBest_46 : decode cX4_findBest 46 = .ok (.aload_n 0, 1) := by decide +kernel
theorem dX4_findBest_47 : decode cX4_findBest 47 = .ok (.getfield 21, 3) := by decide +kernel
theorem dX4_findBest_50 : decode cX4_findBest 50 = .ok (.getfield 54, 3) := by decide +kernel
theorem dX4_findBest_53 : decode cX4_findBest 53 = .ok (.iload_n 2, 1) := by decide +kernel
theorem dX4_findBest_54 : decode cX4_findBest 54 = .ok (.aaload, 1) := by decide +kernel
theorem dX4_findBest_55 : decode cX4_findBest 55 = .ok (.iconst 0, 1) := by decide +kernel
theorem dX4_findBest_56 : decode cX4_findBest 56 = .ok (.putfield 58, 3) := by decide +kernel
theorem dX4_findBest_59 : decode cX4_findBest 59 = .ok (.iinc 2 1, 3) := by decide +kernel
theorem dX4_findBest_62 : decode cX4_findBest 62 = .ok (.goto (-46), 3) := by decide +kernel
theorem dX4_findBest_65 : decode cX4_findBest 65 = .ok (.aload_n 0, 1) := by decide +kernel
theorem dX4_findBest_66 : decode cX4_findBest 66 = .ok (.iconst 0, 1) := by decide +kernel
theorem dX4_findBest_67 : decode cX4_findBest 67 = .ok (.iconst 0, 1) := by decide +kernel
theorem dX4_findBest_68 : decode cX4_findBest 68 = .ok (.iload_n 1, 1) := by decide +kernel
theorem dX4_findBest_69 : decode cX4_findBest 69 = .ok (.invokestatic 64, 3) := by decide +kernel
theorem dX4_findBest_72 : decode cX4_findBest 72 = .ok (.return_, 1) := by decide +kernel
theorem dX4_tryFrom_0 : decode cX4_tryFrom 0 = .ok (.aload_n 0, 1) := by decide +kernel
theorem dX4_tryFrom_1 : decode cX4_tryFrom 1 = .ok (.iload_n 2, 1) := by decide +kernel
theorem dX4_tryFrom_2 : decode cX4_tryFrom 2 = .ok (.iload_n 3, 1) := by decide +kernel
theorem dX4_tryFrom_3 : decode cX4_tryFrom 3 = .ok (.invokevirtual 68, 3) := by decide +kernel
theorem dX4_tryFrom_6 : decode cX4_tryFrom 6 = .ok (.aload_n 0, 1) := by decide +kernel
theorem dX4_tryFrom_7 : decode cX4_tryFrom 7 = .ok (.getfield 41, 3) := by decide +kernel
theorem dX4_tryFrom_10 : decode cX4_tryFrom 10 = .ok (.if_icmp .lt 4, 3) := by decide +kernel
theorem dX4_tryFrom_13 : decode cX4_tryFrom 13 = .ok (.return_, 1) := by decide +kernel
theorem dX4_tryFrom_14 : decode cX4_tryFrom 14 = .ok (.iload_n 3, 1) := by decide +kernel
theorem dX4_tryFrom_15 : decode cX4_tryFrom 15 = .ok (.ifCond .ne 9, 3) := by decide +kernel
theorem dX4_tryFrom_18 : decode cX4_tryFrom 18 = .ok (.aload_n 0, 1) := by decide +kernel
theorem dX4_tryFrom_19 : decode cX4_tryFrom 19 = .ok (.iload_n 2, 1) := by decide +kernel
theorem dX4_tryFrom_20 : decode cX4_tryFrom 20 = .ok (.invokevirtual 72, 3) := by decide +kernel
theorem dX4_tryFrom_23 : decode cX4_tryFrom 23 = .ok (.return_, 1) := by decide +kernel
theorem dX4_tryFrom_24 : decode cX4_tryFrom 24 = .ok (.iload_n 1, 1) := by decide +kernel
theorem dX4_tryFrom_25 : decode cX4_tryFrom 25 = .ok (.iconst 5, 1) := by decide +kernel
theorem dX4_tryFrom_26 : decode cX4_tryFrom 26 = .ok (.if_icmp .lt 4, 3) := by decide +kernel
theorem dX4_tryFrom_29 : decode cX4_tryFrom 29 = .ok (.return_, 1) := by decide +kernel
theorem dX4_tryFrom_30 : decode cX4_tryFrom 30 = .ok (.iconst 0, 1) := by decide +kernel
theorem dX4_tryFrom_31 : decode cX4_tryFrom 31 = .ok (.istore 4, 2) := by decide +kernel
theorem dX4_tryFrom_33 : decode cX4_tryFrom 33 = .ok (.iload 4, 2) := by decide +kernel
theorem dX4_tryFrom_35 : decode cX4_tryFrom 35 = .ok (.aload_n 0, 1) := by decide +kernel
theorem dX4_tryFrom_36 : decode cX4_tryFrom 36 = .ok (.getfield 21, 3) := by decide +kernel
theorem dX4_tryFrom_39 : decode cX4_tryFrom 39 = .ok (.getfield 44, 3) := by decide +kernel
theorem dX4_tryFrom_42 : decode cX4_tryFrom 42 = .ok (.if_icmp .ge 67, 3) := by decide +kernel
theorem dX4_tryFrom_45 : decode cX4_tryFrom 45 = .ok (.iload_n 3, 1) := by decide +kernel
theorem dX4_tryFrom_46 : decode cX4_tryFrom 46 = .ok (.iload 4, 2) := by decide +kernel
theorem dX4_tryFrom_48 : decode cX4_tryFrom 48 = .ok (.invokestatic 47, 3) := by decide +kernel
theorem dX4_tryFrom_51 : decode cX4_tryFrom 51 = .ok (.ifCond .eq 52, 3) := by decide +kernel
theorem dX4_tryFrom_54 : decode cX4_tryFrom 54 = .ok (.aload_n 0, 1) := by decide +kernel
theorem dX4_tryFrom_55 : decode cX4_tryFrom 55 = .ok (.getfield 9, 3) := by decide +kernel
theorem dX4_tryFrom_58 : decode cX4_tryFrom 58 = .ok (.iload_n 1, 1) := by decide +kernel
theorem dX4_tryFrom_59 : decode cX4_tryFrom 59 = .ok (.iload 4, 2) := by decide +kernel
theorem dX4_tryFrom_61 : decode cX4_tryFrom 61 = .ok (.iastore, 1) := by decide +kernel
theorem dX4_tryFrom_62 : decode cX4_tryFrom 62 = .ok (.aload_n 0, 1) := by decide +kernel
theorem dX4_tryFrom_63 : decode cX4_tryFrom 63 = .ok (.iload 4, 2) := by decide +kernel
theorem dX4_tryFrom_65 : decode cX4_tryFrom 65 = .ok (.invokevirtual 51, 3) := by decide +kernel
theorem dX4_tryFrom_68 : decode cX4_tryFrom 68 = .ok (.istore 5, 2) := by decide +kernel
theorem dX4_tryFrom_70 : decode cX4_tryFrom 70 = .ok (.aload_n 0, 1) := by decide +kernel
theorem dX4_tryFrom_71 : decode cX4_tryFrom 71 = .ok (.iload_n 1, 1) := by decide +kernel
theorem dX4_tryFrom_72 : decode cX4_tryFrom 72 = .ok (.iconst 1, 1) := by decide +kernel
theorem dX4_tryFrom_73 : decode cX4_tryFrom 73 = .ok (.iadd, 1) := by decide +kernel
theorem dX4_tryFrom_74 : decode cX4_tryFrom 74 = .ok (.iload_n 2, 1) := by decide +kernel
theorem dX4_tryFrom_75 : decode cX4_tryFrom 75 = .ok (.iload 5, 2) := by decide +kernel
theorem dX4_tryFrom_77 : decode cX4_tryFrom 77 = .ok (.iadd, 1) := by decide +kernel
theorem dX4_tryFrom_78 : decode cX4_tryFrom 78 = .ok (.iload_n 3, 1) := by decide +kernel
theorem dX4_tryFrom_79 : decode cX4_tryFrom 79 = .ok (.iconst 1, 1) := by decide +kernel
theorem dX4_tryFrom_80 : decode cX4_tryFrom 80 = .ok (.iload 4, 2) := by decide +kernel
theorem dX4_tryFrom_82 : decode cX4_tryFrom 82 = .ok (.ishl, 1) := by decide +kernel
theorem dX4_tryFrom_83 : decode cX4_tryFrom 83 = .ok (.iconst (-1), 1) := by decide +kernel
theorem dX4_tryFrom_84 : decode cX4_tryFrom 84 = .ok (.ixor, 1) := by decide +kernel
theorem dX4_tryFrom_85 : decode cX4_tryFrom 85 = .ok (.iand, 1) := by decide +kernel
theorem dX4_tryFrom_86 : decode cX4_tryFrom 86 = .ok (.invokestatic 64, 3) := by decide +kernel
theorem dX4_tryFrom_89 : decode cX4_tryFrom 89 = .ok (.aload_n 0, 1) := by decide +kernel
theorem dX4_tryFrom_90 : decode cX4_tryFrom 90 = .ok (.getfield 21, 3) := by decide +kernel
theorem dX4_tryFrom_93 : decode cX4_tryFrom 93 = .ok (.getfield 54, 3) := by decide +kernel
theorem dX4_tryFrom_96 : decode cX4_tryFrom 96 = .ok (.iload 4, 2) := by decide +kernel
theorem dX4_tryFrom_98 : decode cX4_tryFrom 98 = .ok (.aaload, 1) := by decide +kernel
theorem dX4_tryFrom_99 : decode cX4_tryFrom 99 = .ok (.iconst 0, 1) := by decide +kernel
theorem dX4_tryFrom_100 : decode cX4_tryFrom 100 = .ok (.putfield 58, 3) := by decide +kernel
theorem dX4_tryFrom_103 : decode cX4_tryFrom 103 = .ok (.iinc 4 1, 3) := by decide +kernel
theorem dX4_tryFrom_106 : decode cX4_tryFrom 106 = .ok (.goto (-73), 3) := by decide +kernel
theorem dX4_tryFrom_109 : decode cX4_tryFrom 109 = .ok (.return_, 1) := by decide +kernel
theorem dX4_leastCost_0 : decode cX4_leastCost 0 = .ok (.iload_n 1, 1) := by decide +kernel
theorem dX4_leastCost_1 : decode cX4_leastCost 1 = .ok (.istore_n 3, 1) := by decide +kernel
theorem dX4_leastCost_2 : decode cX4_leastCost 2 = .ok (.iconst 0, 1) := by decide +kernel
theorem dX4_leastCost_3 : decode cX4_leastCost 3 = .ok (.istore 4, 2) := by decide +kernel
theorem dX4_leastCost_5 : decode cX4_leastCost 5 = .ok (.iload 4, 2) := by decide +kernel
theorem dX4_leastCost_7 : decode cX4_leastCost 7 = .ok (.aload_n 0, 1) := by decide +kernel
theorem dX4_leastCost_8 : decode cX4_leastCost 8 = .ok (.getfield 21, 3) := by decide +kernel
theorem dX4_leastCost_11 : decode cX4_leastCost 11 = .ok (.getfield 44, 3) := by decide +kernel
theorem dX4_leastCost_14 : decode cX4_leastCost 14 = .ok (.if_icmp .ge 28, 3) := by decide +kernel
theorem dX4_leastCost_17 : decode cX4_leastCost 17 = .ok (.iload_n 2, 1) := by decide +kernel
theorem dX4_leastCost_18 : decode cX4_leastCost 18 = .ok (.iload 4, 2) := by decide +kernel
theorem dX4_leastCost_20 : decode cX4_leastCost 20 = .ok (.invokestatic 47, 3) := by decide +kernel
theorem dX4_leastCost_23 : decode cX4_leastCost 23 = .ok (.ifCond .eq 13, 3) := by decide +kernel
theorem dX4_leastCost_26 : decode cX4_leastCost 26 = .ok (.iload_n 3, 1) := by decide +kernel
theorem dX4_leastCost_27 : decode cX4_leastCost 27 = .ok (.aload_n 0, 1) := by decide +kernel
theorem dX4_leastCost_28 : decode cX4_leastCost 28 = .ok (.getfield 18, 3) := by decide +kernel
theorem dX4_leastCost_31 : decode cX4_leastCost 31 = .ok (.iload 4, 2) := by decide +kernel
theorem dX4_leastCost_33 : decode cX4_leastCost 33 = .ok (.iaload, 1) := by decide +kernel
theorem dX4_leastCost_34 : decode cX4_leastCost 34 = .ok (.iadd, 1) := by decide +kernel
theorem dX4_leastCost_35 : decode cX4_leastCost 35 = .ok (.istore_n 3, 1) := by decide +kernel
theorem dX4_leastCost_36 : decode cX4_leastCost 36 = .ok (.iinc 4 1, 3) := by decide +kernel
theorem dX4_leastCost_39 : decode cX4_leastCost 39 = .ok (.goto (-34), 3) := by decide +kernel
theorem dX4_leastCost_42 : decode cX4_leastCost 42 = .ok (.iload_n 3, 1) := by decide +kernel
theorem dX4_leastCost_43 : decode cX4_leastCost 43 = .ok (.ireturn, 1) := by decide +kernel
