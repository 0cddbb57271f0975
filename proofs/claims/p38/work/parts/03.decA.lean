theorem dX0_init_0 : decode cX0_init 0 = .ok (.aload_n 0, 1) := by decide +kernel
theorem dX0_init_1 : decode cX0_init 1 = .ok (.invokespecial 3, 3) := by decide +kernel
theorem dX0_init_4 : decode cX0_init 4 = .ok (.aload_n 0, 1) := by decide +kernel
theorem dX0_init_5 : decode cX0_init 5 = .ok (.bipush 60, 2) := by decide +kernel
theorem dX0_init_7 : decode cX0_init 7 = .ok (.newarray .int, 2) := by decide +kernel
theorem dX0_init_9 : decode cX0_init 9 = .ok (.putfield 9, 3) := by decide +kernel
theorem dX0_init_12 : decode cX0_init 12 = .ok (.aload_n 0, 1) := by decide +kernel
theorem dX0_init_13 : decode cX0_init 13 = .ok (.bipush 60, 2) := by decide +kernel
theorem dX0_init_15 : decode cX0_init 15 = .ok (.newarray .int, 2) := by decide +kernel
theorem dX0_init_17 : decode cX0_init 17 = .ok (.putfield 15, 3) := by decide +kernel
theorem dX0_init_20 : decode cX0_init 20 = .ok (.aload_n 0, 1) := by decide +kernel
theorem dX0_init_21 : decode cX0_init 21 = .ok (.bipush 60, 2) := by decide +kernel
theorem dX0_init_23 : decode cX0_init 23 = .ok (.newarray .int, 2) := by decide +kernel
theorem dX0_init_25 : decode cX0_init 25 = .ok (.putfield 18, 3) := by decide +kernel
theorem dX0_init_28 : decode cX0_init 28 = .ok (.aload_n 0, 1) := by decide +kernel
theorem dX0_init_29 : decode cX0_init 29 = .ok (.bipush 60, 2) := by decide +kernel
theorem dX0_init_31 : decode cX0_init 31 = .ok (.newarray .int, 2) := by decide +kernel
theorem dX0_init_33 : decode cX0_init 33 = .ok (.putfield 21, 3) := by decide +kernel
theorem dX0_init_36 : decode cX0_init 36 = .ok (.aload_n 0, 1) := by decide +kernel
theorem dX0_init_37 : decode cX0_init 37 = .ok (.iconst 0, 1) := by decide +kernel
theorem dX0_init_38 : decode cX0_init 38 = .ok (.putfield 24, 3) := by decide +kernel
theorem dX0_init_41 : decode cX0_init 41 = .ok (.return_, 1) := by decide +kernel
theorem dX0_add_0 : decode cX0_add 0 = .ok (.aload_n 0, 1) := by decide +kernel
theorem dX0_add_1 : decode cX0_add 1 = .ok (.getfield 9, 3) := by decide +kernel
theorem dX0_add_4 : decode cX0_add 4 = .ok (.aload_n 0, 1) := by decide +kernel
theorem dX0_add_5 : decode cX0_add 5 = .ok (.getfield 24, 3) := by decide +kernel
theorem dX0_add_8 : decode cX0_add 8 = .ok (.iload_n 1, 1) := by decide +kernel
theorem dX0_add_9 : decode cX0_add 9 = .ok (.invokestatic 28, 3) := by decide +kernel
theorem dX0_add_12 : decode cX0_add 12 = .ok (.aload_n 0, 1) := by decide +kernel
theorem dX0_add_13 : decode cX0_add 13 = .ok (.getfield 21, 3) := by decide +kernel
theorem dX0_add_16 : decode cX0_add 16 = .ok (.aload_n 0, 1) := by decide +kernel
theorem dX0_add_17 : decode cX0_add 17 = .ok (.getfield 24, 3) := by decide +kernel
theorem dX0_add_20 : decode cX0_add 20 = .ok (.iload_n 2, 1) := by decide +kernel
theorem dX0_add_21 : decode cX0_add 21 = .ok (.invokestatic 28, 3) := by decide +kernel
theorem dX0_add_24 : decode cX0_add 24 = .ok (.aload_n 0, 1) := by decide +kernel
theorem dX0_add_25 : decode cX0_add 25 = .ok (.getfield 15, 3) := by decide +kernel
theorem dX0_add_28 : decode cX0_add 28 = .ok (.aload_n 0, 1) := by decide +kernel
theorem dX0_add_29 : decode cX0_add 29 = .ok (.getfield 24, 3) := by decide +kernel
theorem dX0_add_32 : decode cX0_add 32 = .ok (.iload_n 3, 1) := by decide +kernel
theorem dX0_add_33 : decode cX0_add 33 = .ok (.invokestatic 28, 3) := by decide +kernel
theorem dX0_add_36 : decode cX0_add 36 = .ok (.aload_n 0, 1) := by decide +kernel
theorem dX0_add_37 : decode cX0_add 37 = .ok (.getfield 18, 3) := by decide +kernel
theorem dX0_add_40 : decode cX0_add 40 = .ok (.aload_n 0, 1) := by decide +kernel
theorem dX0_add_41 : decode cX0_add 41 = .ok (.getfield 24, 3) := by decide +kernel
theorem dX0_add_44 : decode cX0_add 44 = .ok (.iload 4, 2) := by decide +kernel
theorem dX0_add_46 : decode cX0_add 46 = .ok (.invokestatic 28, 3) := by decide +kernel
theorem dX0_add_49 : decode cX0_add 49 = .ok (.aload_n 0, 1) := by decide +kernel
theorem dX0_add_50 : decode cX0_add 50 = .ok (.dup, 1) := by decide +kernel
theorem dX0_add_51 : decode cX0_add 51 = .ok (.getfield 24, 3) := by decide +kernel
theorem dX0_add_54 : decode cX0_add 54 = .ok (.iconst 1, 1) := by decide +kernel
theorem dX0_add_55 : decode cX0_add 55 = .ok (.iadd, 1) := by decide +kernel
theorem dX0_add_56 : decode cX0_add 56 = .ok (.putfield 24, 3) := by decide +kernel
theorem dX0_add_59 : decode cX0_add 59 = .ok (.aload_n 0, 1) := by decide +kernel
theorem dX0_add_60 : decode cX0_add 60 = .ok (.getfield 24, 3) := by decide +kernel
theorem dX0_add_63 : decode cX0_add 63 = .ok (.iconst 1, 1) := by decide +kernel
theorem dX0_add_64 : decode cX0_add 64 = .ok (.isub, 1) := by decide +kernel
theorem dX0_add_65 : decode cX0_add 65 = .ok (.ireturn, 1) := by decide +kernel
theorem dX0_kind_0 : decode cX0_kind 0 = .ok (.aload_n 0, 1) := by decide +kernel
theorem dX0_kind_1 : decode cX0_kind 1 = .ok (.getfield 9, 3) := by decide +kernel
theorem dX0_kind_4 : decode cX0_kind 4 = .ok (.iload_n 1, 1) := by decide +kernel
theorem dX0_kind_5 : decode cX0_kind 5 = .ok (.invokestatic 34, 3) := by decide +kernel
theorem dX0_kind_8 : decode cX0_kind 8 = .ok (.ireturn, 1) := by decide +kernel
theorem dX0_detail_0 : decode cX0_detail 0 = .ok (.aload_n 0, 1) := by decide +kernel
theorem dX0_detail_1 : decode cX0_detail 1 = .ok (.getfield 21, 3) := by decide +kernel
theorem dX0_detail_4 : decode cX0_detail 4 = .ok (.iload_n 1, 1) := by decide +kernel
theorem dX0_detail_5 : decode cX0_detail 5 = .ok (.invokestatic 34, 3) := by decide +kernel
theorem dX0_detail_8 : decode cX0_detail 8 = .ok (.ireturn, 1) := by decide +kernel
theorem dX0_first_0 : decode cX0_first 0 = .ok (.aload_n 0, 1) := by decide +kernel
theorem dX0_first_1 : decode cX0_first 1 = .ok (.getfield 15, 3) := by decide +kernel
theorem dX0_first_4 : decode cX0_first 4 = .ok (.iload_n 1, 1) := by decide +kernel
theorem dX0_first_5 : decode cX0_first 5 = .ok (.invokestatic 34, 3) := by decide +kernel
theorem dX0_first_8 : decode cX0_first 8 = .ok (.ireturn, 1) := by decide +kernel
theorem dX0_second_0 : decode cX0_second 0 = .ok (.aload_n 0, 1) := by decide +kernel
theorem dX0_second_1 : decode cX0_second 1 = .ok (.getfield 18, 3) := by decide +kernel
theorem dX0_second_4 : decode cX0_second 4 = .ok (.iload_n 1, 1) := by decide +kernel
theorem dX0_second_5 : decode cX0_second 5 = .ok (.invokestatic 34, 3) := by decide +kernel
theorem dX0_second_8 : decode cX0_second 8 = .ok (.ireturn, 1) := by decide +kernel
theorem dX0_topKind_0 : decode cX0_topKind 0 = .ok (.aload_n 0, 1) := by decide +kernel
theorem dX0_topKind_1 : decode cX0_topKind 1 = .ok (.aload_n 0, 1) := by decide +kernel
theorem dX0_topKind_2 : decode cX0_topKind 2 = .ok (.getfield 24, 3) := by decide +kernel
theorem dX0_topKind_5 : decode cX0_topKind 5 = .ok (.iconst 1, 1) := by decide +kernel
theorem dX0_topKind_6 : decode cX0_topKind 6 = .ok (.isub, 1) := by decide +kernel
theorem dX0_topKind_7 : decode cX0_topKind 7 = .ok (.invokevirtual 38, 3) := by decide +kernel
theorem dX0_topKind_10 : decode cX0_topKind 10 = .ok (.ireturn, 1) := by decide +kernel
theorem dX0_topCoalition_0 : decode cX0_topCoalition 0 = .ok (.aload_n 0, 1) := by decide +kernel
theorem dX0_topCoalition_1 : decode cX0_topCoalition 1 = .ok (.aload_n 0, 1) := by decide +kernel
theorem dX0_topCoalition_2 : decode cX0_topCoalition 2 = .ok (.getfield 24, 3) := by decide +kernel
theorem dX0_topCoalition_5 : decode cX0_topCoalition 5 = .ok (.iconst 1, 1) := by decide +kernel
theorem dX0_topCoalition_6 : decode cX0_topCoalition 6 = .ok (.isub, 1) := by decide +kernel
theorem dX0_topCoalition_7 : decode cX0_topCoalition 7 = .ok (.invokevirtual 42, 3) := by decide +kernel
theorem dX0_topCoalition_10 : decode cX0_topCoalition 10 = .ok (.ireturn, 1) := by decide +kernel
theorem dX0_hasStrategy_0 : decode cX0_hasStrategy 0 = .ok (.aload_n 0, 1) := by decide +kernel
theorem dX0_hasStrategy_1 : decode cX0_hasStrategy 1 = .ok (.invokevirtual 45, 3) := by decide +kernel
theorem dX0_hasStrategy_4 : decode cX0_hasStrategy 4 = .ok (.bipush 6, 2) := by decide +kernel
theorem dX0_hasStrategy_6 : decode cX0_hasStrategy 6 = .ok (.if_icmp .lt 16, 3) := by decide +kernel
theorem dX0_hasStrategy_9 : decode cX0_hasStrategy 9 = .ok (.aload_n 0, 1) := by decide +kernel
theorem dX0_hasStrategy_10 : decode cX0_hasStrategy 10 = .ok (.invokevirtual 45, 3) := by decide +kernel
theorem dX0_hasStrategy_13 : decode cX0_hasStrategy 13 = .ok (.bipush 9, 2) := by decide +kernel
theorem dX0_hasStrategy_15 : decode cX0_hasStrategy 15 = .ok (.if_icmp .gt 7, 3) := by decide +kernel
theorem dX0_hasStrategy_18 : decode cX0_hasStrategy 18 = .ok (.iconst 1, 1) := by decide +kernel
theorem dX0_hasStrategy_19 : decode cX0_hasStrategy 19 = .ok (.goto 4, 3) := by decide +kernel
theorem dX0_hasStrategy_22 : decode cX0_hasStrategy 22 = .ok (.iconst 0, 1) := by decide +kernel
theorem dX0_hasStrategy_23 : decode cX0_hasStrategy 23 = .ok (.ireturn, 1) := by decide +kernel
theorem dX1_init_0 : decode cX1_init 0 = .ok (.aload_n 0, 1) := by decide +kernel
theorem dX1_init_1 : decode cX1_init 1 = .ok (.invokespecial 3, 3) := by decide +kernel
theorem dX1_init_4 : decode cX1_init 4 = .ok (.aload_n 0, 1) := by decide +kernel
theorem dX1_init_5 : decode cX1_init 5 = .ok (.iconst 4, 1) := by decide +kernel
theorem dX1_init_6 : decode cX1_init 6 = .ok (.anewarray 9, 3) := by decide +kernel
theorem dX1_init_9 : decode cX1_init 9 = .ok (.putfield 11, 3) := by decide +kernel
theorem dX1_init_12 : decode cX1_init 12 = .ok (.aload_n 0, 1) := by decide +kernel
theorem dX1_init_13 : decode cX1_init 13 = .ok (.iconst 0, 1) := by decide +kernel
theorem dX1_init_14 : decode cX1_init 14 = .ok (.putfield 17, 3) := by decide +kernel
theorem dX1_init_17 : decode cX1_init 17 = .ok (.aload_n 0, 1) := by decide +kernel
theorem dX1_init_18 : decode cX1_init 18 = .ok (.iconst 0, 1) := by decide +kernel
theorem dX1_init_19 : decode cX1_init 19 = .ok (.putfield 21, 3) := by decide +kernel
theorem dX1_init_22 : decode cX1_init 22 = .ok (.iconst 0, 1) := by decide +kernel
theorem dX1_init_23 : decode cX1_init 23 = .ok (.istore_n 2, 1) := by decide +kernel
theorem dX1_init_24 : decode cX1_init 24 = .ok (.iload_n 2, 1) := by decide +kernel
theorem dX1_init_25 : decode cX1_init 25 = .ok (.aload_n 0, 1) := by decide +kernel
theorem dX1_init_26 : decode cX1_init 26 = .ok (.getfield 11, 3) := by decide +kernel
theorem dX1_init_29 : decode cX1_init 29 = .ok (.arraylength, 1) := by decide +kernel
theorem dX1_init_30 : decode cX1_init 30 = .ok (.if_icmp .ge 23, 3) := by decide +kernel
theorem dX1_init_33 : decode cX1_init 33 = .ok (.aload_n 0, 1) := by decide +kernel
theorem dX1_init_34 : decode cX1_init 34 = .ok (.getfield 11, 3) := by decide +kernel
theorem dX1_init_37 : decode cX1_init 37 = .ok (.iload_n 2, 1) := by decide +kernel
theorem dX1_init_38 : decode cX1_init 38 = .ok (.new 9, 3) := by decide +kernel
theorem dX1_init_41 : decode cX1_init 41 = .ok (.dup, 1) := by decide +kernel
theorem dX1_init_42 : decode cX1_init 42 = .ok (.iload_n 1, 1) := by decide +kernel
theorem dX1_init_43 : decode cX1_init 43 = .ok (.invokespecial 24, 3) := by decide +kernel
theorem dX1_init_46 : decode cX1_init 46 = .ok (.aastore, 1) := by decide +kernel
theorem dX1_init_47 : decode cX1_init 47 = .ok (.iinc 2 1, 3) := by decide +kernel
theorem dX1_init_50 : decode cX1_init 50 = .ok (.goto (-26), 3) := by decide +kernel
theorem dX1_init_53 : decode cX1_init 53 = .ok (.return_, 1) := by decide +kernel
theorem dX1_keep_0 : decode cX1_keep 0 = .ok (.aload_n 0, 1) := by decide +kernel
theorem dX1_keep_1 : decode cX1_keep 1 = .ok (.getfield 21, 3) := by decide +kernel
theorem dX1_keep_4 : decode cX1_keep 4 = .ok (.iconst 4, 1) := by decide +kernel
theorem dX1_keep_5 : decode cX1_keep 5 = .ok (.if_icmp .lt 25, 3) := by decide +kernel
theorem dX1_keep_8 : decode cX1_keep 8 = .ok (.aload_n 0, 1) := by decide +kernel
theorem dX1_keep_9 : decode cX1_keep 9 = .ok (.aload_n 0, 1) := by decide +kernel
theorem dX1_keep_10 : decode cX1_keep 10 = .ok (.getfield 17, 3) := by decide +kernel
theorem dX1_keep_13 : decode cX1_keep 13 = .ok (.iconst 1, 1) := by decide +kernel
theorem dX1_keep_14 : decode cX1_keep 14 = .ok (.iadd, 1) := by decide +kernel
theorem dX1_keep_15 : decode cX1_keep 15 = .ok (.iconst 4, 1) := by decide +kernel
theorem dX1_keep_16 : decode cX1_keep 16 = .ok (.irem, 1) := by decide +kernel
theorem dX1_keep_17 : decode cX1_keep 17 = .ok (.putfield 17, 3) := by decide +kernel
theorem dX1_keep_20 : decode cX1_keep 20 = .ok (.aload_n 0, 1) := by decide +kernel
theorem dX1_keep_21 : decode cX1_keep 21 = .ok (.dup, 1) := by decide +kernel
theorem dX1_keep_22 : decode cX1_keep 22 = .ok (.getfield 21, 3) := by decide +kernel
theorem dX1_keep_25 : decode cX1_keep 25 = .ok (.iconst 1, 1) := by decide +kernel
theorem dX1_keep_26 : decode cX1_keep 26 = .ok (.isub, 1) := by decide +kernel
theorem dX1_keep_27 : decode cX1_keep 27 = .ok (.putfield 21, 3) := by decide +kernel
theorem dX1_keep_30 : decode cX1_keep 30 = .ok (.aload_n 0, 1) := by decide +kernel
theorem dX1_keep_31 : decode cX1_keep 31 = .ok (.aload_n 0, 1) := by decide +kernel
theorem dX1_keep_32 : decode cX1_keep 32 = .ok (.getfield 21, 3) := by decide +kernel
theorem dX1_keep_35 : decode cX1_keep 35 = .ok (.invokevirtual 27, 3) := by decide +kernel
theorem dX1_keep_38 : decode cX1_keep 38 = .ok (.astore_n 2, 1) := by decide +kernel
theorem dX1_keep_39 : decode cX1_keep 39 = .ok (.aload_n 2, 1) := by decide +kernel
theorem dX1_keep_40 : decode cX1_keep 40 = .ok (.ifnull 18, 3) := by decide +kernel
theorem dX1_keep_43 : decode cX1_keep 43 = .ok (.aload_n 2, 1) := by decide +kernel
theorem dX1_keep_44 : decode cX1_keep 44 = .ok (.aload_n 1, 1) := by decide +kernel
theorem dX1_keep_45 : decode cX1_keep 45 = .ok (.invokevirtual 31, 3) := by decide +kernel
theorem dX1_keep_48 : decode cX1_keep 48 = .ok (.aload_n 0, 1) := by decide +kernel
theorem dX1_keep_49 : decode cX1_keep 49 = .ok (.dup, 1) := by decide +kernel
theorem dX1_keep_50 : decode cX1_keep 50 = .ok (.getfield 21, 3) := by decide +kernel
theorem dX1_keep_53 : decode cX1_keep 53 = .ok (.iconst 1, 1) := by decide +kernel
theorem dX1_keep_54 : decode cX1_keep 54 = .ok (.iadd, 1) := by decide +kernel
theorem dX1_keep_55 : decode cX1_keep 55 = .ok (.putfield 21, 3) := by decide +kernel
theorem dX1_keep_58 : decode cX1_keep 58 = .ok (.return_, 1) := by decide +kernel
theorem dX1_restore_0 : decode cX1_restore 0 = .ok (.aload_n 0, 1) := by decide +kernel
theorem dX1_restore_1 : decode cX1_restore 1 = .ok (.getfield 21, 3) := by decide +kernel
theorem dX1_restore_4 : decode cX1_restore 4 = .ok (.ifCond .le 16, 3) := by decide +kernel
theorem dX1_restore_7 : decode cX1_restore 7 = .ok (.aload_n 0, 1) := by decide +kernel
theorem dX1_restore_8 : decode cX1_restore 8 = .ok (.aload_n 0, 1) := by decide +kernel
theorem dX1_restore_9 : decode cX1_restore 9 = .ok (.getfield 21, 3) := by decide +kernel
theorem dX1_restore_12 : decode cX1_restore 12 = .ok (.iconst 1, 1) := by decide +kernel
theorem dX1_restore_13 : decode cX1_restore 13 = .ok (.isub, 1) := by decide +kernel
theorem dX1_restore_14 : decode cX1_restore 14 = .ok (.invokevirtual 27, 3) := by decide +kernel
theorem dX1_restore_17 : decode cX1_restore 17 = .ok (.goto 4, 3) := by decide +kernel
theorem dX1_restore_20 : decode cX1_restore 20 = .ok (.aconst_null, 1) := by decide +kernel
theorem dX1_restore_21 : decode cX1_restore 21 = .ok (.astore_n 2, 1) := by decide +kernel
theorem dX1_restore_22 : decode cX1_restore 22 = .ok (.aload_n 2, 1) := by decide +kernel
theorem dX1_restore_23 : decode cX1_restore 23 = .ok (.ifnonnull 5, 3) := by decide +kernel
theorem dX1_restore_26 : decode cX1_restore 26 = .ok (.iconst 0, 1) := by decide +kernel
theorem dX1_restore_27 : decode cX1_restore 27 = .ok (.ireturn, 1) := by decide +kernel
theorem dX1_restore_28 : decode cX1_restore 28 = .ok (.aload_n 1, 1) := by decide +kernel
theorem dX1_restore_29 : decode cX1_restore 29 = .ok (.aload_n 2, 1) := by decide +kernel
theorem dX1_restore_30 : decode cX1_restore 30 = .ok (.invokevirtual 31, 3) := by decide +kernel
theorem dX1_restore_33 : decode cX1_restore 33 = .ok (.aload_n 0, 1) := by decide +kernel
theorem dX1_restore_34 : decode cX1_restore 34 = .ok (.dup, 1) := by decide +kernel
theorem dX1_restore_35 : decode cX1_restore 35 = .ok (.getfield 21, 3) := by decide +kernel
theorem dX1_restore_38 : decode cX1_restore 38 = .ok (.iconst 1, 1) := by decide +kernel
theorem dX1_restore_39 : decode cX1_restore 39 = .ok (.isub, 1) := by decide +kernel
theorem dX1_restore_40 : decode cX1_restore 40 = .ok (.putfield 21, 3) := by decide +kernel
theorem dX1_restore_43 : decode cX1_restore 43 = .ok (.iconst 1, 1) := by decide +kernel
theorem dX1_restore_44 : decode cX1_restore 44 = .ok (.ireturn, 1) := by decide +kernel
theorem dX1_slotAt_0 : decode cX1_slotAt 0 = .ok (.aload_n 0, 1) := by decide +kernel
theorem dX1_slotAt_1 : decode cX1_slotAt 1 = .ok (.getfield 17, 3) := by decide +kernel
theorem dX1_slotAt_4 : decode cX1_slotAt 4 = .ok (.iload_n 1, 1) := by decide +kernel
theorem dX1_slotAt_5 : decode cX1_slotAt 5 = .ok (.iadd, 1) := by decide +kernel
theorem dX1_slotAt_6 : decode cX1_slotAt 6 = .ok (.iconst 4, 1) := by decide +kernel
theorem dX1_slotAt_7 : decode cX1_slotAt 7 = .ok (.irem, 1) := by decide +kernel
theorem dX1_slotAt_8 : decode cX1_slotAt 8 = .ok (.istore_n 2, 1) := by decide +kernel
theorem dX1_slotAt_9 : decode cX1_slotAt 9 = .ok (.iload_n 2, 1) := by decide +kernel
theorem dX1_slotAt_10 : decode cX1_slotAt 10 = .ok (.ifCond .lt 21, 3) := by decide +kernel
theorem dX1_slotAt_13 : decode cX1_slotAt 13 = .ok (.iload_n 2, 1) := by decide +kernel
theorem dX1_slotAt_14 : decode cX1_slotAt 14 = .ok (.aload_n 0, 1) := by decide +kernel
theorem dX1_slotAt_15 : decode cX1_slotAt 15 = .ok (.getfield 11, 3) := by decide +kernel
theorem dX1_slotAt_18 : decode cX1_slotAt 18 = .ok (.arraylength, 1) := by decide +kernel
theorem dX1_slotAt_19 : decode cX1_slotAt 19 = .ok (.if_icmp .ge 12, 3) := by decide +kernel
theorem dX1_slotAt_22 : decode cX1_slotAt 22 = .ok (.aload_n 0, 1) := by decide +kernel
theorem dX1_slotAt_23 : decode cX1_slotAt 23 = .ok (.getfield 11, 3) := by decide +kernel
theorem dX1_slotAt_26 : decode cX1_slotAt 26 = .ok (.iload_n 2, 1) := by decide +kernel
theorem dX1_slotAt_27 : decode cX1_slotAt 27 = .ok (.aaload, 1) := by decide +kernel
theorem dX1_slotAt_28 : decode cX1_slotAt 28 = .ok (.goto 4, 3) := by decide +kernel
theorem dX1_slotAt_31 : decode cX1_slotAt 31 = .ok (.aconst_null, 1) := by decide +kernel
theorem dX1_slotAt_32 : decode cX1_slotAt 32 = .ok (.areturn, 1) := by decide +kernel
theorem dX2_init_0 : decode cX2_init 0 = .ok (.aload_n 0, 1) := by decide +kernel
theorem dX2_init_1 : decode cX2_init 1 = .ok (.invokespecial 3, 3) := by decide +kernel
theorem dX2_init_4 : decode cX2_init 4 = .ok (.aload_n 0, 1) := by decide +kernel
theorem dX2_init_5 : decode cX2_init 5 = .ok (.bipush 12, 2) := by decide +kernel
theorem dX2_init_7 : decode cX2_init 7 = .ok (.newarray .int, 2) := by decide +kernel
theorem dX2_init_9 : decode cX2_init 9 = .ok (.putfield 9, 3) := by decide +kernel
theorem dX2_init_12 : decode cX2_init 12 = .ok (.aload_n 0, 1) := by decide +kernel
theorem dX2_init_13 : decode cX2_init 13 = .ok (.bipush 12, 2) := by decide +kernel
theorem dX2_init_15 : decode cX2_init 15 = .ok (.newarray .int, 2) := by decide +kernel
theorem dX2_init_17 : decode cX2_init 17 = .ok (.putfield 15, 3) := by decide +kernel
theorem dX2_init_20 : decode cX2_init 20 = .ok (.aload_n 0, 1) := by decide +kernel
theorem dX2_init_21 : decode cX2_init 21 = .ok (.bipush 81, 2) := by decide +kernel
theorem dX2_init_23 : decode cX2_init 23 = .ok (.newarray .int, 2) := by decide +kernel
theorem dX2_init_25 : decode cX2_init 25 = .ok (.putfield 18, 3) := by decide +kernel
theorem dX2_init_28 : decode cX2_init 28 = .ok (.aload_n 0, 1) := by decide +kernel
theorem dX2_init_29 : decode cX2_init 29 = .ok (.bipush 81, 2) := by decide +kernel
theorem dX2_init_31 : decode cX2_init 31 = .ok (.newarray .int, 2) := by decide +kernel
theorem dX2_init_33 : decode cX2_init 33 = .ok (.putfield 21, 3) := by decide +kernel
theorem dX2_init_36 : decode cX2_init 36 = .ok (.aload_n 0, 1) := by decide +kernel
theorem dX2_init_37 : decode cX2_init 37 = .ok (.aload_n 1, 1) := by decide +kernel
theorem dX2_init_38 : decode cX2_init 38 = .ok (.putfield 24, 3) := by decide +kernel
theorem dX2_init_41 : decode cX2_init 41 = .ok (.aload_n 0, 1) := by decide +kernel
theorem dX2_init_42 : decode cX2_init 42 = .ok (.aload_n 2, 1) := by decide +kernel
theorem dX2_init_43 : decode cX2_init 43 = .ok (.putfield 28, 3) := by decide +kernel
theorem dX2_init_46 : decode cX2_init 46 = .ok (.return_, 1) := by decide +kernel
theorem dX2_classNumber_0 : decode cX2_classNumber 0 = .ok (.aload_n 0, 1) := by decide +kernel
theorem dX2_classNumber_1 : decode cX2_classNumber 1 = .ok (.getfield 9, 3) := by decide +kernel
theorem dX2_classNumber_4 : decode cX2_classNumber 4 = .ok (.iload_n 1, 1) := by decide +kernel
theorem dX2_classNumber_5 : decode cX2_classNumber 5 = .ok (.invokestatic 32, 3) := by decide +kernel
theorem dX2_classNumber_8 : decode cX2_classNumber 8 = .ok (.ireturn, 1) := by decide +kernel
theorem dX2_divide_0 : decode cX2_divide 0 = .ok (.iconst 0, 1) := by decide +kernel
theorem dX2_divide_1 : decode cX2_divide 1 = .ok (.istore_n 1, 1) := by decide +kernel
theorem dX2_divide_2 : decode cX2_divide 2 = .ok (.iload_n 1, 1) := by decide +kernel
theorem dX2_divide_3 : decode cX2_divide 3 = .ok (.bipush 12, 2) := by decide +kernel
theorem dX2_divide_5 : decode cX2_divide 5 = .ok (.if_icmp .ge 18, 3) := by decide +kernel
theorem dX2_divide_8 : decode cX2_divide 8 = .ok (.aload_n 0, 1) := by decide +kernel
theorem dX2_divide_9 : decode cX2_divide 9 = .ok (.getfield 9, 3) := by decide +kernel
theorem dX2_divide_12 : decode cX2_divide 12 = .ok (.iload_n 1, 1) := by decide +kernel
theorem dX2_divide_13 : decode cX2_divide 13 = .ok (.iconst 0, 1) := by decide +kernel
theorem dX2_divide_14 : decode cX2_divide 14 = .ok (.invokestatic 38, 3) := by decide +kernel
theorem dX2_divide_17 : decode cX2_divide 17 = .ok (.iinc 1 1, 3) := by decide +kernel
theorem dX2_divide_20 : decode cX2_divide 20 = .ok (.goto (-18), 3) := by decide +kernel
theorem dX2_divide_23 : decode cX2_divide 23 = .ok (.iconst 1, 1) := by decide +kernel
theorem dX2_divide_24 : decode cX2_divide 24 = .ok (.aload_n 0, 1) := by decide +kernel
theorem dX2_divide_25 : decode cX2_divide 25 = .ok (.getfield 24, 3) := by decide +kernel
theorem dX2_divide_28 : decode cX2_divide 28 = .ok (.getfield 42, 3) := by decide +kernel
theorem dX2_divide_31 : decode cX2_divide 31 = .ok (.invokestatic 48, 3) := by decide +kernel
theorem dX2_divide_34 : decode cX2_divide 34 = .ok (.istore_n 1, 1) := by decide +kernel
theorem dX2_divide_35 : decode cX2_divide 35 = .ok (.iconst 0, 1) := by decide +kernel
theorem dX2_divide_36 : decode cX2_divide 36 = .ok (.istore_n 2, 1) := by decide +kernel
theorem dX2_divide_37 : decode cX2_divide 37 = .ok (.iload_n 2, 1) := by decide +kernel
theorem dX2_divide_38 : decode cX2_divide 38 = .ok (.bipush 12, 2) := by decide +kernel
theorem dX2_divide_40 : decode cX2_divide 40 = .ok (.if_icmp .gt 35, 3) := by decide +kernel
theorem dX2_divide_43 : decode cX2_divide 43 = .ok (.aload_n 0, 1) := by decide +kernel
theorem dX2_divide_44 : decode cX2_divide 44 = .ok (.invokevirtual 54, 3) := by decide +kernel
theorem dX2_divide_47 : decode cX2_divide 47 = .ok (.istore_n 3, 1) := by decide +kernel
theorem dX2_divide_48 : decode cX2_divide 48 = .ok (.aload_n 0, 1) := by decide +kernel
theorem dX2_divide_49 : decode cX2_divide 49 = .ok (.getfield 15, 3) := by decide +kernel
theorem dX2_divide_52 : decode cX2_divide 52 = .ok (.aload_n 0, 1) := by decide +kernel
theorem dX2_divide_53 : decode cX2_divide 53 = .ok (.getfield 9, 3) := by decide +kernel
theorem dX2_divide_56 : decode cX2_divide 56 = .ok (.invokestatic 58, 3) := by decide +kernel
theorem dX2_divide_59 : decode cX2_divide 59 = .ok (.iload_n 3, 1) := by decide +kernel
theorem dX2_divide_60 : decode cX2_divide 60 = .ok (.iload_n 1, 1) := by decide +kernel
theorem dX2_divide_61 : decode cX2_divide 61 = .ok (.if_icmp .ne 6, 3) := by decide +kernel
theorem dX2_divide_64 : decode cX2_divide 64 = .ok (.goto 11, 3) := by decide +kernel
theorem dX2_divide_67 : decode cX2_divide 67 = .ok (.iload_n 3, 1) := by decide +kernel
theorem dX2_divide_68 : decode cX2_divide 68 = .ok (.istore_n 1, 1) := by decide +kernel
theorem dX2_divide_69 : decode cX2_divide 69 = .ok (.iinc 2 1, 3) := by decide +kernel
theorem dX2_divide_72 : decode cX2_divide 72 = .ok (.goto (-35), 3) := by decide +kernel
theorem dX2_divide_75 : decode cX2_divide 75 = .ok (.iload_n 1, 1) := by decide +kernel
theorem dX2_divide_76 : decode cX2_divide 76 = .ok (.ireturn, 1) := by decide +kernel
theorem dX2_refine_0 : decode cX2_refine 0 = .ok (.iconst 0, 1) := by decide +kernel
theorem dX2_refine_1 : decode cX2_refine 1 = .ok (.istore_n 1, 1) := by decide +kernel
theorem dX2_refine_2 : decode cX2_refine 2 = .ok (.iconst 0, 1) := by decide +kernel
theorem dX2_refine_3 : decode cX2_refine 3 = .ok (.istore_n 2, 1) := by decide +kernel
theorem dX2_refine_4 : decode cX2_refine 4 = .ok (.iload_n 2, 1) := by decide +kernel
theorem dX2_refine_5 : decode cX2_refine 5 = .ok (.aload_n 0, 1) := by decide +kernel
theorem dX2_refine_6 : decode cX2_refine 6 = .ok (.getfield 24, 3) := by decide +kernel
theorem dX2_refine_9 : decode cX2_refine 9 = .ok (.getfield 42, 3) := by decide +kernel
theorem dX2_refine_12 : decode cX2_refine 12 = .ok (.if_icmp .ge 51, 3) := by decide +kernel
theorem dX2_refine_15 : decode cX2_refine 15 = .ok (.aload_n 0, 1) := by decide +kernel
theorem dX2_refine_16 : decode cX2_refine 16 = .ok (.iload_n 2, 1) := by decide +kernel
theorem dX2_refine_17 : decode cX2_refine 17 = .ok (.invokevirtual 62, 3) := by decide +kernel
theorem dX2_refine_20 : decode cX2_refine 20 = .ok (.istore_n 3, 1) := by decide +kernel
theorem dX2_refine_21 : decode cX2_refine 21 = .ok (.iload_n 3, 1) := by decide +kernel
theorem dX2_refine_22 : decode cX2_refine 22 = .ok (.iload_n 2, 1) := by decide +kernel
theorem dX2_refine_23 : decode cX2_refine 23 = .ok (.if_icmp .ge 22, 3) := by decide +kernel
theorem dX2_refine_26 : decode cX2_refine 26 = .ok (.aload_n 0, 1) := by decide +kernel
theorem dX2_refine_27 : decode cX2_refine 27 = .ok (.getfield 15, 3) := by decide +kernel
theorem dX2_refine_30 : decode cX2_refine 30 = .ok (.iload_n 2, 1) := by decide +kernel
theorem dX2_refine_31 : decode cX2_refine 31 = .ok (.aload_n 0, 1) := by decide +kernel
theorem dX2_refine_32 : decode cX2_refine 32 = .ok (.getfield 15, 3) := by decide +kernel
theorem dX2_refine_35 : decode cX2_refine 35 = .ok (.iload_n 3, 1) := by decide +kernel
theorem dX2_refine_36 : decode cX2_refine 36 = .ok (.invokestatic 32, 3) := by decide +kernel
theorem dX2_refine_39 : decode cX2_refine 39 = .ok (.invokestatic 38, 3) := by decide +kernel
theorem dX2_refine_42 : decode cX2_refine 42 = .ok (.goto 15, 3) := by decide +kernel
theorem dX2_refine_45 : decode cX2_refine 45 = .ok (.aload_n 0, 1) := by decide +kernel
theorem dX2_refine_46 : decode cX2_refine 46 = .ok (.getfield 15, 3) := by decide +kernel
theorem dX2_refine_49 : decode cX2_refine 49 = .ok (.iload_n 2, 1) := by decide +kernel
theorem dX2_refine_50 : decode cX2_refine 50 = .ok (.iload_n 1, 1) := by decide +kernel
theorem dX2_refine_51 : decode cX2_refine 51 = .ok (.invokestatic 38, 3) := by decide +kernel
theorem dX2_refine_54 : decode cX2_refine 54 = .ok (.iinc 1 1, 3) := by decide +kernel
theorem dX2_refine_57 : decode cX2_refine 57 = .ok (.iinc 2 1, 3) := by decide +kernel
theorem dX2_refine_60 : decode cX2_refine 60 = .ok (.goto (-56), 3) := by decide +kernel
theorem dX2_refine_63 : decode cX2_refine 63 = .ok (.iload_n 1, 1) := by decide +kernel
theorem dX2_refine_64 : decode cX2_refine 64 = .ok (.ireturn, 1) := by decide +kernel
theorem dX2_firstLike_0 : decode cX2_firstLike 0 = .ok (.iconst 0, 1) := by decide +kernel
theorem dX2_firstLike_1 : decode cX2_firstLike 1 = .ok (.istore_n 2, 1) := by decide +kernel
theorem dX2_firstLike_2 : decode cX2_firstLike 2 = .ok (.iload_n 2, 1) := by decide +kernel
theorem dX2_firstLike_3 : decode cX2_firstLike 3 = .ok (.iload_n 1, 1) := by decide +kernel
theorem dX2_firstLike_4 : decode cX2_firstLike 4 = .ok (.if_icmp .ge 52, 3) := by decide +kernel
theorem dX2_firstLike_7 : decode cX2_firstLike 7 = .ok (.aload_n 0, 1) := by decide +kernel
theorem dX2_firstLike_8 : decode cX2_firstLike 8 = .ok (.iload_n 2, 1) := by decide +kernel
theorem dX2_firstLike_9 : decode cX2_firstLike 9 = .ok (.invokevirtual 66, 3) := by decide +kernel
theorem dX2_firstLike_12 : decode cX2_firstLike 12 = .ok (.aload_n 0, 1) := by decide +kernel
theorem dX2_firstLike_13 : decode cX2_firstLike 13 = .ok (.iload_n 1, 1) := by decide +kernel
theorem dX2_firstLike_14 : decode cX2_firstLike 14 = .ok (.invokevirtual 66, 3) := by decide +kernel
theorem dX2_firstLike_17 : decode cX2_firstLike 17 = .ok (.if_icmp .ne 33, 3) := by decide +kernel
theorem dX2_firstLike_20 : decode cX2_firstLike 20 = .ok (.aload_n 0, 1) := by decide +kernel
theorem dX2_firstLike_21 : decode cX2_firstLike 21 = .ok (.getfield 24, 3) := by decide +kernel
theorem dX2_firstLike_24 : decode cX2_firstLike 24 = .ok (.iload_n 2, 1) := by decide +kernel
theorem dX2_firstLike_25 : decode cX2_firstLike 25 = .ok (.invokevirtual 69, 3) := by decide +kernel
theorem dX2_firstLike_28 : decode cX2_firstLike 28 = .ok (.aload_n 0, 1) := by decide +kernel
theorem dX2_firstLike_29 : decode cX2_firstLike 29 = .ok (.getfield 24, 3) := by decide +kernel
theorem dX2_firstLike_32 : decode cX2_firstLike 32 = .ok (.iload_n 1, 1) := by decide +kernel
theorem dX2_firstLike_33 : decode cX2_firstLike 33 = .ok (.invokevirtual 69, 3) := by decide +kernel
theorem dX2_firstLike_36 : decode cX2_firstLike 36 = .ok (.if_icmp .ne 14, 3) := by decide +kernel
theorem dX2_firstLike_39 : decode cX2_firstLike 39 = .ok (.aload_n 0, 1) := by decide +kernel
theorem dX2_firstLike_40 : decode cX2_firstLike 40 = .ok (.iload_n 2, 1) := by decide +kernel
theorem dX2_firstLike_41 : decode cX2_firstLike 41 = .ok (.iload_n 1, 1) := by decide +kernel
theorem dX2_firstLike_42 : decode cX2_firstLike 42 = .ok (.invokevirtual 72, 3) := by decide +kernel
theorem dX2_firstLike_45 : decode cX2_firstLike 45 = .ok (.ifCond .eq 5, 3) := by decide +kernel
theorem dX2_firstLike_48 : decode cX2_firstLike 48 = .ok (.iload_n 2, 1) := by decide +kernel
theorem dX2_firstLike_49 : decode cX2_firstLike 49 = .ok (.ireturn, 1) := by decide +kernel
theorem dX2_firstLike_50 : decode cX2_firstLike 50 = .ok (.iinc 2 1, 3) := by decide +kernel
theorem dX2_firstLike_53 : decode cX2_firstLike 53 = .ok (.goto (-51), 3) := by decide +kernel
theorem dX2_firstLike_56 : decode cX2_firstLike 56 = .ok (.iload_n 1, 1) := by decide +kernel
theorem dX2_firstLike_57 : decode cX2_firstLike 57 = .ok (.ireturn, 1) := by decide +kernel
theorem dX2_areAlike_0 : decode cX2_areAlike 0 = .ok (.iconst 0, 1) := by decide +kernel
theorem dX2_areAlike_1 : decode cX2_areAlike 1 = .ok (.istore_n 3, 1) := by decide +kernel
theorem dX2_areAlike_2 : decode cX2_areAlike 2 = .ok (.iload_n 3, 1) := by decide +kernel
theorem dX2_areAlike_3 : decode cX2_areAlike 3 = .ok (.aload_n 0, 1) := by decide +kernel
theorem dX2_areAlike_4 : decode cX2_areAlike 4 = .ok (.getfield 24, 3) := by decide +kernel
theorem dX2_areAlike_7 : decode cX2_areAlike 7 = .ok (.getfield 76, 3) := by decide +kernel
theorem dX2_areAlike_10 : decode cX2_areAlike 10 = .ok (.if_icmp .ge 75, 3) := by decide +kernel
theorem dX2_areAlike_13 : decode cX2_areAlike 13 = .ok (.aload_n 0, 1) := by decide +kernel
theorem dX2_areAlike_14 : decode cX2_areAlike 14 = .ok (.getfield 28, 3) := by decide +kernel
theorem dX2_areAlike_17 : decode cX2_areAlike 17 = .ok (.iload_n 3, 1) := by decide +kernel
theorem dX2_areAlike_18 : decode cX2_areAlike 18 = .ok (.iload_n 1, 1) := by decide +kernel
theorem dX2_areAlike_19 : decode cX2_areAlike 19 = .ok (.aload_n 0, 1) := by decide +kernel
theorem dX2_areAlike_20 : decode cX2_areAlike 20 = .ok (.getfield 9, 3) := by decide +kernel
theorem dX2_areAlike_23 : decode cX2_areAlike 23 = .ok (.aload_n 0, 1) := by decide +kernel
theorem dX2_areAlike_24 : decode cX2_areAlike 24 = .ok (.getfield 18, 3) := by decide +kernel
theorem dX2_areAlike_27 : decode cX2_areAlike 27 = .ok (.invokevirtual 79, 3) := by decide +kernel
theorem dX2_areAlike_30 : decode cX2_areAlike 30 = .ok (.aload_n 0, 1) := by decide +kernel
theorem dX2_areAlike_31 : decode cX2_areAlike 31 = .ok (.getfield 28, 3) := by decide +kernel
theorem dX2_areAlike_34 : decode cX2_areAlike 34 = .ok (.iload_n 3, 1) := by decide +kernel
theorem dX2_areAlike_35 : decode cX2_areAlike 35 = .ok (.iload_n 2, 1) := by decide +kernel
theorem dX2_areAlike_36 : decode cX2_areAlike 36 = .ok (.aload_n 0, 1) := by decide +kernel
theorem dX2_areAlike_37 : decode cX2_areAlike 37 = .ok (.getfield 9, 3) := by decide +kernel
theorem dX2_areAlike_40 : decode cX2_areAlike 40 = .ok (.aload_n 0, 1) := by decide +kernel
theorem dX2_areAlike_41 : decode cX2_areAlike 41 = .ok (.getfield 21, 3) := by decide +kernel
theorem dX2_areAlike_44 : decode cX2_areAlike 44 = .ok (.invokevirtual 79, 3) := by decide +kernel
theorem dX2_areAlike_47 : decode cX2_areAlike 47 = .ok (.aload_n 0, 1) := by decide +kernel
theorem dX2_areAlike_48 : decode cX2_areAlike 48 = .ok (.aload_n 0, 1) := by decide +kernel
theorem dX2_areAlike_49 : decode cX2_areAlike 49 = .ok (.getfield 18, 3) := by decide +kernel
theorem dX2_areAlike_52 : decode cX2_areAlike 52 = .ok (.aload_n 0, 1) := by decide +kernel
theorem dX2_areAlike_53 : decode cX2_areAlike 53 = .ok (.getfield 21, 3) := by decide +kernel
theorem dX2_areAlike_56 : decode cX2_areAlike 56 = .ok (.invokevirtual 85, 3) := by decide +kernel
theorem dX2_areAlike_59 : decode cX2_areAlike 59 = .ok (.ifCond .eq 18, 3) := by decide +kernel
theorem dX2_areAlike_62 : decode cX2_areAlike 62 = .ok (.aload_n 0, 1) := by decide +kernel
theorem dX2_areAlike_63 : decode cX2_areAlike 63 = .ok (.aload_n 0, 1) := by decide +kernel
theorem dX2_areAlike_64 : decode cX2_areAlike 64 = .ok (.getfield 21, 3) := by decide +kernel
theorem dX2_areAlike_67 : decode cX2_areAlike 67 = .ok (.aload_n 0, 1) := by decide +kernel
theorem dX2_areAlike_68 : decode cX2_areAlike 68 = .ok (.getfield 18, 3) := by decide +kernel
theorem dX2_areAlike_71 : decode cX2_areAlike 71 = .ok (.invokevirtual 85, 3) := by decide +kernel
theorem dX2_areAlike_74 : decode cX2_areAlike 74 = .ok (.ifCond .ne 5, 3) := by decide +kernel
theorem dX2_areAlike_77 : decode cX2_areAlike 77 = .ok (.iconst 0, 1) := by decide +kernel
theorem dX2_areAlike_78 : decode cX2_areAlike 78 = .ok (.ireturn, 1) := by decide +kernel
theorem dX2_areAlike_79 : decode cX2_areAlike 79 = .ok (.iinc 3 1, 3) := by decide +kernel
theorem dX2_areAlike_82 : decode cX2_areAlike 82 = .ok (.goto (-80), 3) := by decide +kernel
theorem dX2_areAlike_85 : decode cX2_areAlike 85 = .ok (.iconst 1, 1) := by decide +kernel
theorem dX2_areAlike_86 : decode cX2_areAlike 86 = .ok (.ireturn, 1) := by decide +kernel
theorem dX2_answers_0 : decode cX2_answers 0 = .ok (.iconst 0, 1) := by decide +kernel
theorem dX2_answers_1 : decode cX2_answers 1 = .ok (.istore_n 3, 1) := by decide +kernel
theorem dX2_answers_2 : decode cX2_answers 2 = .ok (.iload_n 3, 1) := by decide +kernel
theorem dX2_answers_3 : decode cX2_answers 3 = .ok (.aload_n 0, 1) := by decide +kernel
theorem dX2_answers_4 : decode cX2_answers 4 = .ok (.getfield 24, 3) := by decide +kernel
theorem dX2_answers_7 : decode cX2_answers 7 = .ok (.getfield 89, 3) := by decide +kernel
theorem dX2_answers_10 : decode cX2_answers 10 = .ok (.if_icmp .ge 33, 3) := by decide +kernel
theorem dX2_answers_13 : decode cX2_answers 13 = .ok (.aload_n 1, 1) := by decide +kernel
theorem dX2_answers_14 : decode cX2_answers 14 = .ok (.iload_n 3, 1) := by decide +kernel
theorem dX2_answers_15 : decode cX2_answers 15 = .ok (.invokestatic 32, 3) := by decide +kernel
theorem dX2_answers_18 : decode cX2_answers 18 = .ok (.istore 4, 2) := by decide +kernel
theorem dX2_answers_20 : decode cX2_answers 20 = .ok (.iload 4, 2) := by decide +kernel
theorem dX2_answers_22 : decode cX2_answers 22 = .ok (.ifCond .eq 15, 3) := by decide +kernel
theorem dX2_answers_25 : decode cX2_answers 25 = .ok (.aload_n 0, 1) := by decide +kernel
theorem dX2_answers_26 : decode cX2_answers 26 = .ok (.aload_n 2, 1) := by decide +kernel
theorem dX2_answers_27 : decode cX2_answers 27 = .ok (.iload 4, 2) := by decide +kernel
theorem dX2_answers_29 : decode cX2_answers 29 = .ok (.invokevirtual 92, 3) := by decide +kernel
theorem dX2_answers_32 : decode cX2_answers 32 = .ok (.ifCond .ne 5, 3) := by decide +kernel
theorem dX2_answers_35 : decode cX2_answers 35 = .ok (.iconst 0, 1) := by decide +kernel
theorem dX2_answers_36 : decode cX2_answers 36 = .ok (.ireturn, 1) := by decide +kernel
theorem dX2_answers_37 : decode cX2_answers 37 = .ok (.iinc 3 1, 3) := by decide +kernel
theorem dX2_answers_40 : decode cX2_answers 40 = .ok (.goto (-38), 3) := by decide +kernel
theorem dX2_answers_43 : decode cX2_answers 43 = .ok (.iconst 1, 1) := by decide +kernel
theorem dX2_answers_44 : decode cX2_answers 44 = .ok (.ireturn, 1) := by decide +kernel
theorem dX2_hasWithin_0 : decode cX2_hasWithin 0 = .ok (.iconst 0, 1) := by decide +kernel
theorem dX2_hasWithin_1 : decode cX2_hasWithin 1 = .ok (.istore_n 3, 1) := by decide +kernel
theorem dX2_hasWithin_2 : decode cX2_hasWithin 2 = .ok (.iload_n 3, 1) := by decide +kernel
theorem dX2_hasWithin_3 : decode cX2_hasWithin 3 = .ok (.aload_n 0, 1) := by decide +kernel
theorem dX2_hasWithin_4 : decode cX2_hasWithin 4 = .ok (.getfield 24, 3) := by decide +kernel
theorem dX2_hasWithin_7 : decode cX2_hasWithin 7 = .ok (.getfield 89, 3) := by decide +kernel
theorem dX2_hasWithin_10 : decode cX2_hasWithin 10 = .ok (.if_icmp .ge 23, 3) := by decide +kernel
theorem dX2_hasWithin_13 : decode cX2_hasWithin 13 = .ok (.aload_n 1, 1) := by decide +kernel
theorem dX2_hasWithin_14 : decode cX2_hasWithin 14 = .ok (.iload_n 3, 1) := by decide +kernel
theorem dX2_hasWithin_15 : decode cX2_hasWithin 15 = .ok (.invokestatic 32, 3) := by decide +kernel
theorem dX2_hasWithin_18 : decode cX2_hasWithin 18 = .ok (.iload_n 2, 1) := by decide +kernel
theorem dX2_hasWithin_19 : decode cX2_hasWithin 19 = .ok (.invokestatic 96, 3) := by decide +kernel
theorem dX2_hasWithin_22 : decode cX2_hasWithin 22 = .ok (.ifCond .eq 5, 3) := by decide +kernel
theorem dX2_hasWithin_25 : decode cX2_hasWithin 25 = .ok (.iconst 1, 1) := by decide +kernel
theorem dX2_hasWithin_26 : decode cX2_hasWithin 26 = .ok (.ireturn, 1) := by decide +kernel
theorem dX2_hasWithin_27 : decode cX2_hasWithin 27 = .ok (.iinc 3 1, 3) := by decide +kernel
theorem dX2_hasWithin_30 : decode cX2_hasWithin 30 = .ok (.goto (-28), 3) := by decide +kernel
theorem dX2_hasWithin_33 : decode cX2_hasWithin 33 = .ok (.iconst 0, 1) := by decide +kernel
theorem dX2_hasWithin_34 : decode cX2_hasWithin 34 = .ok (.ireturn, 1) := by decide +kernel
theorem dX3_init_0 : decode cX3_init 0 = .ok (.aload_n 0, 1) := by decide +kernel
theorem dX3_init_1 : decode cX3_init 1 = .ok (.invokespecial 3, 3) := by decide +kernel
theorem dX3_init_4 : decode cX3_init 4 = .ok (.aload_n 0, 1) := by decide +kernel
theorem dX3_init_5 : decode cX3_init 5 = .ok (.bipush 60, 2) := by decide +kernel
theorem dX3_init_7 : decode cX3_init 7 = .ok (.newarray .int, 2) := by decide +kernel
theorem dX3_init_9 : decode cX3_init 9 = .ok (.putfield 9, 3) := by decide +kernel
theorem dX3_init_12 : decode cX3_init 12 = .ok (.aload_n 0, 1) := by decide +kernel
theorem dX3_init_13 : decode cX3_init 13 = .ok (.bipush 12, 2) := by decide +kernel
theorem dX3_init_15 : decode cX3_init 15 = .ok (.newarray .int, 2) := by decide +kernel
theorem dX3_init_17 : decode cX3_init 17 = .ok (.putfield 15, 3) := by decide +kernel
theorem dX3_init_20 : decode cX3_init 20 = .ok (.aload_n 0, 1) := by decide +kernel
theorem dX3_init_21 : decode cX3_init 21 = .ok (.aload_n 1, 1) := by decide +kernel
theorem dX3_init_22 : decode cX3_init 22 = .ok (.putfield 18, 3) := by decide +kernel
theorem dX3_init_25 : decode cX3_init 25 = .ok (.aload_n 0, 1) := by decide +kernel
theorem dX3_init_26 : decode cX3_init 26 = .ok (.aload_n 2, 1) := by decide +kernel
theorem dX3_init_27 : decode cX3_init 27 = .ok (.putfield 22, 3) := by decide +kernel
theorem dX3_init_30 : decode cX3_init 30 = .ok (.return_, 1) := by decide +kernel
theorem dX3_look_0 : decode cX3_look 0 = .ok (.iconst 0, 1) := by decide +kernel
theorem dX3_look_1 : decode cX3_look 1 = .ok (.istore_n 2, 1) := by decide +kernel
theorem dX3_look_2 : decode cX3_look 2 = .ok (.iload_n 2, 1) := by decide +kernel
theorem dX3_look_3 : decode cX3_look 3 = .ok (.aload_n 1, 1) := by decide +kernel
theorem dX3_look_4 : decode cX3_look 4 = .ok (.getfield 26, 3) := by decide +kernel
theorem dX3_look_7 : decode cX3_look 7 = .ok (.if_icmp .ge 136, 3) := by decide +kernel
theorem dX3_look_10 : decode cX3_look 10 = .ok (.aload_n 1, 1) := by decide +kernel
theorem dX3_look_11 : decode cX3_look 11 = .ok (.iload_n 2, 1) := by decide +kernel
theorem dX3_look_12 : decode cX3_look 12 = .ok (.invokevirtual 32, 3) := by decide +kernel
theorem dX3_look_15 : decode cX3_look 15 = .ok (.istore_n 3, 1) := by decide +kernel
theorem dX3_look_16 : decode cX3_look 16 = .ok (.aload_n 0, 1) := by decide +kernel
theorem dX3_look_17 : decode cX3_look 17 = .ok (.getfield 9, 3) := by decide +kernel
theorem dX3_look_20 : decode cX3_look 20 = .ok (.aload_n 1, 1) := by decide +kernel
theorem dX3_look_21 : decode cX3_look 21 = .ok (.iload_n 2, 1) := by decide +kernel
theorem dX3_look_22 : decode cX3_look 22 = .ok (.invokevirtual 36, 3) := by decide +kernel
theorem dX3_look_25 : decode cX3_look 25 = .ok (.invokestatic 39, 3) := by decide +kernel
theorem dX3_look_28 : decode cX3_look 28 = .ok (.istore 4, 2) := by decide +kernel
theorem dX3_look_30 : decode cX3_look 30 = .ok (.aload_n 0, 1) := by decide +kernel
theorem dX3_look_31 : decode cX3_look 31 = .ok (.getfield 9, 3) := by decide +kernel
theorem dX3_look_34 : decode cX3_look 34 = .ok (.aload_n 1, 1) := by decide +kernel
theorem dX3_look_35 : decode cX3_look 35 = .ok (.iload_n 2, 1) := by decide +kernel
theorem dX3_look_36 : decode cX3_look 36 = .ok (.invokevirtual 45, 3) := by decide +kernel
theorem dX3_look_39 : decode cX3_look 39 = .ok (.invokestatic 39, 3) := by decide +kernel
theorem dX3_look_42 : decode cX3_look 42 = .ok (.istore 5, 2) := by decide +kernel
theorem dX3_look_44 : decode cX3_look 44 = .ok (.iload_n 3, 1) := by decide +kernel
theorem dX3_look_45 : decode cX3_look 45 = .ok (.iconst 2, 1) := by decide +kernel
theorem dX3_look_46 : decode cX3_look 46 = .ok (.if_icmp .ne 17, 3) := by decide +kernel
theorem dX3_look_49 : decode cX3_look 49 = .ok (.aload_n 0, 1) := by decide +kernel
theorem dX3_look_50 : decode cX3_look 50 = .ok (.aload_n 1, 1) := by decide +kernel
theorem dX3_look_51 : decode cX3_look 51 = .ok (.iload_n 2, 1) := by decide +kernel
theorem dX3_look_52 : decode cX3_look 52 = .ok (.invokevirtual 48, 3) := by decide +kernel
theorem dX3_look_55 : decode cX3_look 55 = .ok (.invokevirtual 51, 3) := by decide +kernel
theorem dX3_look_58 : decode cX3_look 58 = .ok (.istore 6, 2) := by decide +kernel
theorem dX3_look_60 : decode cX3_look 60 = .ok (.goto 67, 3) := by decide +kernel
theorem dX3_look_63 : decode cX3_look 63 = .ok (.iload_n 3, 1) := by decide +kernel
theorem dX3_look_64 : decode cX3_look 64 = .ok (.bipush 6, 2) := by decide +kernel
theorem dX3_look_66 : decode cX3_look 66 = .ok (.if_icmp .ge 17, 3) := by decide +kernel
theorem dX3_look_69 : decode cX3_look 69 = .ok (.aload_n 0, 1) := by decide +kernel
theorem dX3_look_70 : decode cX3_look 70 = .ok (.iload_n 3, 1) := by decide +kernel
theorem dX3_look_71 : decode cX3_look 71 = .ok (.iload 4, 2) := by decide +kernel
theorem dX3_look_73 : decode cX3_look 73 = .ok (.iload 5, 2) := by decide +kernel
theorem dX3_look_75 : decode cX3_look 75 = .ok (.invokevirtual 54, 3) := by decide +kernel
theorem dX3_look_78 : decode cX3_look 78 = .ok (.istore 6, 2) := by decide +kernel
theorem dX3_look_80 : decode cX3_look 80 = .ok (.goto 47, 3) := by decide +kernel
theorem dX3_look_83 : decode cX3_look 83 = .ok (.iload_n 3, 1) := by decide +kernel
theorem dX3_look_84 : decode cX3_look 84 = .ok (.bipush 9, 2) := by decide +kernel
theorem dX3_look_86 : decode cX3_look 86 = .ok (.if_icmp .gt 23, 3) := by decide +kernel
theorem dX3_look_89 : decode cX3_look 89 = .ok (.aload_n 0, 1) := by decide +kernel
theorem dX3_look_90 : decode cX3_look 90 = .ok (.iload_n 3, 1) := by decide +kernel
theorem dX3_look_91 : decode cX3_look 91 = .ok (.aload_n 1, 1) := by decide +kernel
theorem dX3_look_92 : decode cX3_look 92 = .ok (.iload_n 2, 1) := by decide +kernel
theorem dX3_look_93 : decode cX3_look 93 = .ok (.invokevirtual 48, 3) := by decide +kernel
theorem dX3_look_96 : decode cX3_look 96 = .ok (.iload 4, 2) := by decide +kernel
theorem dX3_look_98 : decode cX3_look 98 = .ok (.iload 5, 2) := by decide +kernel
theorem dX3_look_100 : decode cX3_look 100 = .ok (.iconst 0, 1) := by decide +kernel
theorem dX3_look_101 : decode cX3_look 101 = .ok (.invokevirtual 58, 3) := by decide +kernel
theorem dX3_look_104 : decode cX3_look 104 = .ok (.istore 6, 2) := by decide +kernel
theorem dX3_look_106 : decode cX3_look 106 = .ok (.goto 21, 3) := by decide +kernel
theorem dX3_look_109 : decode cX3_look 109 = .ok (.aload_n 0, 1) := by decide +kernel
theorem dX3_look_110 : decode cX3_look 110 = .ok (.iload_n 3, 1) := by decide +kernel
theorem dX3_look_111 : decode cX3_look 111 = .ok (.iconst 4, 1) := by decide +kernel
theorem dX3_look_112 : decode cX3_look 112 = .ok (.isub, 1) := by decide +kernel
theorem dX3_look_113 : decode cX3_look 113 = .ok (.aload_n 1, 1) := by decide +kernel
theorem dX3_look_114 : decode cX3_look 114 = .ok (.iload_n 2, 1) := by decide +kernel
theorem dX3_look_115 : decode cX3_look 115 = .ok (.invokevirtual 48, 3) := by decide +kernel
theorem dX3_look_118 : decode cX3_look 118 = .ok (.iload 4, 2) := by decide +kernel
theorem dX3_look_120 : decode cX3_look 120 = .ok (.iload 5, 2) := by decide +kernel
theorem dX3_look_122 : decode cX3_look 122 = .ok (.invokevirtual 62, 3) := by decide +kernel
theorem dX3_look_125 : decode cX3_look 125 = .ok (.istore 6, 2) := by decide +kernel
theorem dX3_look_127 : decode cX3_look 127 = .ok (.aload_n 0, 1) := by decide +kernel
theorem dX3_look_128 : decode cX3_look 128 = .ok (.getfield 9, 3) := by decide +kernel
theorem dX3_look_131 : decode cX3_look 131 = .ok (.iload_n 2, 1) := by decide +kernel
theorem dX3_look_132 : decode cX3_look 132 = .ok (.iload 6, 2) := by decide +kernel
theorem dX3_look_134 : decode cX3_look 134 = .ok (.invokestatic 66, 3) := by decide +kernel
theorem dX3_look_137 : decode cX3_look 137 = .ok (.iinc 2 1, 3) := by decide +kernel
theorem dX3_look_140 : decode cX3_look 140 = .ok (.goto (-138), 3) := by decide +kernel
theorem dX3_look_143 : decode cX3_look 143 = .ok (.return_, 1) := by decide +kernel
theorem dX3_setOf_0 : decode cX3_setOf 0 = .ok (.aload_n 0, 1) := by decide +kernel
theorem dX3_setOf_1 : decode cX3_setOf 1 = .ok (.getfield 9, 3) := by decide +kernel
theorem dX3_setOf_4 : decode cX3_setOf 4 = .ok (.iload_n 1, 1) := by decide +kernel
theorem dX3_setOf_5 : decode cX3_setOf 5 = .ok (.invokestatic 39, 3) := by decide +kernel
theorem dX3_setOf_8 : decode cX3_setOf 8 = .ok (.ireturn, 1) := by decide +kernel
theorem dX3_whole_0 : decode cX3_whole 0 = .ok (.aload_n 0, 1) := by decide +kernel
theorem dX3_whole_1 : decode cX3_whole 1 = .ok (.aload_n 1, 1) := by decide +kernel
theorem dX3_whole_2 : decode cX3_whole 2 = .ok (.invokevirtual 70, 3) := by decide +kernel
theorem dX3_whole_5 : decode cX3_whole 5 = .ok (.aload_n 0, 1) := by decide +kernel
theorem dX3_whole_6 : decode cX3_whole 6 = .ok (.aload_n 1, 1) := by decide +kernel
theorem dX3_whole_7 : decode cX3_whole 7 = .ok (.getfield 26, 3) := by decide +kernel
theorem dX3_whole_10 : decode cX3_whole 10 = .ok (.iconst 1, 1) := by decide +kernel
theorem dX3_whole_11 : decode cX3_whole 11 = .ok (.isub, 1) := by decide +kernel
theorem dX3_whole_12 : decode cX3_whole 12 = .ok (.invokevirtual 74, 3) := by decide +kernel
theorem dX3_whole_15 : decode cX3_whole 15 = .ok (.ireturn, 1) := by decide +kernel
theorem dX3_goalSet_0 : decode cX3_goalSet 0 = .ok (.aload_n 1, 1) := by decide +kernel
theorem dX3_goalSet_1 : decode cX3_goalSet 1 = .ok (.getfield 26, 3) := by decide +kernel
theorem dX3_goalSet_4 : decode cX3_goalSet 4 = .ok (.iconst 1, 1) := by decide +kernel
theorem dX3_goalSet_5 : decode cX3_goalSet 5 = .ok (.isub, 1) := by decide +kernel
theorem dX3_goalSet_6 : decode cX3_goalSet 6 = .ok (.istore 4, 2) := by decide +kernel
theorem dX3_goalSet_8 : decode cX3_goalSet 8 = .ok (.aload_n 0, 1) := by decide +kernel
theorem dX3_goalSet_9 : decode cX3_goalSet 9 = .ok (.aload_n 1, 1) := by decide +kernel
theorem dX3_goalSet_10 : decode cX3_goalSet 10 = .ok (.invokevirtual 77, 3) := by decide +kernel
theorem dX3_goalSet_13 : decode cX3_goalSet 13 = .ok (.iload_n 2, 1) := by decide +kernel
theorem dX3_goalSet_14 : decode cX3_goalSet 14 = .ok (.aload_n 0, 1) := by decide +kernel
theorem dX3_goalSet_15 : decode cX3_goalSet 15 = .ok (.aload_n 1, 1) := by decide +kernel
theorem dX3_goalSet_16 : decode cX3_goalSet 16 = .ok (.iload 4, 2) := by decide +kernel
theorem dX3_goalSet_18 : decode cX3_goalSet 18 = .ok (.invokevirtual 36, 3) := by decide +kernel
theorem dX3_goalSet_21 : decode cX3_goalSet 21 = .ok (.invokevirtual 74, 3) := by decide +kernel
theorem dX3_goalSet_24 : decode cX3_goalSet 24 = .ok (.aload_n 0, 1) := by decide +kernel
theorem dX3_goalSet_25 : decode cX3_goalSet 25 = .ok (.aload_n 1, 1) := by decide +kernel
theorem dX3_goalSet_26 : decode cX3_goalSet 26 = .ok (.iload 4, 2) := by decide +kernel
theorem dX3_goalSet_28 : decode cX3_goalSet 28 = .ok (.invokevirtual 45, 3) := by decide +kernel
theorem dX3_goalSet_31 : decode cX3_goalSet 31 = .ok (.invokevirtual 74, 3) := by decide +kernel
theorem dX3_goalSet_34 : decode cX3_goalSet 34 = .ok (.iload_n 3, 1) := by decide +kernel
theorem dX3_goalSet_35 : decode cX3_goalSet 35 = .ok (.invokevirtual 58, 3) := by decide +kernel
theorem dX3_goalSet_38 : decode cX3_goalSet 38 = .ok (.ireturn, 1) := by decide +kernel
theorem dX3_rankOf_0 : decode cX3_rankOf 0 = .ok (.aload_n 0, 1) := by decide +kernel
theorem dX3_rankOf_1 : decode cX3_rankOf 1 = .ok (.getfield 15, 3) := by decide +kernel
theorem dX3_rankOf_4 : decode cX3_rankOf 4 = .ok (.iload_n 1, 1) := by decide +kernel
theorem dX3_rankOf_5 : decode cX3_rankOf 5 = .ok (.invokestatic 39, 3) := by decide +kernel
theorem dX3_rankOf_8 : decode cX3_rankOf 8 = .ok (.ireturn, 1) := by decide +kernel
theorem dX3_statesBelow_0 : decode cX3_statesBelow 0 = .ok (.iconst 0, 1) := by decide +kernel
theorem dX3_statesBelow_1 : decode cX3_statesBelow 1 = .ok (.istore_n 2, 1) := by decide +kernel
theorem dX3_statesBelow_2 : decode cX3_statesBelow 2 = .ok (.iconst 0, 1) := by decide +kernel
theorem dX3_statesBelow_3 : decode cX3_statesBelow 3 = .ok (.istore_n 3, 1) := by decide +kernel
theorem dX3_statesBelow_4 : decode cX3_statesBelow 4 = .ok (.iload_n 3, 1) := by decide +kernel
theorem dX3_statesBelow_5 : decode cX3_statesBelow 5 = .ok (.aload_n 0, 1) := by decide +kernel
theorem dX3_statesBelow_6 : decode cX3_statesBelow 6 = .ok (.getfield 18, 3) := by decide +kernel
theorem dX3_statesBelow_9 : decode cX3_statesBelow 9 = .ok (.getfield 81, 3) := by decide +kernel
theorem dX3_statesBelow_12 : decode cX3_statesBelow 12 = .ok (.if_icmp .ge 33, 3) := by decide +kernel
theorem dX3_statesBelow_15 : decode cX3_statesBelow 15 = .ok (.aload_n 0, 1) := by decide +kernel
theorem dX3_statesBelow_16 : decode cX3_statesBelow 16 = .ok (.iload_n 3, 1) := by decide +kernel
theorem dX3_statesBelow_17 : decode cX3_statesBelow 17 = .ok (.invokevirtual 86, 3) := by decide +kernel
theorem dX3_statesBelow_20 : decode cX3_statesBelow 20 = .ok (.istore 4, 2) := by decide +kernel
theorem dX3_statesBelow_22 : decode cX3_statesBelow 22 = .ok (.iload 4, 2) := by decide +kernel
theorem dX3_statesBelow_24 : decode cX3_statesBelow 24 = .ok (.ifCond .lt 15, 3) := by decide +kernel
theorem dX3_statesBelow_27 : decode cX3_statesBelow 27 = .ok (.iload 4, 2) := by decide +kernel
theorem dX3_statesBelow_29 : decode cX3_statesBelow 29 = .ok (.iload_n 1, 1) := by decide +kernel
theorem dX3_statesBelow_30 : decode cX3_statesBelow 30 = .ok (.if_icmp .ge 9, 3) := by decide +kernel
theorem dX3_statesBelow_33 : decode cX3_statesBelow 33 = .ok (.iload_n 2, 1) := by decide +kernel
theorem dX3_statesBelow_34 : decode cX3_statesBelow 34 = .ok (.iconst 1, 1) := by decide +kernel
theorem dX3_statesBelow_35 : decode cX3_statesBelow 35 = .ok (.iload_n 3, 1) := by decide +kernel
theorem dX3_statesBelow_36 : decode cX3_statesBelow 36 = .ok (.ishl, 1) := by decide +kernel
theorem dX3_statesBelow_37 : decode cX3_statesBelow 37 = .ok (.ior, 1) := by decide +kernel
theorem dX3_statesBelow_38 : decode cX3_statesBelow 38 = .ok (.istore_n 2, 1) := by decide +kernel
theorem dX3_statesBelow_39 : decode cX3_statesBelow 39 = .ok (.iinc 3 1, 3) := by decide +kernel
theorem dX3_statesBelow_42 : decode cX3_statesBelow 42 = .ok (.goto (-38), 3) := by decide +kernel
theorem dX3_statesBelow_45 : decode cX3_statesBelow 45 = .ok (.iload_n 2, 1) := by decide +kernel
theorem dX3_statesBelow_46 : decode cX3_statesBelow 46 = .ok (.ireturn, 1) := by decide +kernel
theorem dX3_labelled_0 : decode cX3_labelled 0 = .ok (.iconst 0, 1) := by decide +kernel
theorem dX3_labelled_1 : decode cX3_labelled 1 = .ok (.istore_n 2, 1) := by decide +kernel
theorem dX3_labelled_2 : decode cX3_labelled 2 = .ok (.iconst 0, 1) := by decide +kernel
theorem dX3_labelled_3 : decode cX3_labelled 3 = .ok (.istore_n 3, 1) := by decide +kernel
theorem dX3_labelled_4 : decode cX3_labelled 4 = .ok (.iload_n 3, 1) := by decide +kernel
theorem dX3_labelled_5 : decode cX3_labelled 5 = .ok (.aload_n 0, 1) := by decide +kernel
theorem dX3_labelled_6 : decode cX3_labelled 6 = .ok (.getfield 18, 3) := by decide +kernel
theorem dX3_labelled_9 : decode cX3_labelled 9 = .ok (.getfield 81, 3) := by decide +kernel
theorem dX3_labelled_12 : decode cX3_labelled 12 = .ok (.if_icmp .ge 26, 3) := by decide +kernel
theorem dX3_labelled_15 : decode cX3_labelled 15 = .ok (.iload_n 2, 1) := by decide +kernel
theorem dX3_labelled_16 : decode cX3_labelled 16 = .ok (.aload_n 0, 1) := by decide +kernel
theorem dX3_labelled_17 : decode cX3_labelled 17 = .ok (.getfield 18, 3) := by decide +kernel
theorem dX3_labelled_20 : decode cX3_labelled 20 = .ok (.iload_n 3, 1) := by decide +kernel
theorem dX3_labelled_21 : decode cX3_labelled 21 = .ok (.invokevirtual 89, 3) := by decide +kernel
theorem dX3_labelled_24 : decode cX3_labelled 24 = .ok (.iload_n 1, 1) := by decide +kernel
theorem dX3_labelled_25 : decode cX3_labelled 25 = .ok (.ishr, 1) := by decide +kernel
theorem dX3_labelled_26 : decode cX3_labelled 26 = .ok (.iconst 1, 1) := by decide +kernel
theorem dX3_labelled_27 : decode cX3_labelled 27 = .ok (.iand, 1) := by decide +kernel
theorem dX3_labelled_28 : decode cX3_labelled 28 = .ok (.iload_n 3, 1) := by decide +kernel
theorem dX3_labelled_29 : decode cX3_labelled 29 = .ok (.ishl, 1) := by decide +kernel
theorem dX3_labelled_30 : decode cX3_labelled 30 = .ok (.ior, 1) := by decide +kernel
theorem dX3_labelled_31 : decode cX3_labelled 31 = .ok (.istore_n 2, 1) := by decide +kernel
theorem dX3_labelled_32 : decode cX3_labelled 32 = .ok (.iinc 3 1, 3) := by decide +kernel
theorem dX3_labelled_35 : decode cX3_labelled 35 = .ok (.goto (-31), 3) := by decide +kernel
theorem dX3_labelled_38 : decode cX3_labelled 38 = .ok (.iload_n 2, 1) := by decide +kernel
theorem dX3_labelled_39 : decode cX3_labelled 39 = .ok (.ireturn, 1) := by decide +kernel
theorem dX3_plainSet_0 : decode cX3_plainSet 0 = .ok (.iload_n 1, 1) := by decide +kernel
theorem dX3_plainSet_1 : decode cX3_plainSet 1 = .ok (.tableswitch 63 1 5 #[35, 63, 43, 55, 59], 35) := by decide +kernel
theorem dX3_plainSet_36 : decode cX3_plainSet 36 = .ok (.aload_n 0, 1) := by decide +kernel
theorem dX3_plainSet_37 : decode cX3_plainSet 37 = .ok (.getfield 18, 3) := by decide +kernel
theorem dX3_plainSet_40 : decode cX3_plainSet 40 = .ok (.invokevirtual 92, 3) := by decide +kernel
theorem dX3_plainSet_43 : decode cX3_plainSet 43 = .ok (.ireturn, 1) := by decide +kernel
theorem dX3_plainSet_44 : decode cX3_plainSet 44 = .ok (.aload_n 0, 1) := by decide +kernel
theorem dX3_plainSet_45 : decode cX3_plainSet 45 = .ok (.getfield 18, 3) := by decide +kernel
theorem dX3_plainSet_48 : decode cX3_plainSet 48 = .ok (.invokevirtual 92, 3) := by decide +kernel
theorem dX3_plainSet_51 : decode cX3_plainSet 51 = .ok (.iload_n 2, 1) := by decide +kernel
theorem dX3_plainSet_52 : decode cX3_plainSet 52 = .ok (.iconst (-1), 1) := by decide +kernel
theorem dX3_plainSet_53 : decode cX3_plainSet 53 = .ok (.ixor, 1) := by decide +kernel
theorem dX3_plainSet_54 : decode cX3_plainSet 54 = .ok (.iand, 1) := by decide +kernel
theorem dX3_plainSet_55 : decode cX3_plainSet 55 = .ok (.ireturn, 1) := by decide +kernel
theorem dX3_plainSet_56 : decode cX3_plainSet 56 = .ok (.iload_n 2, 1) := by decide +kernel
theorem dX3_plainSet_57 : decode cX3_plainSet 57 = .ok (.iload_n 3, 1) := by decide +kernel
theorem dX3_plainSet_58 : decode cX3_plainSet 58 = .ok (.iand, 1) := by decide +kernel
theorem dX3_plainSet_59 : decode cX3_plainSet 59 = .ok (.ireturn, 1) := by decide +kernel
theorem dX3_plainSet_60 : decode cX3_plainSet 60 = .ok (.iload_n 2, 1) := by decide +kernel
theorem dX3_plainSet_61 : decode cX3_plainSet 61 = .ok (.iload_n 3, 1) := by decide +kernel
theorem dX3_plainSet_62 : decode cX3_plainSet 62 = .ok (.ior, 1) := by decide +kernel
theorem dX3_plainSet_63 : decode cX3_plainSet 63 = .ok (.ireturn, 1) := by decide +kernel
theorem dX3_plainSet_64 : decode cX3_plainSet 64 = .ok (.iconst 0, 1) := by decide +kernel
theorem dX3_plainSet_65 : decode cX3_plainSet 65 = .ok (.ireturn, 1) := by decide +kernel
theorem dX3_strongSet_0 : decode cX3_strongSet 0 = .ok (.iload_n 1, 1) := by decide +kernel
theorem dX3_strongSet_1 : decode cX3_strongSet 1 = .ok (.tableswitch 79 6 9 #[31, 43, 59, 68], 31) := by decide +kernel
theorem dX3_strongSet_32 : decode cX3_strongSet 32 = .ok (.aload_n 0, 1) := by decide +kernel
theorem dX3_strongSet_33 : decode cX3_strongSet 33 = .ok (.getfield 22, 3) := by decide +kernel
theorem dX3_strongSet_36 : decode cX3_strongSet 36 = .ok (.iload_n 2, 1) := by decide +kernel
theorem dX3_strongSet_37 : decode cX3_strongSet 37 = .ok (.iload_n 3, 1) := by decide +kernel
theorem dX3_strongSet_38 : decode cX3_strongSet 38 = .ok (.iload 5, 2) := by decide +kernel
theorem dX3_strongSet_40 : decode cX3_strongSet 40 = .ok (.invokevirtual 95, 3) := by decide +kernel
theorem dX3_strongSet_43 : decode cX3_strongSet 43 = .ok (.ireturn, 1) := by decide +kernel
theorem dX3_strongSet_44 : decode cX3_strongSet 44 = .ok (.aload_n 0, 1) := by decide +kernel
theorem dX3_strongSet_45 : decode cX3_strongSet 45 = .ok (.iload_n 2, 1) := by decide +kernel
theorem dX3_strongSet_46 : decode cX3_strongSet 46 = .ok (.aload_n 0, 1) := by decide +kernel
theorem dX3_strongSet_47 : decode cX3_strongSet 47 = .ok (.getfield 18, 3) := by decide +kernel
theorem dX3_strongSet_50 : decode cX3_strongSet 50 = .ok (.invokevirtual 92, 3) := by decide +kernel
theorem dX3_strongSet_53 : decode cX3_strongSet 53 = .ok (.iload_n 3, 1) := by decide +kernel
theorem dX3_strongSet_54 : decode cX3_strongSet 54 = .ok (.iload 5, 2) := by decide +kernel
theorem dX3_strongSet_56 : decode cX3_strongSet 56 = .ok (.invokevirtual 101, 3) := by decide +kernel
theorem dX3_strongSet_59 : decode cX3_strongSet 59 = .ok (.ireturn, 1) := by decide +kernel
theorem dX3_strongSet_60 : decode cX3_strongSet 60 = .ok (.aload_n 0, 1) := by decide +kernel
theorem dX3_strongSet_61 : decode cX3_strongSet 61 = .ok (.iload_n 2, 1) := by decide +kernel
theorem dX3_strongSet_62 : decode cX3_strongSet 62 = .ok (.iload_n 3, 1) := by decide +kernel
theorem dX3_strongSet_63 : decode cX3_strongSet 63 = .ok (.iload 5, 2) := by decide +kernel
theorem dX3_strongSet_65 : decode cX3_strongSet 65 = .ok (.invokevirtual 105, 3) := by decide +kernel
theorem dX3_strongSet_68 : decode cX3_strongSet 68 = .ok (.ireturn, 1) := by decide +kernel
theorem dX3_strongSet_69 : decode cX3_strongSet 69 = .ok (.aload_n 0, 1) := by decide +kernel
theorem dX3_strongSet_70 : decode cX3_strongSet 70 = .ok (.iload_n 2, 1) := by decide +kernel
theorem dX3_strongSet_71 : decode cX3_strongSet 71 = .ok (.iload_n 3, 1) := by decide +kernel
theorem dX3_strongSet_72 : decode cX3_strongSet 72 = .ok (.iload 4, 2) := by decide +kernel
theorem dX3_strongSet_74 : decode cX3_strongSet 74 = .ok (.iload 5, 2) := by decide +kernel
theorem dX3_strongSet_76 : decode cX3_strongSet 76 = .ok (.invokevirtual 101, 3) := by decide +kernel
theorem dX3_strongSet_79 : decode cX3_strongSet 79 = .ok (.ireturn, 1) := by decide +kernel
theorem dX3_strongSet_80 : decode cX3_strongSet 80 = .ok (.iconst 0, 1) := by decide +kernel
theorem dX3_strongSet_81 : decode cX3_strongSet 81 = .ok (.ireturn, 1) := by decide +kernel
theorem dX3_boxSet_0 : decode cX3_boxSet 0 = .ok (.aload_n 0, 1) := by decide +kernel
theorem dX3_boxSet_1 : decode cX3_boxSet 1 = .ok (.getfield 18, 3) := by decide +kernel
theorem dX3_boxSet_4 : decode cX3_boxSet 4 = .ok (.invokevirtual 92, 3) := by decide +kernel
theorem dX3_boxSet_7 : decode cX3_boxSet 7 = .ok (.istore 5, 2) := by decide +kernel
theorem dX3_boxSet_9 : decode cX3_boxSet 9 = .ok (.iload_n 1, 1) := by decide +kernel
theorem dX3_boxSet_10 : decode cX3_boxSet 10 = .ok (.tableswitch 98 6 9 #[30, 51, 69, 89], 30) := by decide +kernel
theorem dX3_boxSet_40 : decode cX3_boxSet 40 = .ok (.iload 5, 2) := by decide +kernel
theorem dX3_boxSet_42 : decode cX3_boxSet 42 = .ok (.aload_n 0, 1) := by decide +kernel
theorem dX3_boxSet_43 : decode cX3_boxSet 43 = .ok (.getfield 22, 3) := by decide +kernel
theorem dX3_boxSet_46 : decode cX3_boxSet 46 = .ok (.iload_n 2, 1) := by decide +kernel
theorem dX3_boxSet_47 : decode cX3_boxSet 47 = .ok (.iload 5, 2) := by decide +kernel
theorem dX3_boxSet_49 : decode cX3_boxSet 49 = .ok (.iload_n 3, 1) := by decide +kernel
theorem dX3_boxSet_50 : decode cX3_boxSet 50 = .ok (.iconst (-1), 1) := by decide +kernel
theorem dX3_boxSet_51 : decode cX3_boxSet 51 = .ok (.ixor, 1) := by decide +kernel
theorem dX3_boxSet_52 : decode cX3_boxSet 52 = .ok (.iand, 1) := by decide +kernel
theorem dX3_boxSet_53 : decode cX3_boxSet 53 = .ok (.iconst 0, 1) := by decide +kernel
theorem dX3_boxSet_54 : decode cX3_boxSet 54 = .ok (.invokevirtual 95, 3) := by decide +kernel
theorem dX3_boxSet_57 : decode cX3_boxSet 57 = .ok (.iconst (-1), 1) := by decide +kernel
theorem dX3_boxSet_58 : decode cX3_boxSet 58 = .ok (.ixor, 1) := by decide +kernel
theorem dX3_boxSet_59 : decode cX3_boxSet 59 = .ok (.iand, 1) := by decide +kernel
theorem dX3_boxSet_60 : decode cX3_boxSet 60 = .ok (.ireturn, 1) := by decide +kernel
theorem dX3_boxSet_61 : decode cX3_boxSet 61 = .ok (.iload 5, 2) := by decide +kernel
theorem dX3_boxSet_63 : decode cX3_boxSet 63 = .ok (.aload_n 0, 1) := by decide +kernel
theorem dX3_boxSet_64 : decode cX3_boxSet 64 = .ok (.iload_n 2, 1) := by decide +kernel
theorem dX3_boxSet_65 : decode cX3_boxSet 65 = .ok (.iload 5, 2) := by decide +kernel
theorem dX3_boxSet_67 : decode cX3_boxSet 67 = .ok (.iload_n 3, 1) := by decide +kernel
theorem dX3_boxSet_68 : decode cX3_boxSet 68 = .ok (.iconst (-1), 1) := by decide +kernel
theorem dX3_boxSet_69 : decode cX3_boxSet 69 = .ok (.ixor, 1) := by decide +kernel
theorem dX3_boxSet_70 : decode cX3_boxSet 70 = .ok (.iand, 1) := by decide +kernel
theorem dX3_boxSet_71 : decode cX3_boxSet 71 = .ok (.iconst 0, 1) := by decide +kernel
theorem dX3_boxSet_72 : decode cX3_boxSet 72 = .ok (.invokevirtual 105, 3) := by decide +kernel
theorem dX3_boxSet_75 : decode cX3_boxSet 75 = .ok (.iconst (-1), 1) := by decide +kernel
theorem dX3_boxSet_76 : decode cX3_boxSet 76 = .ok (.ixor, 1) := by decide +kernel
theorem dX3_boxSet_77 : decode cX3_boxSet 77 = .ok (.iand, 1) := by decide +kernel
theorem dX3_boxSet_78 : decode cX3_boxSet 78 = .ok (.ireturn, 1) := by decide +kernel
theorem dX3_boxSet_79 : decode cX3_boxSet 79 = .ok (.iload 5, 2) := by decide +kernel
theorem dX3_boxSet_81 : decode cX3_boxSet 81 = .ok (.aload_n 0, 1) := by decide +kernel
theorem dX3_boxSet_82 : decode cX3_boxSet 82 = .ok (.iload_n 2, 1) := by decide +kernel
theorem dX3_boxSet_83 : decode cX3_boxSet 83 = .ok (.iload 5, 2) := by decide +kernel
theorem dX3_boxSet_85 : decode cX3_boxSet 85 = .ok (.iload 5, 2) := by decide +kernel
theorem dX3_boxSet_87 : decode cX3_boxSet 87 = .ok (.iload_n 3, 1) := by decide +kernel
theorem dX3_boxSet_88 : decode cX3_boxSet 88 = .ok (.iconst (-1), 1) := by decide +kernel
theorem dX3_boxSet_89 : decode cX3_boxSet 89 = .ok (.ixor, 1) := by decide +kernel
theorem dX3_boxSet_90 : decode cX3_boxSet 90 = .ok (.iand, 1) := by decide +kernel
theorem dX3_boxSet_91 : decode cX3_boxSet 91 = .ok (.iconst 0, 1) := by decide +kernel
theorem dX3_boxSet_92 : decode cX3_boxSet 92 = .ok (.invokevirtual 101, 3) := by decide +kernel
theorem dX3_boxSet_95 : decode cX3_boxSet 95 = .ok (.iconst (-1), 1) := by decide +kernel
theorem dX3_boxSet_96 : decode cX3_boxSet 96 = .ok (.ixor, 1) := by decide +kernel
theorem dX3_boxSet_97 : decode cX3_boxSet 97 = .ok (.iand, 1) := by decide +kernel
theorem dX3_boxSet_98 : decode cX3_boxSet 98 = .ok (.ireturn, 1) := by decide +kernel
theorem dX3_boxSet_99 : decode cX3_boxSet 99 = .ok (.aload_n 0, 1) := by decide +kernel
theorem dX3_boxSet_100 : decode cX3_boxSet 100 = .ok (.iload_n 2, 1) := by decide +kernel
theorem dX3_boxSet_101 : decode cX3_boxSet 101 = .ok (.iload_n 3, 1) := by decide +kernel
theorem dX3_boxSet_102 : decode cX3_boxSet 102 = .ok (.iload 4, 2) := by decide +kernel
theorem dX3_boxSet_104 : decode cX3_boxSet 104 = .ok (.invokevirtual 108, 3) := by decide +kernel
theorem dX3_boxSet_107 : decode cX3_boxSet 107 = .ok (.ireturn, 1) := by decide +kernel
theorem dX3_boxSet_108 : decode cX3_boxSet 108 = .ok (.iconst 0, 1) := by decide +kernel
theorem dX3_boxSet_109 : decode cX3_boxSet 109 = .ok (.ireturn, 1) := by decide +kernel
theorem dX3_reached_0 : decode cX3_reached 0 = .ok (.iconst 0, 1) := by decide +kernel
theorem dX3_reached_1 : decode cX3_reached 1 = .ok (.istore 5, 2) := by decide +kernel
theorem dX3_reached_3 : decode cX3_reached 3 = .ok (.iload 5, 2) := by decide +kernel
theorem dX3_reached_5 : decode cX3_reached 5 = .ok (.bipush 12, 2) := by decide +kernel
theorem dX3_reached_7 : decode cX3_reached 7 = .ok (.if_icmp .ge 32, 3) := by decide +kernel
theorem dX3_reached_10 : decode cX3_reached 10 = .ok (.aload_n 0, 1) := by decide +kernel
theorem dX3_reached_11 : decode cX3_reached 11 = .ok (.getfield 15, 3) := by decide +kernel
theorem dX3_reached_14 : decode cX3_reached 14 = .ok (.iload 5, 2) := by decide +kernel
theorem dX3_reached_16 : decode cX3_reached 16 = .ok (.iload_n 3, 1) := by decide +kernel
theorem dX3_reached_17 : decode cX3_reached 17 = .ok (.iload 5, 2) := by decide +kernel
theorem dX3_reached_19 : decode cX3_reached 19 = .ok (.ishr, 1) := by decide +kernel
theorem dX3_reached_20 : decode cX3_reached 20 = .ok (.iconst 1, 1) := by decide +kernel
theorem dX3_reached_21 : decode cX3_reached 21 = .ok (.iand, 1) := by decide +kernel
theorem dX3_reached_22 : decode cX3_reached 22 = .ok (.ifCond .eq 7, 3) := by decide +kernel
theorem dX3_reached_25 : decode cX3_reached 25 = .ok (.iconst 0, 1) := by decide +kernel
theorem dX3_reached_26 : decode cX3_reached 26 = .ok (.goto 4, 3) := by decide +kernel
theorem dX3_reached_29 : decode cX3_reached 29 = .ok (.iconst (-1), 1) := by decide +kernel
theorem dX3_reached_30 : decode cX3_reached 30 = .ok (.invokestatic 66, 3) := by decide +kernel
theorem dX3_reached_33 : decode cX3_reached 33 = .ok (.iinc 5 1, 3) := by decide +kernel
theorem dX3_reached_36 : decode cX3_reached 36 = .ok (.goto (-33), 3) := by decide +kernel
theorem dX3_reached_39 : decode cX3_reached 39 = .ok (.iload_n 3, 1) := by decide +kernel
theorem dX3_reached_40 : decode cX3_reached 40 = .ok (.istore 5, 2) := by decide +kernel
theorem dX3_reached_42 : decode cX3_reached 42 = .ok (.iconst 1, 1) := by decide +kernel
theorem dX3_reached_43 : decode cX3_reached 43 = .ok (.istore 6, 2) := by decide +kernel
theorem dX3_reached_45 : decode cX3_reached 45 = .ok (.iload 6, 2) := by decide +kernel
theorem dX3_reached_47 : decode cX3_reached 47 = .ok (.bipush 12, 2) := by decide +kernel
theorem dX3_reached_49 : decode cX3_reached 49 = .ok (.if_icmp .gt 82, 3) := by decide +kernel
theorem dX3_reached_52 : decode cX3_reached 52 = .ok (.iload_n 2, 1) := by decide +kernel
theorem dX3_reached_53 : decode cX3_reached 53 = .ok (.iload 5, 2) := by decide +kernel
theorem dX3_reached_55 : decode cX3_reached 55 = .ok (.iconst (-1), 1) := by decide +kernel
theorem dX3_reached_56 : decode cX3_reached 56 = .ok (.ixor, 1) := by decide +kernel
theorem dX3_reached_57 : decode cX3_reached 57 = .ok (.iand, 1) := by decide +kernel
theorem dX3_reached_58 : decode cX3_reached 58 = .ok (.aload_n 0, 1) := by decide +kernel
theorem dX3_reached_59 : decode cX3_reached 59 = .ok (.getfield 22, 3) := by decide +kernel
theorem dX3_reached_62 : decode cX3_reached 62 = .ok (.iload_n 1, 1) := by decide +kernel
theorem dX3_reached_63 : decode cX3_reached 63 = .ok (.iload 5, 2) := by decide +kernel
theorem dX3_reached_65 : decode cX3_reached 65 = .ok (.iload 4, 2) := by decide +kernel
theorem dX3_reached_67 : decode cX3_reached 67 = .ok (.invokevirtual 95, 3) := by decide +kernel
theorem dX3_reached_70 : decode cX3_reached 70 = .ok (.iand, 1) := by decide +kernel
theorem dX3_reached_71 : decode cX3_reached 71 = .ok (.istore 7, 2) := by decide +kernel
theorem dX3_reached_73 : decode cX3_reached 73 = .ok (.iload 7, 2) := by decide +kernel
theorem dX3_reached_75 : decode cX3_reached 75 = .ok (.ifCond .ne 6, 3) := by decide +kernel
theorem dX3_reached_78 : decode cX3_reached 78 = .ok (.goto 53, 3) := by decide +kernel
theorem dX3_reached_81 : decode cX3_reached 81 = .ok (.iconst 0, 1) := by decide +kernel
theorem dX3_reached_82 : decode cX3_reached 82 = .ok (.istore 8, 2) := by decide +kernel
theorem dX3_reached_84 : decode cX3_reached 84 = .ok (.iload 8, 2) := by decide +kernel
theorem dX3_reached_86 : decode cX3_reached 86 = .ok (.bipush 12, 2) := by decide +kernel
theorem dX3_reached_88 : decode cX3_reached 88 = .ok (.if_icmp .ge 30, 3) := by decide +kernel
theorem dX3_reached_91 : decode cX3_reached 91 = .ok (.iload 7, 2) := by decide +kernel
theorem dX3_reached_93 : decode cX3_reached 93 = .ok (.iload 8, 2) := by decide +kernel
theorem dX3_reached_95 : decode cX3_reached 95 = .ok (.ishr, 1) := by decide +kernel
theorem dX3_reached_96 : decode cX3_reached 96 = .ok (.iconst 1, 1) := by decide +kernel
theorem dX3_reached_97 : decode cX3_reached 97 = .ok (.iand, 1) := by decide +kernel
theorem dX3_reached_98 : decode cX3_reached 98 = .ok (.ifCond .eq 14, 3) := by decide +kernel
theorem dX3_reached_101 : decode cX3_reached 101 = .ok (.aload_n 0, 1) := by decide +kernel
theorem dX3_reached_102 : decode cX3_reached 102 = .ok (.getfield 15, 3) := by decide +kernel
theorem dX3_reached_105 : decode cX3_reached 105 = .ok (.iload 8, 2) := by decide +kernel
theorem dX3_reached_107 : decode cX3_reached 107 = .ok (.iload 6, 2) := by decide +kernel
theorem dX3_reached_109 : decode cX3_reached 109 = .ok (.invokestatic 66, 3) := by decide +kernel
theorem dX3_reached_112 : decode cX3_reached 112 = .ok (.iinc 8 1, 3) := by decide +kernel
theorem dX3_reached_115 : decode cX3_reached 115 = .ok (.goto (-31), 3) := by decide +kernel
theorem dX3_reached_118 : decode cX3_reached 118 = .ok (.iload 5, 2) := by decide +kernel
theorem dX3_reached_120 : decode cX3_reached 120 = .ok (.iload 7, 2) := by decide +kernel
theorem dX3_reached_122 : decode cX3_reached 122 = .ok (.ior, 1) := by decide +kernel
theorem dX3_reached_123 : decode cX3_reached 123 = .ok (.istore 5, 2) := by decide +kernel
theorem dX3_reached_125 : decode cX3_reached 125 = .ok (.iinc 6 1, 3) := by decide +kernel
theorem dX3_reached_128 : decode cX3_reached 128 = .ok (.goto (-83), 3) := by decide +kernel
theorem dX3_reached_131 : decode cX3_reached 131 = .ok (.iload 5, 2) := by decide +kernel
theorem dX3_reached_133 : decode cX3_reached 133 = .ok (.ireturn, 1) := by decide +kernel
theorem dX3_kept_0 : decode cX3_kept 0 = .ok (.iload_n 2, 1) := by decide +kernel
theorem dX3_kept_1 : decode cX3_kept 1 = .ok (.istore 4, 2) := by decide +kernel
theorem dX3_kept_3 : decode cX3_kept 3 = .ok (.iconst 0, 1) := by decide +kernel
theorem dX3_kept_4 : decode cX3_kept 4 = .ok (.istore 5, 2) := by decide +kernel
theorem dX3_kept_6 : decode cX3_kept 6 = .ok (.iload 5, 2) := by decide +kernel
theorem dX3_kept_8 : decode cX3_kept 8 = .ok (.bipush 12, 2) := by decide +kernel
theorem dX3_kept_10 : decode cX3_kept 10 = .ok (.if_icmp .gt 39, 3) := by decide +kernel
theorem dX3_kept_13 : decode cX3_kept 13 = .ok (.iload 4, 2) := by decide +kernel
theorem dX3_kept_15 : decode cX3_kept 15 = .ok (.aload_n 0, 1) := by decide +kernel
theorem dX3_kept_16 : decode cX3_kept 16 = .ok (.getfield 22, 3) := by decide +kernel
theorem dX3_kept_19 : decode cX3_kept 19 = .ok (.iload_n 1, 1) := by decide +kernel
theorem dX3_kept_20 : decode cX3_kept 20 = .ok (.iload 4, 2) := by decide +kernel
theorem dX3_kept_22 : decode cX3_kept 22 = .ok (.iload_n 3, 1) := by decide +kernel
theorem dX3_kept_23 : decode cX3_kept 23 = .ok (.invokevirtual 95, 3) := by decide +kernel
theorem dX3_kept_26 : decode cX3_kept 26 = .ok (.iand, 1) := by decide +kernel
theorem dX3_kept_27 : decode cX3_kept 27 = .ok (.istore 6, 2) := by decide +kernel
theorem dX3_kept_29 : decode cX3_kept 29 = .ok (.iload 6, 2) := by decide +kernel
theorem dX3_kept_31 : decode cX3_kept 31 = .ok (.iload 4, 2) := by decide +kernel
theorem dX3_kept_33 : decode cX3_kept 33 = .ok (.if_icmp .ne 6, 3) := by decide +kernel
theorem dX3_kept_36 : decode cX3_kept 36 = .ok (.goto 13, 3) := by decide +kernel
theorem dX3_kept_39 : decode cX3_kept 39 = .ok (.iload 6, 2) := by decide +kernel
theorem dX3_kept_41 : decode cX3_kept 41 = .ok (.istore 4, 2) := by decide +kernel
theorem dX3_kept_43 : decode cX3_kept 43 = .ok (.iinc 5 1, 3) := by decide +kernel
theorem dX3_kept_46 : decode cX3_kept 46 = .ok (.goto (-40), 3) := by decide +kernel
theorem dX3_kept_49 : decode cX3_kept 49 = .ok (.iload 4, 2) := by decide +kernel
theorem dX3_kept_51 : decode cX3_kept 51 = .ok (.ireturn, 1) := by decide +kernel
theorem dX3_unavoidable_0 : decode cX3_unavoidable 0 = .ok (.aload_n 0, 1) := by decide +kernel
theorem dX3_unavoidable_1 : decode cX3_unavoidable 1 = .ok (.getfield 18, 3) := by decide +kernel
theorem dX3_unavoidable_4 : decode cX3_unavoidable 4 = .ok (.invokevirtual 92, 3) := by decide +kernel
theorem dX3_unavoidable_7 : decode cX3_unavoidable 7 = .ok (.istore 4, 2) := by decide +kernel
theorem dX3_unavoidable_9 : decode cX3_unavoidable 9 = .ok (.iload_n 3, 1) := by decide +kernel
theorem dX3_unavoidable_10 : decode cX3_unavoidable 10 = .ok (.istore 5, 2) := by decide +kernel
theorem dX3_unavoidable_12 : decode cX3_unavoidable 12 = .ok (.iconst 0, 1) := by decide +kernel
theorem dX3_unavoidable_13 : decode cX3_unavoidable 13 = .ok (.istore 6, 2) := by decide +kernel
theorem dX3_unavoidable_15 : decode cX3_unavoidable 15 = .ok (.iload 6, 2) := by decide +kernel
theorem dX3_unavoidable_17 : decode cX3_unavoidable 17 = .ok (.bipush 12, 2) := by decide +kernel
theorem dX3_unavoidable_19 : decode cX3_unavoidable 19 = .ok (.if_icmp .gt 47, 3) := by decide +kernel
theorem dX3_unavoidable_22 : decode cX3_unavoidable 22 = .ok (.iload_n 3, 1) := by decide +kernel
theorem dX3_unavoidable_23 : decode cX3_unavoidable 23 = .ok (.iload_n 2, 1) := by decide +kernel
theorem dX3_unavoidable_24 : decode cX3_unavoidable 24 = .ok (.aload_n 0, 1) := by decide +kernel
theorem dX3_unavoidable_25 : decode cX3_unavoidable 25 = .ok (.getfield 22, 3) := by decide +kernel
theorem dX3_unavoidable_28 : decode cX3_unavoidable 28 = .ok (.iload_n 1, 1) := by decide +kernel
theorem dX3_unavoidable_29 : decode cX3_unavoidable 29 = .ok (.iload 4, 2) := by decide +kernel
theorem dX3_unavoidable_31 : decode cX3_unavoidable 31 = .ok (.iload 5, 2) := by decide +kernel
theorem dX3_unavoidable_33 : decode cX3_unavoidable 33 = .ok (.iconst (-1), 1) := by decide +kernel
theorem dX3_unavoidable_34 : decode cX3_unavoidable 34 = .ok (.ixor, 1) := by decide +kernel
theorem dX3_unavoidable_35 : decode cX3_unavoidable 35 = .ok (.iand, 1) := by decide +kernel
theorem dX3_unavoidable_36 : decode cX3_unavoidable 36 = .ok (.iconst 0, 1) := by decide +kernel
theorem dX3_unavoidable_37 : decode cX3_unavoidable 37 = .ok (.invokevirtual 95, 3) := by decide +kernel
theorem dX3_unavoidable_40 : decode cX3_unavoidable 40 = .ok (.iconst (-1), 1) := by decide +kernel
theorem dX3_unavoidable_41 : decode cX3_unavoidable 41 = .ok (.ixor, 1) := by decide +kernel
theorem dX3_unavoidable_42 : decode cX3_unavoidable 42 = .ok (.iand, 1) := by decide +kernel
theorem dX3_unavoidable_43 : decode cX3_unavoidable 43 = .ok (.ior, 1) := by decide +kernel
theorem dX3_unavoidable_44 : decode cX3_unavoidable 44 = .ok (.istore 7, 2) := by decide +kernel
theorem dX3_unavoidable_46 : decode cX3_unavoidable 46 = .ok (.iload 7, 2) := by decide +kernel
theorem dX3_unavoidable_48 : decode cX3_unavoidable 48 = .ok (.iload 5, 2) := by decide +kernel
theorem dX3_unavoidable_50 : decode cX3_unavoidable 50 = .ok (.if_icmp .ne 6, 3) := by decide +kernel
theorem dX3_unavoidable_53 : decode cX3_unavoidable 53 = .ok (.goto 13, 3) := by decide +kernel
theorem dX3_unavoidable_56 : decode cX3_unavoidable 56 = .ok (.iload 7, 2) := by decide +kernel
theorem dX3_unavoidable_58 : decode cX3_unavoidable 58 = .ok (.istore 5, 2) := by decide +kernel
theorem dX3_unavoidable_60 : decode cX3_unavoidable 60 = .ok (.iinc 6 1, 3) := by decide +kernel
theorem dX3_unavoidable_63 : decode cX3_unavoidable 63 = .ok (.goto (-48), 3) := by decide +kernel
theorem dX3_unavoidable_66 : decode cX3_unavoidable 66 = .ok (.iload 5, 2) := by decide +kernel
theorem dX3_unavoidable_68 : decode cX3_unavoidable 68 = .ok (.ireturn, 1) := by decide +kernel
theorem dX4_init_0 : decode cX4_init 0 = .ok (.aload_n 0, 1) := by decide +kernel
theorem dX4_init_1 : decode cX4_init 1 = .ok (.invokespecial 3, 3) := by decide +kernel
theorem dX4_init_4 : decode cX4_init 4 = .ok (.aload_n 0, 1) := by decide +kernel
theorem dX4_init_5 : decode cX4_init 5 = .ok (.bipush 60, 2) := by decide +kernel
theorem dX4_init_7 : decode cX4_init 7 = .ok (.newarray .int, 2) := by decide +kernel
theorem dX4_init_9 : decode cX4_init 9 = .ok (.putfield 9, 3) := by decide +kernel
theorem dX4_init_12 : decode cX4_init 12 = .ok (.aload_n 0, 1) := by decide +kernel
theorem dX4_init_13 : decode cX4_init 13 = .ok (.bipush 60, 2) := by decide +kernel
theorem dX4_init_15 : decode cX4_init 15 = .ok (.newarray .int, 2) := by decide +kernel
theorem dX4_init_17 : decode cX4_init 17 = .ok (.putfield 15, 3) := by decide +kernel
theorem dX4_init_20 : decode cX4_init 20 = .ok (.aload_n 0, 1) := by decide +kernel
theorem dX4_init_21 : decode cX4_init 21 = .ok (.bipush 60, 2) := by decide +kernel
theorem dX4_init_23 : decode cX4_init 23 = .ok (.newarray .int, 2) := by decide +kernel
theorem dX4_init_25 : decode cX4_init 25 = .ok (.putfield 18, 3) := by decide +kernel
theorem dX4_init_28 : decode cX4_init 28 = .ok (.aload_n 0, 1) := by decide +kernel
theorem dX4_init_29 : decode cX4_init 29 = .ok (.bipush 60, 2) := by decide +kernel
theorem dX4_init_31 : decode cX4_init 31 = .ok (.newarray .int, 2) := by decide +kernel
theorem dX4_init_33 : decode cX4_init 33 = .ok (.putfield 21, 3) := by decide +kernel
theorem dX4_init_36 : decode cX4_init 36 = .ok (.aload_n 0, 1) := by decide +kernel
theorem dX4_init_37 : decode cX4_init 37 = .ok (.iconst 0, 1) := by decide +kernel
theorem dX4_init_38 : decode cX4_init 38 = .ok (.putfield 24, 3) := by decide +kernel
theorem dX4_init_41 : decode cX4_init 41 = .ok (.aload_n 0, 1) := by decide +kernel
theorem dX4_init_42 : decode cX4_init 42 = .ok (.iload_n 1, 1) := by decide +kernel
theorem dX4_init_43 : decode cX4_init 43 = .ok (.putfield 28, 3) := by decide +kernel
theorem dX4_init_46 : decode cX4_init 46 = .ok (.return_, 1) := by decide +kernel
theorem dX4_append_0 : decode cX4_append 0 = .ok (.aload_n 0, 1) := by decide +kernel
theorem dX4_append_1 : decode cX4_append 1 = .ok (.getfield 24, 3) := by decide +kernel
theorem dX4_append_4 : decode cX4_append 4 = .ok (.bipush 60, 2) := by decide +kernel
theorem dX4_append_6 : decode cX4_append 6 = .ok (.if_icmp .lt 5, 3) := by decide +kernel
theorem dX4_append_9 : decode cX4_append 9 = .ok (.iconst 0, 1) := by decide +kernel
theorem dX4_append_10 : decode cX4_append 10 = .ok (.ireturn, 1) := by decide +kernel
theorem dX4_append_11 : decode cX4_append 11 = .ok (.aload_n 0, 1) := by decide +kernel
theorem dX4_append_12 : decode cX4_append 12 = .ok (.getfield 9, 3) := by decide +kernel
theorem dX4_append_15 : decode cX4_append 15 = .ok (.aload_n 0, 1) := by decide +kernel
theorem dX4_append_16 : decode cX4_append 16 = .ok (.getfield 24, 3) := by decide +kernel
theorem dX4_append_19 : decode cX4_append 19 = .ok (.iload_n 1, 1) := by decide +kernel
theorem dX4_append_20 : decode cX4_append 20 = .ok (.invokestatic 31, 3) := by decide +kernel
theorem dX4_append_23 : decode cX4_append 23 = .ok (.aload_n 0, 1) := by decide +kernel
theorem dX4_append_24 : decode cX4_append 24 = .ok (.dup, 1) := by decide +kernel
theorem dX4_append_25 : decode cX4_append 25 = .ok (.getfield 24, 3) := by decide +kernel
theorem dX4_append_28 : decode cX4_append 28 = .ok (.iconst 1, 1) := by decide +kernel
theorem dX4_append_29 : decode cX4_append 29 = .ok (.iadd, 1) := by decide +kernel
theorem dX4_append_30 : decode cX4_append 30 = .ok (.putfield 24, 3) := by decide +kernel
theorem dX4_append_33 : decode cX4_append 33 = .ok (.iconst 1, 1) := by decide +kernel
theorem dX4_append_34 : decode cX4_append 34 = .ok (.ireturn, 1) := by decide +kernel
theorem dX4_parse_0 : decode cX4_parse 0 = .ok (.aload_n 1, 1) := by decide +kernel
theorem dX4_parse_1 : decode cX4_parse 1 = .ok (.ifnonnull 5, 3) := by decide +kernel
theorem dX4_parse_4 : decode cX4_parse 4 = .ok (.iconst 0, 1) := by decide +kernel
theorem dX4_parse_5 : decode cX4_parse 5 = .ok (.ireturn, 1) := by decide +kernel
theorem dX4_parse_6 : decode cX4_parse 6 = .ok (.aload_n 0, 1) := by decide +kernel
theorem dX4_parse_7 : decode cX4_parse 7 = .ok (.aload_n 1, 1) := by decide +kernel
theorem dX4_parse_8 : decode cX4_parse 8 = .ok (.putfield 37, 3) := by decide +kernel
theorem dX4_parse_11 : decode cX4_parse 11 = .ok (.aload_n 0, 1) := by decide +kernel
theorem dX4_parse_12 : decode cX4_parse 12 = .ok (.getfield 37, 3) := by decide +kernel
theorem dX4_parse_15 : decode cX4_parse 15 = .ok (.iconst 0, 1) := by decide +kernel
theorem dX4_parse_16 : decode cX4_parse 16 = .ok (.putfield 41, 3) := by decide +kernel
theorem dX4_parse_19 : decode cX4_parse 19 = .ok (.aload_n 0, 1) := by decide +kernel
theorem dX4_parse_20 : decode cX4_parse 20 = .ok (.iconst 0, 1) := by decide +kernel
theorem dX4_parse_21 : decode cX4_parse 21 = .ok (.putfield 46, 3) := by decide +kernel
theorem dX4_parse_24 : decode cX4_parse 24 = .ok (.aload_n 0, 1) := by decide +kernel
theorem dX4_parse_25 : decode cX4_parse 25 = .ok (.iconst 0, 1) := by decide +kernel
theorem dX4_parse_26 : decode cX4_parse 26 = .ok (.putfield 49, 3) := by decide +kernel
theorem dX4_parse_29 : decode cX4_parse 29 = .ok (.aload_n 0, 1) := by decide +kernel
theorem dX4_parse_30 : decode cX4_parse 30 = .ok (.iconst 0, 1) := by decide +kernel
theorem dX4_parse_31 : decode cX4_parse 31 = .ok (.putfield 52, 3) := by decide +kernel
theorem dX4_parse_34 : decode cX4_parse 34 = .ok (.iconst 0, 1) := by decide +kernel
theorem dX4_parse_35 : decode cX4_parse 35 = .ok (.istore_n 2, 1) := by decide +kernel
theorem dX4_parse_36 : decode cX4_parse 36 = .ok (.iload_n 2, 1) := by decide +kernel
theorem dX4_parse_37 : decode cX4_parse 37 = .ok (.aload_n 0, 1) := by decide +kernel
theorem dX4_parse_38 : decode cX4_parse 38 = .ok (.getfield 24, 3) := by decide +kernel
theorem dX4_parse_41 : decode cX4_parse 41 = .ok (.if_icmp .ge 38, 3) := by decide +kernel
theorem dX4_parse_44 : decode cX4_parse 44 = .ok (.aload_n 0, 1) := by decide +kernel
theorem dX4_parse_45 : decode cX4_parse 45 = .ok (.aload_n 0, 1) := by decide +kernel
theorem dX4_parse_46 : decode cX4_parse 46 = .ok (.getfield 9, 3) := by decide +kernel
theorem dX4_parse_49 : decode cX4_parse 49 = .ok (.iload_n 2, 1) := by decide +kernel
theorem dX4_parse_50 : decode cX4_parse 50 = .ok (.invokestatic 55, 3) := by decide +kernel
theorem dX4_parse_53 : decode cX4_parse 53 = .ok (.invokevirtual 59, 3) := by decide +kernel
theorem dX4_parse_56 : decode cX4_parse 56 = .ok (.ifCond .ne 5, 3) := by decide +kernel
theorem dX4_parse_59 : decode cX4_parse 59 = .ok (.iload_n 2, 1) := by decide +kernel
theorem dX4_parse_60 : decode cX4_parse 60 = .ok (.ireturn, 1) := by decide +kernel
theorem dX4_parse_61 : decode cX4_parse 61 = .ok (.aload_n 0, 1) := by decide +kernel
theorem dX4_parse_62 : decode cX4_parse 62 = .ok (.getfield 52, 3) := by decide +kernel
theorem dX4_parse_65 : decode cX4_parse 65 = .ok (.iconst 3, 1) := by decide +kernel
theorem dX4_parse_66 : decode cX4_parse 66 = .ok (.if_icmp .ne 7, 3) := by decide +kernel
theorem dX4_parse_69 : decode cX4_parse 69 = .ok (.aload_n 0, 1) := by decide +kernel
theorem dX4_parse_70 : decode cX4_parse 70 = .ok (.invokevirtual 63, 3) := by decide +kernel
theorem dX4_parse_73 : decode cX4_parse 73 = .ok (.iinc 2 1, 3) := by decide +kernel
theorem dX4_parse_76 : decode cX4_parse 76 = .ok (.goto (-40), 3) := by decide +kernel
theorem dX4_parse_79 : decode cX4_parse 79 = .ok (.aload_n 0, 1) := by decide +kernel
theorem dX4_parse_80 : decode cX4_parse 80 = .ok (.getfield 52, 3) := by decide +kernel
theorem dX4_parse_83 : decode cX4_parse 83 = .ok (.iconst 3, 1) := by decide +kernel
theorem dX4_parse_84 : decode cX4_parse 84 = .ok (.if_icmp .eq 8, 3) := by decide +kernel
theorem dX4_parse_87 : decode cX4_parse 87 = .ok (.aload_n 0, 1) := by decide +kernel
theorem dX4_parse_88 : decode cX4_parse 88 = .ok (.getfield 24, 3) := by decide +kernel
theorem dX4_parse_91 : decode cX4_parse 91 = .ok (.ireturn, 1) := by decide +kernel
theorem dX4_parse_92 : decode cX4_parse 92 = .ok (.aload_n 0, 1) := by decide +kernel
theorem dX4_parse_93 : decode cX4_parse 93 = .ok (.iconst 4, 1) := by decide +kernel
theorem dX4_parse_94 : decode cX4_parse 94 = .ok (.invokevirtual 66, 3) := by decide +kernel
theorem dX4_parse_97 : decode cX4_parse 97 = .ok (.aload_n 0, 1) := by decide +kernel
theorem dX4_parse_98 : decode cX4_parse 98 = .ok (.iconst 5, 1) := by decide +kernel
theorem dX4_parse_99 : decode cX4_parse 99 = .ok (.invokevirtual 66, 3) := by decide +kernel
theorem dX4_parse_102 : decode cX4_parse 102 = .ok (.aload_n 0, 1) := by decide +kernel
theorem dX4_parse_103 : decode cX4_parse 103 = .ok (.getfield 46, 3) := by decide +kernel
theorem dX4_parse_106 : decode cX4_parse 106 = .ok (.ifCond .ne 7, 3) := by decide +kernel
theorem dX4_parse_109 : decode cX4_parse 109 = .ok (.iconst (-1), 1) := by decide +kernel
theorem dX4_parse_110 : decode cX4_parse 110 = .ok (.goto 7, 3) := by decide +kernel
theorem dX4_parse_113 : decode cX4_parse 113 = .ok (.aload_n 0, 1) := by decide +kernel
theorem dX4_parse_114 : decode cX4_parse 114 = .ok (.getfield 24, 3) := by decide +kernel
theorem dX4_parse_117 : decode cX4_parse 117 = .ok (.ireturn, 1) := by decide +kernel
theorem dX4_take_0 : decode cX4_take 0 = .ok (.aload_n 0, 1) := by decide +kernel
theorem dX4_take_1 : decode cX4_take 1 = .ok (.getfield 52, 3) := by decide +kernel
theorem dX4_take_4 : decode cX4_take 4 = .ok (.tableswitch 46 0 2 #[28, 34, 40], 28) := by decide +kernel
theorem dX4_take_32 : decode cX4_take 32 = .ok (.aload_n 0, 1) := by decide +kernel
theorem dX4_take_33 : decode cX4_take 33 = .ok (.iload_n 1, 1) := by decide +kernel
theorem dX4_take_34 : decode cX4_take 34 = .ok (.invokevirtual 70, 3) := by decide +kernel
theorem dX4_take_37 : decode cX4_take 37 = .ok (.ireturn, 1) := by decide +kernel
theorem dX4_take_38 : decode cX4_take 38 = .ok (.aload_n 0, 1) := by decide +kernel
theorem dX4_take_39 : decode cX4_take 39 = .ok (.iload_n 1, 1) := by decide +kernel
theorem dX4_take_40 : decode cX4_take 40 = .ok (.invokevirtual 73, 3) := by decide +kernel
theorem dX4_take_43 : decode cX4_take 43 = .ok (.ireturn, 1) := by decide +kernel
theorem dX4_take_44 : decode cX4_take 44 = .ok (.aload_n 0, 1) := by decide +kernel
theorem dX4_take_45 : decode cX4_take 45 = .ok (.iload_n 1, 1) := by decide +kernel
theorem dX4_take_46 : decode cX4_take 46 = .ok (.invokevirtual 76, 3) := by decide +kernel
theorem dX4_take_49 : decode cX4_take 49 = .ok (.ireturn, 1) := by decide +kernel
theorem dX4_take_50 : decode cX4_take 50 = .ok (.aload_n 0, 1) := by decide +kernel
theorem dX4_take_51 : decode cX4_take 51 = .ok (.iload_n 1, 1) := by decide +kernel
theorem dX4_take_52 : decode cX4_take 52 = .ok (.invokevirtual 79, 3) := by decide +kernel
theorem dX4_take_55 : decode cX4_take 55 = .ok (.ireturn, 1) := by decide +kernel
theorem dX4_takeUnit_0 : decode cX4_takeUnit 0 = .ok (.iload_n 1, 1) := by decide +kernel
theorem dX4_takeUnit_1 : decode cX4_takeUnit 1 = .ok (.bipush 97, 2) := by decide +kernel
theorem dX4_takeUnit_3 : decode cX4_takeUnit 3 = .ok (.if_icmp .lt 19, 3) := by decide +kernel
theorem dX4_takeUnit_6 : decode cX4_takeUnit 6 = .ok (.iload_n 1, 1) := by decide +kernel
theorem dX4_takeUnit_7 : decode cX4_takeUnit 7 = .ok (.bipush 122, 2) := by decide +kernel
theorem dX4_takeUnit_9 : decode cX4_takeUnit 9 = .ok (.if_icmp .gt 13, 3) := by decide +kernel
theorem dX4_takeUnit_12 : decode cX4_takeUnit 12 = .ok (.aload_n 0, 1) := by decide +kernel
theorem dX4_takeUnit_13 : decode cX4_takeUnit 13 = .ok (.iconst 2, 1) := by decide +kernel
theorem dX4_takeUnit_14 : decode cX4_takeUnit 14 = .ok (.iload_n 1, 1) := by decide +kernel
theorem dX4_takeUnit_15 : decode cX4_takeUnit 15 = .ok (.bipush 97, 2) := by decide +kernel
theorem dX4_takeUnit_17 : decode cX4_takeUnit 17 = .ok (.isub, 1) := by decide +kernel
theorem dX4_takeUnit_18 : decode cX4_takeUnit 18 = .ok (.invokevirtual 82, 3) := by decide +kernel
theorem dX4_takeUnit_21 : decode cX4_takeUnit 21 = .ok (.ireturn, 1) := by decide +kernel
theorem dX4_takeUnit_22 : decode cX4_takeUnit 22 = .ok (.iload_n 1, 1) := by decide +kernel
theorem dX4_takeUnit_23 : decode cX4_takeUnit 23 = .ok (.lookupswitch 113 #[(33, 71), (40, 78), (48, 57), (49, 64), (60, 86), (91, 86)], 57) := by decide +kernel
theorem dX4_takeUnit_80 : decode cX4_takeUnit 80 = .ok (.aload_n 0, 1) := by decide +kernel
theorem dX4_takeUnit_81 : decode cX4_takeUnit 81 = .ok (.iconst 0, 1) := by decide +kernel
theorem dX4_takeUnit_82 : decode cX4_takeUnit 82 = .ok (.iconst 0, 1) := by decide +kernel
theorem dX4_takeUnit_83 : decode cX4_takeUnit 83 = .ok (.invokevirtual 82, 3) := by decide +kernel
theorem dX4_takeUnit_86 : decode cX4_takeUnit 86 = .ok (.ireturn, 1) := by decide +kernel
theorem dX4_takeUnit_87 : decode cX4_takeUnit 87 = .ok (.aload_n 0, 1) := by decide +kernel
theorem dX4_takeUnit_88 : decode cX4_takeUnit 88 = .ok (.iconst 1, 1) := by decide +kernel
theorem dX4_takeUnit_89 : decode cX4_takeUnit 89 = .ok (.iconst 0, 1) := by decide +kernel
theorem dX4_takeUnit_90 : decode cX4_takeUnit 90 = .ok (.invokevirtual 82, 3) := by decide +kernel
theorem dX4_takeUnit_93 : decode cX4_takeUnit 93 = .ok (.ireturn, 1) := by decide +kernel
theorem dX4_takeUnit_94 : decode cX4_takeUnit 94 = .ok (.aload_n 0, 1) := by decide +kernel
theorem dX4_takeUnit_95 : decode cX4_takeUnit 95 = .ok (.iconst 3, 1) := by decide +kernel
theorem dX4_takeUnit_96 : decode cX4_takeUnit 96 = .ok (.iconst 0, 1) := by decide +kernel
theorem dX4_takeUnit_97 : decode cX4_takeUnit 97 = .ok (.invokevirtual 86, 3) := by decide +kernel
theorem dX4_takeUnit_100 : decode cX4_takeUnit 100 = .ok (.ireturn, 1) := by decide +kernel
theorem dX4_takeUnit_101 : decode cX4_takeUnit 101 = .ok (.aload_n 0, 1) := by decide +kernel
theorem dX4_takeUnit_102 : decode cX4_takeUnit 102 = .ok (.bipush 14, 2) := by decide +kernel
theorem dX4_takeUnit_104 : decode cX4_takeUnit 104 = .ok (.iconst 0, 1) := by decide +kernel
theorem dX4_takeUnit_105 : decode cX4_takeUnit 105 = .ok (.invokevirtual 86, 3) := by decide +kernel
theorem dX4_takeUnit_108 : decode cX4_takeUnit 108 = .ok (.ireturn, 1) := by decide +kernel
theorem dX4_takeUnit_109 : decode cX4_takeUnit 109 = .ok (.aload_n 0, 1) := by decide +kernel
theorem dX4_takeUnit_110 : decode cX4_takeUnit 110 = .ok (.iconst 0, 1) := by decide +kernel
theorem dX4_takeUnit_111 : decode cX4_takeUnit 111 = .ok (.putfield 89, 3) := by decide +kernel
theorem dX4_takeUnit_114 : decode cX4_takeUnit 114 = .ok (.aload_n 0, 1) := by decide +kernel
theorem dX4_takeUnit_115 : decode cX4_takeUnit 115 = .ok (.iload_n 1, 1) := by decide +kernel
theorem dX4_takeUnit_116 : decode cX4_takeUnit 116 = .ok (.bipush 91, 2) := by decide +kernel
theorem dX4_takeUnit_118 : decode cX4_takeUnit 118 = .ok (.if_icmp .ne 7, 3) := by decide +kernel
theorem dX4_takeUnit_121 : decode cX4_takeUnit 121 = .ok (.iconst 4, 1) := by decide +kernel
theorem dX4_takeUnit_122 : decode cX4_takeUnit 122 = .ok (.goto 4, 3) := by decide +kernel
theorem dX4_takeUnit_125 : decode cX4_takeUnit 125 = .ok (.iconst 0, 1) := by decide +kernel
theorem dX4_takeUnit_126 : decode cX4_takeUnit 126 = .ok (.putfield 92, 3) := by decide +kernel
theorem dX4_takeUnit_129 : decode cX4_takeUnit 129 = .ok (.aload_n 0, 1) := by decide +kernel
theorem dX4_takeUnit_130 : decode cX4_takeUnit 130 = .ok (.iconst 1, 1) := by decide +kernel
theorem dX4_takeUnit_131 : decode cX4_takeUnit 131 = .ok (.putfield 52, 3) := by decide +kernel
theorem dX4_takeUnit_134 : decode cX4_takeUnit 134 = .ok (.iconst 1, 1) := by decide +kernel
theorem dX4_takeUnit_135 : decode cX4_takeUnit 135 = .ok (.ireturn, 1) := by decide +kernel
theorem dX4_takeUnit_136 : decode cX4_takeUnit 136 = .ok (.iconst 0, 1) := by decide +kernel
theorem dX4_takeUnit_137 : decode cX4_takeUnit 137 = .ok (.ireturn, 1) := by decide +kernel
theorem dX4_takeAgent_0 : decode cX4_takeAgent 0 = .ok (.iload_n 1, 1) := by decide +kernel
theorem dX4_takeAgent_1 : decode cX4_takeAgent 1 = .ok (.aload_n 0, 1) := by decide +kernel
theorem dX4_takeAgent_2 : decode cX4_takeAgent 2 = .ok (.getfield 92, 3) := by decide +kernel
theorem dX4_takeAgent_5 : decode cX4_takeAgent 5 = .ok (.ifCond .ne 8, 3) := by decide +kernel
theorem dX4_takeAgent_8 : decode cX4_takeAgent 8 = .ok (.bipush 62, 2) := by decide +kernel
theorem dX4_takeAgent_10 : decode cX4_takeAgent 10 = .ok (.goto 5, 3) := by decide +kernel
theorem dX4_takeAgent_13 : decode cX4_takeAgent 13 = .ok (.bipush 93, 2) := by decide +kernel
theorem dX4_takeAgent_15 : decode cX4_takeAgent 15 = .ok (.if_icmp .ne 10, 3) := by decide +kernel
theorem dX4_takeAgent_18 : decode cX4_takeAgent 18 = .ok (.aload_n 0, 1) := by decide +kernel
theorem dX4_takeAgent_19 : decode cX4_takeAgent 19 = .ok (.iconst 2, 1) := by decide +kernel
theorem dX4_takeAgent_20 : decode cX4_takeAgent 20 = .ok (.putfield 52, 3) := by decide +kernel
theorem dX4_takeAgent_23 : decode cX4_takeAgent 23 = .ok (.iconst 1, 1) := by decide +kernel
theorem dX4_takeAgent_24 : decode cX4_takeAgent 24 = .ok (.ireturn, 1) := by decide +kernel
theorem dX4_takeAgent_25 : decode cX4_takeAgent 25 = .ok (.iload_n 1, 1) := by decide +kernel
theorem dX4_takeAgent_26 : decode cX4_takeAgent 26 = .ok (.bipush 48, 2) := by decide +kernel
theorem dX4_takeAgent_28 : decode cX4_takeAgent 28 = .ok (.isub, 1) := by decide +kernel
theorem dX4_takeAgent_29 : decode cX4_takeAgent 29 = .ok (.istore_n 2, 1) := by decide +kernel
theorem dX4_takeAgent_30 : decode cX4_takeAgent 30 = .ok (.iload_n 2, 1) := by decide +kernel
theorem dX4_takeAgent_31 : decode cX4_takeAgent 31 = .ok (.ifCond .lt 20, 3) := by decide +kernel
theorem dX4_takeAgent_34 : decode cX4_takeAgent 34 = .ok (.iload_n 2, 1) := by decide +kernel
theorem dX4_takeAgent_35 : decode cX4_takeAgent 35 = .ok (.aload_n 0, 1) := by decide +kernel
theorem dX4_takeAgent_36 : decode cX4_takeAgent 36 = .ok (.getfield 28, 3) := by decide +kernel
theorem dX4_takeAgent_39 : decode cX4_takeAgent 39 = .ok (.if_icmp .ge 12, 3) := by decide +kernel
theorem dX4_takeAgent_42 : decode cX4_takeAgent 42 = .ok (.aload_n 0, 1) := by decide +kernel
theorem dX4_takeAgent_43 : decode cX4_takeAgent 43 = .ok (.getfield 89, 3) := by decide +kernel
theorem dX4_takeAgent_46 : decode cX4_takeAgent 46 = .ok (.iload_n 2, 1) := by decide +kernel
theorem dX4_takeAgent_47 : decode cX4_takeAgent 47 = .ok (.ishr, 1) := by decide +kernel
theorem dX4_takeAgent_48 : decode cX4_takeAgent 48 = .ok (.ifCond .eq 5, 3) := by decide +kernel
theorem dX4_takeAgent_51 : decode cX4_takeAgent 51 = .ok (.iconst 0, 1) := by decide +kernel
theorem dX4_takeAgent_52 : decode cX4_takeAgent 52 = .ok (.ireturn, 1) := by decide +kernel
theorem dX4_takeAgent_53 : decode cX4_takeAgent 53 = .ok (.aload_n 0, 1) := by decide +kernel
theorem dX4_takeAgent_54 : decode cX4_takeAgent 54 = .ok (.dup, 1) := by decide +kernel
theorem dX4_takeAgent_55 : decode cX4_takeAgent 55 = .ok (.getfield 89, 3) := by decide +kernel
theorem dX4_takeAgent_58 : decode cX4_takeAgent 58 = .ok (.iconst 1, 1) := by decide +kernel
theorem dX4_takeAgent_59 : decode cX4_takeAgent 59 = .ok (.iload_n 2, 1) := by decide +kernel
theorem dX4_takeAgent_60 : decode cX4_takeAgent 60 = .ok (.ishl, 1) := by decide +kernel
theorem dX4_takeAgent_61 : decode cX4_takeAgent 61 = .ok (.ior, 1) := by decide +kernel
theorem dX4_takeAgent_62 : decode cX4_takeAgent 62 = .ok (.putfield 89, 3) := by decide +kernel
theorem dX4_takeAgent_65 : decode cX4_takeAgent 65 = .ok (.iconst 1, 1) := by decide +kernel
theorem dX4_takeAgent_66 : decode cX4_takeAgent 66 = .ok (.ireturn, 1) := by decide +kernel
theorem dX4_takeGoal_0 : decode cX4_takeGoal 0 = .ok (.iload_n 1, 1) := by decide +kernel
theorem dX4_takeGoal_1 : decode cX4_takeGoal 1 = .ok (.lookupswitch 107 #[(40, 91), (70, 59), (71, 75), (88, 43)], 43) := by decide +kernel
theorem dX4_takeGoal_44 : decode cX4_takeGoal 44 = .ok (.aload_n 0, 1) := by decide +kernel
theorem dX4_takeGoal_45 : decode cX4_takeGoal 45 = .ok (.bipush 6, 2) := by decide +kernel
theorem dX4_takeGoal_47 : decode cX4_takeGoal 47 = .ok (.aload_n 0, 1) := by decide +kernel
theorem dX4_takeGoal_48 : decode cX4_takeGoal 48 = .ok (.getfield 92, 3) := by decide +kernel
theorem dX4_takeGoal_51 : decode cX4_takeGoal 51 = .ok (.iadd, 1) := by decide +kernel
theorem dX4_takeGoal_52 : decode cX4_takeGoal 52 = .ok (.aload_n 0, 1) := by decide +kernel
theorem dX4_takeGoal_53 : decode cX4_takeGoal 53 = .ok (.getfield 89, 3) := by decide +kernel
theorem dX4_takeGoal_56 : decode cX4_takeGoal 56 = .ok (.invokevirtual 86, 3) := by decide +kernel
theorem dX4_takeGoal_59 : decode cX4_takeGoal 59 = .ok (.ireturn, 1) := by decide +kernel
theorem dX4_takeGoal_60 : decode cX4_takeGoal 60 = .ok (.aload_n 0, 1) := by decide +kernel
theorem dX4_takeGoal_61 : decode cX4_takeGoal 61 = .ok (.bipush 7, 2) := by decide +kernel
theorem dX4_takeGoal_63 : decode cX4_takeGoal 63 = .ok (.aload_n 0, 1) := by decide +kernel
theorem dX4_takeGoal_64 : decode cX4_takeGoal 64 = .ok (.getfield 92, 3) := by decide +kernel
theorem dX4_takeGoal_67 : decode cX4_takeGoal 67 = .ok (.iadd, 1) := by decide +kernel
theorem dX4_takeGoal_68 : decode cX4_takeGoal 68 = .ok (.aload_n 0, 1) := by decide +kernel
theorem dX4_takeGoal_69 : decode cX4_takeGoal 69 = .ok (.getfield 89, 3) := by decide +kernel
theorem dX4_takeGoal_72 : decode cX4_takeGoal 72 = .ok (.invokevirtual 86, 3) := by decide +kernel
theorem dX4_takeGoal_75 : decode cX4_takeGoal 75 = .ok (.ireturn, 1) := by decide +kernel
theorem dX4_takeGoal_76 : decode cX4_takeGoal 76 = .ok (.aload_n 0, 1) := by decide +kernel
theorem dX4_takeGoal_77 : decode cX4_takeGoal 77 = .ok (.bipush 8, 2) := by decide +kernel
theorem dX4_takeGoal_79 : decode cX4_takeGoal 79 = .ok (.aload_n 0, 1) := by decide +kernel
theorem dX4_takeGoal_80 : decode cX4_takeGoal 80 = .ok (.getfield 92, 3) := by decide +kernel
theorem dX4_takeGoal_83 : decode cX4_takeGoal 83 = .ok (.iadd, 1) := by decide +kernel
theorem dX4_takeGoal_84 : decode cX4_takeGoal 84 = .ok (.aload_n 0, 1) := by decide +kernel
theorem dX4_takeGoal_85 : decode cX4_takeGoal 85 = .ok (.getfield 89, 3) := by decide +kernel
theorem dX4_takeGoal_88 : decode cX4_takeGoal 88 = .ok (.invokevirtual 86, 3) := by decide +kernel
theorem dX4_takeGoal_91 : decode cX4_takeGoal 91 = .ok (.ireturn, 1) := by decide +kernel
theorem dX4_takeGoal_92 : decode cX4_takeGoal 92 = .ok (.aload_n 0, 1) := by decide +kernel
theorem dX4_takeGoal_93 : decode cX4_takeGoal 93 = .ok (.bipush 15, 2) := by decide +kernel
theorem dX4_takeGoal_95 : decode cX4_takeGoal 95 = .ok (.aload_n 0, 1) := by decide +kernel
theorem dX4_takeGoal_96 : decode cX4_takeGoal 96 = .ok (.getfield 92, 3) := by decide +kernel
theorem dX4_takeGoal_99 : decode cX4_takeGoal 99 = .ok (.iadd, 1) := by decide +kernel
theorem dX4_takeGoal_100 : decode cX4_takeGoal 100 = .ok (.aload_n 0, 1) := by decide +kernel
theorem dX4_takeGoal_101 : decode cX4_takeGoal 101 = .ok (.getfield 89, 3) := by decide +kernel
theorem dX4_takeGoal_104 : decode cX4_takeGoal 104 = .ok (.invokevirtual 86, 3) := by decide +kernel
theorem dX4_takeGoal_107 : decode cX4_takeGoal 107 = .ok (.ireturn, 1) := by decide +kernel
theorem dX4_takeGoal_108 : decode cX4_takeGoal 108 = .ok (.iconst 0, 1) := by decide +kernel
theorem dX4_takeGoal_109 : decode cX4_takeGoal 109 = .ok (.ireturn, 1) := by decide +kernel
theorem dX4_takeAfterUnit_0 : decode cX4_takeAfterUnit 0 = .ok (.aload_n 0, 1) := by decide +kernel
theorem dX4_takeAfterUnit_1 : decode cX4_takeAfterUnit 1 = .ok (.iconst 4, 1) := by decide +kernel
theorem dX4_takeAfterUnit_2 : decode cX4_takeAfterUnit 2 = .ok (.invokevirtual 66, 3) := by decide +kernel
theorem dX4_takeAfterUnit_5 : decode cX4_takeAfterUnit 5 = .ok (.iload_n 1, 1) := by decide +kernel
theorem dX4_takeAfterUnit_6 : decode cX4_takeAfterUnit 6 = .ok (.bipush 38, 2) := by decide +kernel
theorem dX4_takeAfterUnit_8 : decode cX4_takeAfterUnit 8 = .ok (.if_icmp .ne 10, 3) := by decide +kernel
theorem dX4_takeAfterUnit_11 : decode cX4_takeAfterUnit 11 = .ok (.aload_n 0, 1) := by decide +kernel
theorem dX4_takeAfterUnit_12 : decode cX4_takeAfterUnit 12 = .ok (.iconst 4, 1) := by decide +kernel
theorem dX4_takeAfterUnit_13 : decode cX4_takeAfterUnit 13 = .ok (.iconst 0, 1) := by decide +kernel
theorem dX4_takeAfterUnit_14 : decode cX4_takeAfterUnit 14 = .ok (.invokevirtual 86, 3) := by decide +kernel
theorem dX4_takeAfterUnit_17 : decode cX4_takeAfterUnit 17 = .ok (.ireturn, 1) := by decide +kernel
theorem dX4_takeAfterUnit_18 : decode cX4_takeAfterUnit 18 = .ok (.aload_n 0, 1) := by decide +kernel
theorem dX4_takeAfterUnit_19 : decode cX4_takeAfterUnit 19 = .ok (.iconst 5, 1) := by decide +kernel
theorem dX4_takeAfterUnit_20 : decode cX4_takeAfterUnit 20 = .ok (.invokevirtual 66, 3) := by decide +kernel
theorem dX4_takeAfterUnit_23 : decode cX4_takeAfterUnit 23 = .ok (.iload_n 1, 1) := by decide +kernel
theorem dX4_takeAfterUnit_24 : decode cX4_takeAfterUnit 24 = .ok (.lookupswitch 53 #[(41, 48), (85, 43), (124, 36)], 36) := by decide +kernel
theorem dX4_takeAfterUnit_60 : decode cX4_takeAfterUnit 60 = .ok (.aload_n 0, 1) := by decide +kernel
theorem dX4_takeAfterUnit_61 : decode cX4_takeAfterUnit 61 = .ok (.iconst 5, 1) := by decide +kernel
theorem dX4_takeAfterUnit_62 : decode cX4_takeAfterUnit 62 = .ok (.iconst 0, 1) := by decide +kernel
theorem dX4_takeAfterUnit_63 : decode cX4_takeAfterUnit 63 = .ok (.invokevirtual 86, 3) := by decide +kernel
theorem dX4_takeAfterUnit_66 : decode cX4_takeAfterUnit 66 = .ok (.ireturn, 1) := by decide +kernel
theorem dX4_takeAfterUnit_67 : decode cX4_takeAfterUnit 67 = .ok (.aload_n 0, 1) := by decide +kernel
theorem dX4_takeAfterUnit_68 : decode cX4_takeAfterUnit 68 = .ok (.invokevirtual 95, 3) := by decide +kernel
theorem dX4_takeAfterUnit_71 : decode cX4_takeAfterUnit 71 = .ok (.ireturn, 1) := by decide +kernel
theorem dX4_takeAfterUnit_72 : decode cX4_takeAfterUnit 72 = .ok (.aload_n 0, 1) := by decide +kernel
theorem dX4_takeAfterUnit_73 : decode cX4_takeAfterUnit 73 = .ok (.invokevirtual 99, 3) := by decide +kernel
theorem dX4_takeAfterUnit_76 : decode cX4_takeAfterUnit 76 = .ok (.ireturn, 1) := by decide +kernel
theorem dX4_takeAfterUnit_77 : decode cX4_takeAfterUnit 77 = .ok (.iconst 0, 1) := by decide +kernel
theorem dX4_takeAfterUnit_78 : decode cX4_takeAfterUnit 78 = .ok (.ireturn, 1) := by decide +kernel
theorem dX4_takeUntil_0 : decode cX4_takeUntil 0 = .ok (.aload_n 0, 1) := by decide +kernel
theorem dX4_takeUntil_1 : decode cX4_takeUntil 1 = .ok (.invokevirtual 102, 3) := by decide +kernel
theorem dX4_takeUntil_4 : decode cX4_takeUntil 4 = .ok (.istore_n 1, 1) := by decide +kernel
theorem dX4_takeUntil_5 : decode cX4_takeUntil 5 = .ok (.iload_n 1, 1) := by decide +kernel
theorem dX4_takeUntil_6 : decode cX4_takeUntil 6 = .ok (.bipush 15, 2) := by decide +kernel
theorem dX4_takeUntil_8 : decode cX4_takeUntil 8 = .ok (.if_icmp .eq 11, 3) := by decide +kernel
theorem dX4_takeUntil_11 : decode cX4_takeUntil 11 = .ok (.iload_n 1, 1) := by decide +kernel
theorem dX4_takeUntil_12 : decode cX4_takeUntil 12 = .ok (.bipush 19, 2) := by decide +kernel
theorem dX4_takeUntil_14 : decode cX4_takeUntil 14 = .ok (.if_icmp .eq 5, 3) := by decide +kernel
theorem dX4_takeUntil_17 : decode cX4_takeUntil 17 = .ok (.iconst 0, 1) := by decide +kernel
theorem dX4_takeUntil_18 : decode cX4_takeUntil 18 = .ok (.ireturn, 1) := by decide +kernel
theorem dX4_takeUntil_19 : decode cX4_takeUntil 19 = .ok (.aload_n 0, 1) := by decide +kernel
theorem dX4_takeUntil_20 : decode cX4_takeUntil 20 = .ok (.getfield 15, 3) := by decide +kernel
theorem dX4_takeUntil_23 : decode cX4_takeUntil 23 = .ok (.aload_n 0, 1) := by decide +kernel
theorem dX4_takeUntil_24 : decode cX4_takeUntil 24 = .ok (.getfield 46, 3) := by decide +kernel
theorem dX4_takeUntil_27 : decode cX4_takeUntil 27 = .ok (.iconst 1, 1) := by decide +kernel
theorem dX4_takeUntil_28 : decode cX4_takeUntil 28 = .ok (.isub, 1) := by decide +kernel
theorem dX4_takeUntil_29 : decode cX4_takeUntil 29 = .ok (.iload_n 1, 1) := by decide +kernel
theorem dX4_takeUntil_30 : decode cX4_takeUntil 30 = .ok (.bipush 15, 2) := by decide +kernel
theorem dX4_takeUntil_32 : decode cX4_takeUntil 32 = .ok (.isub, 1) := by decide +kernel
theorem dX4_takeUntil_33 : decode cX4_takeUntil 33 = .ok (.bipush 9, 2) := by decide +kernel
theorem dX4_takeUntil_35 : decode cX4_takeUntil 35 = .ok (.iadd, 1) := by decide +kernel
theorem dX4_takeUntil_36 : decode cX4_takeUntil 36 = .ok (.invokestatic 31, 3) := by decide +kernel
theorem dX4_takeUntil_39 : decode cX4_takeUntil 39 = .ok (.aload_n 0, 1) := by decide +kernel
theorem dX4_takeUntil_40 : decode cX4_takeUntil 40 = .ok (.iconst 0, 1) := by decide +kernel
theorem dX4_takeUntil_41 : decode cX4_takeUntil 41 = .ok (.putfield 52, 3) := by decide +kernel
theorem dX4_takeUntil_44 : decode cX4_takeUntil 44 = .ok (.iconst 1, 1) := by decide +kernel
theorem dX4_takeUntil_45 : decode cX4_takeUntil 45 = .ok (.ireturn, 1) := by decide +kernel
theorem dX4_takeBracket_0 : decode cX4_takeBracket 0 = .ok (.aload_n 0, 1) := by decide +kernel
theorem dX4_takeBracket_1 : decode cX4_takeBracket 1 = .ok (.invokevirtual 102, 3) := by decide +kernel
theorem dX4_takeBracket_4 : decode cX4_takeBracket 4 = .ok (.istore_n 1, 1) := by decide +kernel
theorem dX4_takeBracket_5 : decode cX4_takeBracket 5 = .ok (.iload_n 1, 1) := by decide +kernel
theorem dX4_takeBracket_6 : decode cX4_takeBracket 6 = .ok (.bipush 14, 2) := by decide +kernel
theorem dX4_takeBracket_8 : decode cX4_takeBracket 8 = .ok (.if_icmp .ne 16, 3) := by decide +kernel
theorem dX4_takeBracket_11 : decode cX4_takeBracket 11 = .ok (.aload_n 0, 1) := by decide +kernel
theorem dX4_takeBracket_12 : decode cX4_takeBracket 12 = .ok (.dup, 1) := by decide +kernel
theorem dX4_takeBracket_13 : decode cX4_takeBracket 13 = .ok (.getfield 46, 3) := by decide +kernel
theorem dX4_takeBracket_16 : decode cX4_takeBracket 16 = .ok (.iconst 1, 1) := by decide +kernel
theorem dX4_takeBracket_17 : decode cX4_takeBracket 17 = .ok (.isub, 1) := by decide +kernel
theorem dX4_takeBracket_18 : decode cX4_takeBracket 18 = .ok (.putfield 46, 3) := by decide +kernel
theorem dX4_takeBracket_21 : decode cX4_takeBracket 21 = .ok (.goto 24, 3) := by decide +kernel
theorem dX4_takeBracket_24 : decode cX4_takeBracket 24 = .ok (.iload_n 1, 1) := by decide +kernel
theorem dX4_takeBracket_25 : decode cX4_takeBracket 25 = .ok (.bipush 9, 2) := by decide +kernel
theorem dX4_takeBracket_27 : decode cX4_takeBracket 27 = .ok (.if_icmp .eq 9, 3) := by decide +kernel
theorem dX4_takeBracket_30 : decode cX4_takeBracket 30 = .ok (.iload_n 1, 1) := by decide +kernel
theorem dX4_takeBracket_31 : decode cX4_takeBracket 31 = .ok (.bipush 13, 2) := by decide +kernel
theorem dX4_takeBracket_33 : decode cX4_takeBracket 33 = .ok (.if_icmp .ne 10, 3) := by decide +kernel
theorem dX4_takeBracket_36 : decode cX4_takeBracket 36 = .ok (.aload_n 0, 1) := by decide +kernel
theorem dX4_takeBracket_37 : decode cX4_takeBracket 37 = .ok (.invokevirtual 106, 3) := by decide +kernel
theorem dX4_takeBracket_40 : decode cX4_takeBracket 40 = .ok (.goto 5, 3) := by decide +kernel
theorem dX4_takeBracket_43 : decode cX4_takeBracket 43 = .ok (.iconst 0, 1) := by decide +kernel
theorem dX4_takeBracket_44 : decode cX4_takeBracket 44 = .ok (.ireturn, 1) := by decide +kernel
theorem dX4_takeBracket_45 : decode cX4_takeBracket 45 = .ok (.aload_n 0, 1) := by decide +kernel
theorem dX4_takeBracket_46 : decode cX4_takeBracket 46 = .ok (.iconst 3, 1) := by decide +kernel
theorem dX4_takeBracket_47 : decode cX4_takeBracket 47 = .ok (.putfield 52, 3) := by decide +kernel
theorem dX4_takeBracket_50 : decode cX4_takeBracket 50 = .ok (.iconst 1, 1) := by decide +kernel
theorem dX4_takeBracket_51 : decode cX4_takeBracket 51 = .ok (.ireturn, 1) := by decide +kernel
theorem dX4_addLeaf_0 : decode cX4_addLeaf 0 = .ok (.aload_n 0, 1) := by decide +kernel
theorem dX4_addLeaf_1 : decode cX4_addLeaf 1 = .ok (.aload_n 0, 1) := by decide +kernel
theorem dX4_addLeaf_2 : decode cX4_addLeaf 2 = .ok (.getfield 37, 3) := by decide +kernel
theorem dX4_addLeaf_5 : decode cX4_addLeaf 5 = .ok (.iload_n 1, 1) := by decide +kernel
theorem dX4_addLeaf_6 : decode cX4_addLeaf 6 = .ok (.iload_n 2, 1) := by decide +kernel
theorem dX4_addLeaf_7 : decode cX4_addLeaf 7 = .ok (.iconst 0, 1) := by decide +kernel
theorem dX4_addLeaf_8 : decode cX4_addLeaf 8 = .ok (.iconst 0, 1) := by decide +kernel
theorem dX4_addLeaf_9 : decode cX4_addLeaf 9 = .ok (.invokevirtual 109, 3) := by decide +kernel
theorem dX4_addLeaf_12 : decode cX4_addLeaf 12 = .ok (.invokevirtual 113, 3) := by decide +kernel
theorem dX4_addLeaf_15 : decode cX4_addLeaf 15 = .ok (.aload_n 0, 1) := by decide +kernel
theorem dX4_addLeaf_16 : decode cX4_addLeaf 16 = .ok (.iconst 3, 1) := by decide +kernel
theorem dX4_addLeaf_17 : decode cX4_addLeaf 17 = .ok (.putfield 52, 3) := by decide +kernel
theorem dX4_addLeaf_20 : decode cX4_addLeaf 20 = .ok (.iconst 1, 1) := by decide +kernel
theorem dX4_addLeaf_21 : decode cX4_addLeaf 21 = .ok (.ireturn, 1) := by decide +kernel
theorem dX4_closePrefixes_0 : decode cX4_closePrefixes 0 = .ok (.aload_n 0, 1) := by decide +kernel
theorem dX4_closePrefixes_1 : decode cX4_closePrefixes 1 = .ok (.getfield 46, 3) := by decide +kernel
theorem dX4_closePrefixes_4 : decode cX4_closePrefixes 4 = .ok (.istore_n 1, 1) := by decide +kernel
theorem dX4_closePrefixes_5 : decode cX4_closePrefixes 5 = .ok (.iload_n 1, 1) := by decide +kernel
theorem dX4_closePrefixes_6 : decode cX4_closePrefixes 6 = .ok (.ifCond .le 23, 3) := by decide +kernel
theorem dX4_closePrefixes_9 : decode cX4_closePrefixes 9 = .ok (.aload_n 0, 1) := by decide +kernel
theorem dX4_closePrefixes_10 : decode cX4_closePrefixes 10 = .ok (.invokevirtual 102, 3) := by decide +kernel
theorem dX4_closePrefixes_13 : decode cX4_closePrefixes 13 = .ok (.invokestatic 116, 3) := by decide +kernel
theorem dX4_closePrefixes_16 : decode cX4_closePrefixes 16 = .ok (.ifCond .eq 13, 3) := by decide +kernel
theorem dX4_closePrefixes_19 : decode cX4_closePrefixes 19 = .ok (.aload_n 0, 1) := by decide +kernel
theorem dX4_closePrefixes_20 : decode cX4_closePrefixes 20 = .ok (.invokevirtual 106, 3) := by decide +kernel
theorem dX4_closePrefixes_23 : decode cX4_closePrefixes 23 = .ok (.iinc 1 (-1), 3) := by decide +kernel
theorem dX4_closePrefixes_26 : decode cX4_closePrefixes 26 = .ok (.goto (-21), 3) := by decide +kernel
theorem dX4_closePrefixes_29 : decode cX4_closePrefixes 29 = .ok (.return_, 1) := by decide +kernel
theorem dX4_isPrefix_0 : decode cX4_isPrefix 0 = .ok (.iload_n 0, 1) := by decide +kernel
theorem dX4_isPrefix_1 : decode cX4_isPrefix 1 = .ok (.iconst 3, 1) := by decide +kernel
theorem dX4_isPrefix_2 : decode cX4_isPrefix 2 = .ok (.if_icmp .ne 5, 3) := by decide +kernel
theorem dX4_isPrefix_5 : decode cX4_isPrefix 5 = .ok (.iconst 1, 1) := by decide +kernel
theorem dX4_isPrefix_6 : decode cX4_isPrefix 6 = .ok (.ireturn, 1) := by decide +kernel
theorem dX4_isPrefix_7 : decode cX4_isPrefix 7 = .ok (.iload_n 0, 1) := by decide +kernel
theorem dX4_isPrefix_8 : decode cX4_isPrefix 8 = .ok (.bipush 9, 2) := by decide +kernel
theorem dX4_isPrefix_10 : decode cX4_isPrefix 10 = .ok (.if_icmp .le 9, 3) := by decide +kernel
theorem dX4_isPrefix_13 : decode cX4_isPrefix 13 = .ok (.iload_n 0, 1) := by decide +kernel
theorem dX4_isPrefix_14 : decode cX4_isPrefix 14 = .ok (.iconst 4, 1) := by decide +kernel
theorem dX4_isPrefix_15 : decode cX4_isPrefix 15 = .ok (.isub, 1) := by decide +kernel
theorem dX4_isPrefix_16 : decode cX4_isPrefix 16 = .ok (.goto 4, 3) := by decide +kernel
theorem dX4_isPrefix_19 : decode cX4_isPrefix 19 = .ok (.iload_n 0, 1) := by decide +kernel
theorem dX4_isPrefix_20 : decode cX4_isPrefix 20 = .ok (.istore_n 1, 1) := by decide +kernel
theorem dX4_isPrefix_21 : decode cX4_isPrefix 21 = .ok (.iload_n 1, 1) := by decide +kernel
theorem dX4_isPrefix_22 : decode cX4_isPrefix 22 = .ok (.bipush 6, 2) := by decide +kernel
theorem dX4_isPrefix_24 : decode cX4_isPrefix 24 = .ok (.if_icmp .lt 13, 3) := by decide +kernel
theorem dX4_isPrefix_27 : decode cX4_isPrefix 27 = .ok (.iload_n 1, 1) := by decide +kernel
theorem dX4_isPrefix_28 : decode cX4_isPrefix 28 = .ok (.bipush 8, 2) := by decide +kernel
theorem dX4_isPrefix_30 : decode cX4_isPrefix 30 = .ok (.if_icmp .gt 7, 3) := by decide +kernel
theorem dX4_isPrefix_33 : decode cX4_isPrefix 33 = .ok (.iconst 1, 1) := by decide +kernel
theorem dX4_isPrefix_34 : decode cX4_isPrefix 34 = .ok (.goto 4, 3) := by decide +kernel
theorem dX4_isPrefix_37 : decode cX4_isPrefix 37 = .ok (.iconst 0, 1) := by decide +kernel
theorem dX4_isPrefix_38 : decode cX4_isPrefix 38 = .ok (.ireturn, 1) := by decide +kernel
theorem dX4_closeIf_0 : decode cX4_closeIf 0 = .ok (.aload_n 0, 1) := by decide +kernel
theorem dX4_closeIf_1 : decode cX4_closeIf 1 = .ok (.invokevirtual 102, 3) := by decide +kernel
theorem dX4_closeIf_4 : decode cX4_closeIf 4 = .ok (.iload_n 1, 1) := by decide +kernel
theorem dX4_closeIf_5 : decode cX4_closeIf 5 = .ok (.if_icmp .ne 7, 3) := by decide +kernel
theorem dX4_closeIf_8 : decode cX4_closeIf 8 = .ok (.aload_n 0, 1) := by decide +kernel
theorem dX4_closeIf_9 : decode cX4_closeIf 9 = .ok (.invokevirtual 106, 3) := by decide +kernel
theorem dX4_closeIf_12 : decode cX4_closeIf 12 = .ok (.return_, 1) := by decide +kernel
theorem dX4_close_0 : decode cX4_close 0 = .ok (.aload_n 0, 1) := by decide +kernel
theorem dX4_close_1 : decode cX4_close 1 = .ok (.invokevirtual 102, 3) := by decide +kernel
theorem dX4_close_4 : decode cX4_close 4 = .ok (.istore_n 1, 1) := by decide +kernel
theorem dX4_close_5 : decode cX4_close 5 = .ok (.aload_n 0, 1) := by decide +kernel
theorem dX4_close_6 : decode cX4_close 6 = .ok (.getfield 18, 3) := by decide +kernel
theorem dX4_close_9 : decode cX4_close 9 = .ok (.aload_n 0, 1) := by decide +kernel
theorem dX4_close_10 : decode cX4_close 10 = .ok (.getfield 46, 3) := by decide +kernel
theorem dX4_close_13 : decode cX4_close 13 = .ok (.iconst 1, 1) := by decide +kernel
theorem dX4_close_14 : decode cX4_close 14 = .ok (.isub, 1) := by decide +kernel
theorem dX4_close_15 : decode cX4_close 15 = .ok (.invokestatic 55, 3) := by decide +kernel
theorem dX4_close_18 : decode cX4_close 18 = .ok (.istore_n 2, 1) := by decide +kernel
theorem dX4_close_19 : decode cX4_close 19 = .ok (.aload_n 0, 1) := by decide +kernel
theorem dX4_close_20 : decode cX4_close 20 = .ok (.dup, 1) := by decide +kernel
theorem dX4_close_21 : decode cX4_close 21 = .ok (.getfield 46, 3) := by decide +kernel
theorem dX4_close_24 : decode cX4_close 24 = .ok (.iconst 1, 1) := by decide +kernel
theorem dX4_close_25 : decode cX4_close 25 = .ok (.isub, 1) := by decide +kernel
theorem dX4_close_26 : decode cX4_close 26 = .ok (.putfield 46, 3) := by decide +kernel
theorem dX4_close_29 : decode cX4_close 29 = .ok (.iload_n 1, 1) := by decide +kernel
theorem dX4_close_30 : decode cX4_close 30 = .ok (.invokestatic 116, 3) := by decide +kernel
theorem dX4_close_33 : decode cX4_close 33 = .ok (.ifCond .eq 7, 3) := by decide +kernel
theorem dX4_close_36 : decode cX4_close 36 = .ok (.iconst 0, 1) := by decide +kernel
theorem dX4_close_37 : decode cX4_close 37 = .ok (.goto 7, 3) := by decide +kernel
theorem dX4_close_40 : decode cX4_close 40 = .ok (.aload_n 0, 1) := by decide +kernel
theorem dX4_close_41 : decode cX4_close 41 = .ok (.invokevirtual 119, 3) := by decide +kernel
theorem dX4_close_44 : decode cX4_close 44 = .ok (.istore_n 3, 1) := by decide +kernel
theorem dX4_close_45 : decode cX4_close 45 = .ok (.aload_n 0, 1) := by decide +kernel
theorem dX4_close_46 : decode cX4_close 46 = .ok (.invokevirtual 119, 3) := by decide +kernel
theorem dX4_close_49 : decode cX4_close 49 = .ok (.istore 4, 2) := by decide +kernel
theorem dX4_close_51 : decode cX4_close 51 = .ok (.aload_n 0, 1) := by decide +kernel
theorem dX4_close_52 : decode cX4_close 52 = .ok (.aload_n 0, 1) := by decide +kernel
theorem dX4_close_53 : decode cX4_close 53 = .ok (.getfield 37, 3) := by decide +kernel
theorem dX4_close_56 : decode cX4_close 56 = .ok (.iload_n 1, 1) := by decide +kernel
theorem dX4_close_57 : decode cX4_close 57 = .ok (.iload_n 2, 1) := by decide +kernel
theorem dX4_close_58 : decode cX4_close 58 = .ok (.iload 4, 2) := by decide +kernel
theorem dX4_close_60 : decode cX4_close 60 = .ok (.iload_n 3, 1) := by decide +kernel
theorem dX4_close_61 : decode cX4_close 61 = .ok (.invokevirtual 109, 3) := by decide +kernel
theorem dX4_close_64 : decode cX4_close 64 = .ok (.invokevirtual 113, 3) := by decide +kernel
theorem dX4_close_67 : decode cX4_close 67 = .ok (.return_, 1) := by decide +kernel
theorem dX4_topOpen_0 : decode cX4_topOpen 0 = .ok (.aload_n 0, 1) := by decide +kernel
theorem dX4_topOpen_1 : decode cX4_topOpen 1 = .ok (.getfield 46, 3) := by decide +kernel
theorem dX4_topOpen_4 : decode cX4_topOpen 4 = .ok (.ifCond .le 19, 3) := by decide +kernel
theorem dX4_topOpen_7 : decode cX4_topOpen 7 = .ok (.aload_n 0, 1) := by decide +kernel
theorem dX4_topOpen_8 : decode cX4_topOpen 8 = .ok (.getfield 15, 3) := by decide +kernel
theorem dX4_topOpen_11 : decode cX4_topOpen 11 = .ok (.aload_n 0, 1) := by decide +kernel
theorem dX4_topOpen_12 : decode cX4_topOpen 12 = .ok (.getfield 46, 3) := by decide +kernel
theorem dX4_topOpen_15 : decode cX4_topOpen 15 = .ok (.iconst 1, 1) := by decide +kernel
theorem dX4_topOpen_16 : decode cX4_topOpen 16 = .ok (.isub, 1) := by decide +kernel
theorem dX4_topOpen_17 : decode cX4_topOpen 17 = .ok (.invokestatic 55, 3) := by decide +kernel
theorem dX4_topOpen_20 : decode cX4_topOpen 20 = .ok (.goto 4, 3) := by decide +kernel
theorem dX4_topOpen_23 : decode cX4_topOpen 23 = .ok (.iconst (-1), 1) := by decide +kernel
theorem dX4_topOpen_24 : decode cX4_topOpen 24 = .ok (.ireturn, 1) := by decide +kernel
theorem dX4_push_0 : decode cX4_push 0 = .ok (.aload_n 0, 1) := by decide +kernel
theorem dX4_push_1 : decode cX4_push 1 = .ok (.getfield 15, 3) := by decide +kernel
theorem dX4_push_4 : decode cX4_push 4 = .ok (.aload_n 0, 1) := by decide +kernel
theorem dX4_push_5 : decode cX4_push 5 = .ok (.getfield 46, 3) := by decide +kernel
theorem dX4_push_8 : decode cX4_push 8 = .ok (.iload_n 1, 1) := by decide +kernel
theorem dX4_push_9 : decode cX4_push 9 = .ok (.invokestatic 31, 3) := by decide +kernel
theorem dX4_push_12 : decode cX4_push 12 = .ok (.aload_n 0, 1) := by decide +kernel
theorem dX4_push_13 : decode cX4_push 13 = .ok (.getfield 18, 3) := by decide +kernel
theorem dX4_push_16 : decode cX4_push 16 = .ok (.aload_n 0, 1) := by decide +kernel
theorem dX4_push_17 : decode cX4_push 17 = .ok (.getfield 46, 3) := by decide +kernel
theorem dX4_push_20 : decode cX4_push 20 = .ok (.iload_n 2, 1) := by decide +kernel
theorem dX4_push_21 : decode cX4_push 21 = .ok (.invokestatic 31, 3) := by decide +kernel
theorem dX4_push_24 : decode cX4_push 24 = .ok (.aload_n 0, 1) := by decide +kernel
theorem dX4_push_25 : decode cX4_push 25 = .ok (.dup, 1) := by decide +kernel
theorem dX4_push_26 : decode cX4_push 26 = .ok (.getfield 46, 3) := by decide +kernel
theorem dX4_push_29 : decode cX4_push 29 = .ok (.iconst 1, 1) := by decide +kernel
theorem dX4_push_30 : decode cX4_push 30 = .ok (.iadd, 1) := by decide +kernel
theorem dX4_push_31 : decode cX4_push 31 = .ok (.putfield 46, 3) := by decide +kernel
theorem dX4_push_34 : decode cX4_push 34 = .ok (.aload_n 0, 1) := by decide +kernel
theorem dX4_push_35 : decode cX4_push 35 = .ok (.iconst 0, 1) := by decide +kernel
theorem dX4_push_36 : decode cX4_push 36 = .ok (.putfield 52, 3) := by decide +kernel
theorem dX4_push_39 : decode cX4_push 39 = .ok (.iconst 1, 1) := by decide +kernel
theorem dX4_push_40 : decode cX4_push 40 = .ok (.ireturn, 1) := by decide +kernel
theorem dX4_pushOperand_0 : decode cX4_pushOperand 0 = .ok (.aload_n 0, 1) := by decide +kernel
theorem dX4_pushOperand_1 : decode cX4_pushOperand 1 = .ok (.getfield 21, 3) := by decide +kernel
theorem dX4_pushOperand_4 : decode cX4_pushOperand 4 = .ok (.aload_n 0, 1) := by decide +kernel
theorem dX4_pushOperand_5 : decode cX4_pushOperand 5 = .ok (.getfield 49, 3) := by decide +kernel
theorem dX4_pushOperand_8 : decode cX4_pushOperand 8 = .ok (.iload_n 1, 1) := by decide +kernel
theorem dX4_pushOperand_9 : decode cX4_pushOperand 9 = .ok (.invokestatic 31, 3) := by decide +kernel
theorem dX4_pushOperand_12 : decode cX4_pushOperand 12 = .ok (.aload_n 0, 1) := by decide +kernel
theorem dX4_pushOperand_13 : decode cX4_pushOperand 13 = .ok (.dup, 1) := by decide +kernel
theorem dX4_pushOperand_14 : decode cX4_pushOperand 14 = .ok (.getfield 49, 3) := by decide +kernel
theorem dX4_pushOperand_17 : decode cX4_pushOperand 17 = .ok (.iconst 1, 1) := by decide +kernel
theorem dX4_pushOperand_18 : decode cX4_pushOperand 18 = .ok (.iadd, 1) := by decide +kernel
theorem dX4_pushOperand_19 : decode cX4_pushOperand 19 = .ok (.putfield 49, 3) := by decide +kernel
theorem dX4_pushOperand_22 : decode cX4_pushOperand 22 = .ok (.return_, 1) := by decide +kernel
theorem dX4_popOperand_0 : decode cX4_popOperand 0 = .ok (.aload_n 0, 1) := by decide +kernel
theorem dX4_popOperand_1 : decode cX4_popOperand 1 = .ok (.dup, 1) := by decide +kernel
theorem dX4_popOperand_2 : decode cX4_popOperand 2 = .ok (.getfield 49, 3) := by decide +kernel
theorem dX4_popOperand_5 : decode cX4_popOperand 5 = .ok (.iconst 1, 1) := by decide +kernel
theorem dX4_popOperand_6 : decode cX4_popOperand 6 = .ok (.isub, 1) := by decide +kernel
theorem dX4_popOperand_7 : decode cX4_popOperand 7 = .ok (.putfield 49, 3) := by decide +kernel
theorem dX4_popOperand_10 : decode cX4_popOperand 10 = .ok (.aload_n 0, 1) := by decide +kernel
theorem dX4_popOperand_11 : decode cX4_popOperand 11 = .ok (.getfield 21, 3) := by decide +kernel
theorem dX4_popOperand_14 : decode cX4_popOperand 14 = .ok (.aload_n 0, 1) := by decide +kernel
theorem dX4_popOperand_15 : decode cX4_popOperand 15 = .ok (.getfield 49, 3) := by decide +kernel
theorem dX4_popOperand_18 : decode cX4_popOperand 18 = .ok (.invokestatic 55, 3) := by decide +kernel
theorem dX4_popOperand_21 : decode cX4_popOperand 21 = .ok (.ireturn, 1) := by decide +kernel
theorem dX5_at_0 : decode cX5_at 0 = .ok (.aload_n 0, 1) := by decide +kernel
theorem dX5_at_1 : decode cX5_at 1 = .ok (.ifnull 19, 3) := by decide +kernel
theorem dX5_at_4 : decode cX5_at 4 = .ok (.iload_n 1, 1) := by decide +kernel
theorem dX5_at_5 : decode cX5_at 5 = .ok (.ifCond .lt 15, 3) := by decide +kernel
theorem dX5_at_8 : decode cX5_at 8 = .ok (.iload_n 1, 1) := by decide +kernel
theorem dX5_at_9 : decode cX5_at 9 = .ok (.aload_n 0, 1) := by decide +kernel
theorem dX5_at_10 : decode cX5_at 10 = .ok (.arraylength, 1) := by decide +kernel
theorem dX5_at_11 : decode cX5_at 11 = .ok (.if_icmp .ge 9, 3) := by decide +kernel
theorem dX5_at_14 : decode cX5_at 14 = .ok (.aload_n 0, 1) := by decide +kernel
theorem dX5_at_15 : decode cX5_at 15 = .ok (.iload_n 1, 1) := by decide +kernel
theorem dX5_at_16 : decode cX5_at 16 = .ok (.iaload, 1) := by decide +kernel
theorem dX5_at_17 : decode cX5_at 17 = .ok (.goto 4, 3) := by decide +kernel
theorem dX5_at_20 : decode cX5_at 20 = .ok (.iconst 0, 1) := by decide +kernel
theorem dX5_at_21 : decode cX5_at 21 = .ok (.ireturn, 1) := by decide +kernel
theorem dX5_put_0 : decode cX5_put 0 = .ok (.aload_n 0, 1) := by decide +kernel
theorem dX5_put_1 : decode cX5_put 1 = .ok (.ifnull 17, 3) := by decide +kernel
theorem dX5_put_4 : decode cX5_put 4 = .ok (.iload_n 1, 1) := by decide +kernel
theorem dX5_put_5 : decode cX5_put 5 = .ok (.ifCond .lt 13, 3) := by decide +kernel
theorem dX5_put_8 : decode cX5_put 8 = .ok (.iload_n 1, 1) := by decide +kernel
theorem dX5_put_9 : decode cX5_put 9 = .ok (.aload_n 0, 1) := by decide +kernel
theorem dX5_put_10 : decode cX5_put 10 = .ok (.arraylength, 1) := by decide +kernel
theorem dX5_put_11 : decode cX5_put 11 = .ok (.if_icmp .ge 7, 3) := by decide +kernel
theorem dX5_put_14 : decode cX5_put 14 = .ok (.aload_n 0, 1) := by decide +kernel
theorem dX5_put_15 : decode cX5_put 15 = .ok (.iload_n 1, 1) := by decide +kernel
theorem dX5_put_16 : decode cX5_put 16 = .ok (.iload_n 2, 1) := by decide +kernel
theorem dX5_put_17 : decode cX5_put 17 = .ok (.iastore, 1) := by decide +kernel
theorem dX5_put_18 : decode cX5_put 18 = .ok (.return_, 1) := by decide +kernel
theorem dX5_copy_0 : decode cX5_copy 0 = .ok (.aload_n 0, 1) := by decide +kernel
theorem dX5_copy_1 : decode cX5_copy 1 = .ok (.ifnull 23, 3) := by decide +kernel
theorem dX5_copy_4 : decode cX5_copy 4 = .ok (.aload_n 1, 1) := by decide +kernel
theorem dX5_copy_5 : decode cX5_copy 5 = .ok (.ifnull 19, 3) := by decide +kernel
theorem dX5_copy_8 : decode cX5_copy 8 = .ok (.aload_n 0, 1) := by decide +kernel
theorem dX5_copy_9 : decode cX5_copy 9 = .ok (.arraylength, 1) := by decide +kernel
theorem dX5_copy_10 : decode cX5_copy 10 = .ok (.aload_n 1, 1) := by decide +kernel
theorem dX5_copy_11 : decode cX5_copy 11 = .ok (.arraylength, 1) := by decide +kernel
theorem dX5_copy_12 : decode cX5_copy 12 = .ok (.if_icmp .ne 12, 3) := by decide +kernel
theorem dX5_copy_15 : decode cX5_copy 15 = .ok (.aload_n 0, 1) := by decide +kernel
theorem dX5_copy_16 : decode cX5_copy 16 = .ok (.iconst 0, 1) := by decide +kernel
theorem dX5_copy_17 : decode cX5_copy 17 = .ok (.aload_n 1, 1) := by decide +kernel
theorem dX5_copy_18 : decode cX5_copy 18 = .ok (.iconst 0, 1) := by decide +kernel
theorem dX5_copy_19 : decode cX5_copy 19 = .ok (.aload_n 0, 1) := by decide +kernel
theorem dX5_copy_20 : decode cX5_copy 20 = .ok (.arraylength, 1) := by decide +kernel
theorem dX5_copy_21 : decode cX5_copy 21 = .ok (.invokestatic 7, 3) := by decide +kernel
theorem dX5_copy_24 : decode cX5_copy 24 = .ok (.return_, 1) := by decide +kernel
theorem dX6_init_0 : decode cX6_init 0 = .ok (.aload_n 0, 1) := by decide +kernel
theorem dX6_init_1 : decode cX6_init 1 = .ok (.invokespecial 3, 3) := by decide +kernel
theorem dX6_init_4 : decode cX6_init 4 = .ok (.aload_n 0, 1) := by decide +kernel
theorem dX6_init_5 : decode cX6_init 5 = .ok (.sipush 1296, 3) := by decide +kernel
theorem dX6_init_8 : decode cX6_init 8 = .ok (.newarray .int, 2) := by decide +kernel
theorem dX6_init_10 : decode cX6_init 10 = .ok (.putfield 9, 3) := by decide +kernel
theorem dX6_init_13 : decode cX6_init 13 = .ok (.aload_n 0, 1) := by decide +kernel
theorem dX6_init_14 : decode cX6_init 14 = .ok (.bipush 12, 2) := by decide +kernel
theorem dX6_init_16 : decode cX6_init 16 = .ok (.newarray .int, 2) := by decide +kernel
theorem dX6_init_18 : decode cX6_init 18 = .ok (.putfield 15, 3) := by decide +kernel
theorem dX6_init_21 : decode cX6_init 21 = .ok (.aload_n 0, 1) := by decide +kernel
theorem dX6_init_22 : decode cX6_init 22 = .ok (.bipush 81, 2) := by decide +kernel
theorem dX6_init_24 : decode cX6_init 24 = .ok (.newarray .int, 2) := by decide +kernel
theorem dX6_init_26 : decode cX6_init 26 = .ok (.putfield 18, 3) := by decide +kernel
theorem dX6_init_29 : decode cX6_init 29 = .ok (.aload_n 0, 1) := by decide +kernel
theorem dX6_init_30 : decode cX6_init 30 = .ok (.aload_n 1, 1) := by decide +kernel
theorem dX6_init_31 : decode cX6_init 31 = .ok (.putfield 21, 3) := by decide +kernel
theorem dX6_init_34 : decode cX6_init 34 = .ok (.iconst 0, 1) := by decide +kernel
theorem dX6_init_35 : decode cX6_init 35 = .ok (.istore_n 2, 1) := by decide +kernel
theorem dX6_init_36 : decode cX6_init 36 = .ok (.iload_n 2, 1) := by decide +kernel
theorem dX6_init_37 : decode cX6_init 37 = .ok (.aload_n 0, 1) := by decide +kernel
theorem dX6_init_38 : decode cX6_init 38 = .ok (.getfield 15, 3) := by decide +kernel
theorem dX6_init_41 : decode cX6_init 41 = .ok (.arraylength, 1) := by decide +kernel
theorem dX6_init_42 : decode cX6_init 42 = .ok (.if_icmp .ge 16, 3) := by decide +kernel
theorem dX6_init_45 : decode cX6_init 45 = .ok (.aload_n 0, 1) := by decide +kernel
theorem dX6_init_46 : decode cX6_init 46 = .ok (.getfield 15, 3) := by decide +kernel
theorem dX6_init_49 : decode cX6_init 49 = .ok (.iload_n 2, 1) := by decide +kernel
theorem dX6_init_50 : decode cX6_init 50 = .ok (.iload_n 2, 1) := by decide +kernel
theorem dX6_init_51 : decode cX6_init 51 = .ok (.iastore, 1) := by decide +kernel
theorem dX6_init_52 : decode cX6_init 52 = .ok (.iinc 2 1, 3) := by decide +kernel
theorem dX6_init_55 : decode cX6_init 55 = .ok (.goto (-19), 3) := by decide +kernel
theorem dX6_init_58 : decode cX6_init 58 = .ok (.iconst 0, 1) := by decide +kernel
theorem dX6_init_59 : decode cX6_init 59 = .ok (.istore_n 2, 1) := by decide +kernel
theorem dX6_init_60 : decode cX6_init 60 = .ok (.iload_n 2, 1) := by decide +kernel
theorem dX6_init_61 : decode cX6_init 61 = .ok (.aload_n 0, 1) := by decide +kernel
theorem dX6_init_62 : decode cX6_init 62 = .ok (.getfield 9, 3) := by decide +kernel
theorem dX6_init_65 : decode cX6_init 65 = .ok (.arraylength, 1) := by decide +kernel
theorem dX6_init_66 : decode cX6_init 66 = .ok (.if_icmp .ge 26, 3) := by decide +kernel
theorem dX6_init_69 : decode cX6_init 69 = .ok (.aload_n 0, 1) := by decide +kernel
theorem dX6_init_70 : decode cX6_init 70 = .ok (.getfield 9, 3) := by decide +kernel
theorem dX6_init_73 : decode cX6_init 73 = .ok (.iload_n 2, 1) := by decide +kernel
theorem dX6_init_74 : decode cX6_init 74 = .ok (.iload_n 2, 1) := by decide +kernel
theorem dX6_init_75 : decode cX6_init 75 = .ok (.bipush 81, 2) := by decide +kernel
theorem dX6_init_77 : decode cX6_init 77 = .ok (.idiv, 1) := by decide +kernel
theorem dX6_init_78 : decode cX6_init 78 = .ok (.iload_n 2, 1) := by decide +kernel
theorem dX6_init_79 : decode cX6_init 79 = .ok (.bipush 81, 2) := by decide +kernel
theorem dX6_init_81 : decode cX6_init 81 = .ok (.irem, 1) := by decide +kernel
theorem dX6_init_82 : decode cX6_init 82 = .ok (.invokestatic 25, 3) := by decide +kernel
theorem dX6_init_85 : decode cX6_init 85 = .ok (.iastore, 1) := by decide +kernel
theorem dX6_init_86 : decode cX6_init 86 = .ok (.iinc 2 1, 3) := by decide +kernel
theorem dX6_init_89 : decode cX6_init 89 = .ok (.goto (-29), 3) := by decide +kernel
theorem dX6_init_92 : decode cX6_init 92 = .ok (.return_, 1) := by decide +kernel
theorem dX6_spread_0 : decode cX6_spread 0 = .ok (.iconst 0, 1) := by decide +kernel
theorem dX6_spread_1 : decode cX6_spread 1 = .ok (.istore 5, 2) := by decide +kernel
theorem dX6_spread_3 : decode cX6_spread 3 = .ok (.iload 5, 2) := by decide +kernel
theorem dX6_spread_5 : decode cX6_spread 5 = .ok (.bipush 81, 2) := by decide +kernel
theorem dX6_spread_7 : decode cX6_spread 7 = .ok (.if_icmp .ge 17, 3) := by decide +kernel
theorem dX6_spread_10 : decode cX6_spread 10 = .ok (.aload 4, 2) := by decide +kernel
theorem dX6_spread_12 : decode cX6_spread 12 = .ok (.iload 5, 2) := by decide +kernel
theorem dX6_spread_14 : decode cX6_spread 14 = .ok (.iconst 0, 1) := by decide +kernel
theorem dX6_spread_15 : decode cX6_spread 15 = .ok (.invokestatic 29, 3) := by decide +kernel
theorem dX6_spread_18 : decode cX6_spread 18 = .ok (.iinc 5 1, 3) := by decide +kernel
theorem dX6_spread_21 : decode cX6_spread 21 = .ok (.goto (-18), 3) := by decide +kernel
theorem dX6_spread_24 : decode cX6_spread 24 = .ok (.iconst 0, 1) := by decide +kernel
theorem dX6_spread_25 : decode cX6_spread 25 = .ok (.istore 5, 2) := by decide +kernel
theorem dX6_spread_27 : decode cX6_spread 27 = .ok (.iload 5, 2) := by decide +kernel
theorem dX6_spread_29 : decode cX6_spread 29 = .ok (.aload_n 0, 1) := by decide +kernel
theorem dX6_spread_30 : decode cX6_spread 30 = .ok (.getfield 21, 3) := by decide +kernel
theorem dX6_spread_33 : decode cX6_spread 33 = .ok (.getfield 35, 3) := by decide +kernel
theorem dX6_spread_36 : decode cX6_spread 36 = .ok (.if_icmp .ge 73, 3) := by decide +kernel
theorem dX6_spread_39 : decode cX6_spread 39 = .ok (.aload_n 0, 1) := by decide +kernel
theorem dX6_spread_40 : decode cX6_spread 40 = .ok (.getfield 21, 3) := by decide +kernel
theorem dX6_spread_43 : decode cX6_spread 43 = .ok (.getfield 41, 3) := by decide +kernel
theorem dX6_spread_46 : decode cX6_spread 46 = .ok (.iload_n 2, 1) := by decide +kernel
theorem dX6_spread_47 : decode cX6_spread 47 = .ok (.bipush 81, 2) := by decide +kernel
theorem dX6_spread_49 : decode cX6_spread 49 = .ok (.imul, 1) := by decide +kernel
theorem dX6_spread_50 : decode cX6_spread 50 = .ok (.iload 5, 2) := by decide +kernel
theorem dX6_spread_52 : decode cX6_spread 52 = .ok (.iadd, 1) := by decide +kernel
theorem dX6_spread_53 : decode cX6_spread 53 = .ok (.invokestatic 44, 3) := by decide +kernel
theorem dX6_spread_56 : decode cX6_spread 56 = .ok (.istore 6, 2) := by decide +kernel
theorem dX6_spread_58 : decode cX6_spread 58 = .ok (.iload 6, 2) := by decide +kernel
theorem dX6_spread_60 : decode cX6_spread 60 = .ok (.iconst (-1), 1) := by decide +kernel
theorem dX6_spread_61 : decode cX6_spread 61 = .ok (.if_icmp .eq 42, 3) := by decide +kernel
theorem dX6_spread_64 : decode cX6_spread 64 = .ok (.aload_n 0, 1) := by decide +kernel
theorem dX6_spread_65 : decode cX6_spread 65 = .ok (.getfield 9, 3) := by decide +kernel
theorem dX6_spread_68 : decode cX6_spread 68 = .ok (.iload_n 1, 1) := by decide +kernel
theorem dX6_spread_69 : decode cX6_spread 69 = .ok (.bipush 81, 2) := by decide +kernel
theorem dX6_spread_71 : decode cX6_spread 71 = .ok (.imul, 1) := by decide +kernel
theorem dX6_spread_72 : decode cX6_spread 72 = .ok (.iload 5, 2) := by decide +kernel
theorem dX6_spread_74 : decode cX6_spread 74 = .ok (.iadd, 1) := by decide +kernel
theorem dX6_spread_75 : decode cX6_spread 75 = .ok (.invokestatic 44, 3) := by decide +kernel
theorem dX6_spread_78 : decode cX6_spread 78 = .ok (.istore 7, 2) := by decide +kernel
theorem dX6_spread_80 : decode cX6_spread 80 = .ok (.aload 4, 2) := by decide +kernel
theorem dX6_spread_82 : decode cX6_spread 82 = .ok (.iload 7, 2) := by decide +kernel
theorem dX6_spread_84 : decode cX6_spread 84 = .ok (.aload 4, 2) := by decide +kernel
theorem dX6_spread_86 : decode cX6_spread 86 = .ok (.iload 7, 2) := by decide +kernel
theorem dX6_spread_88 : decode cX6_spread 88 = .ok (.invokestatic 44, 3) := by decide +kernel
theorem dX6_spread_91 : decode cX6_spread 91 = .ok (.iconst 1, 1) := by decide +kernel
theorem dX6_spread_92 : decode cX6_spread 92 = .ok (.aload_n 3, 1) := by decide +kernel
theorem dX6_spread_93 : decode cX6_spread 93 = .ok (.iload 6, 2) := by decide +kernel
theorem dX6_spread_95 : decode cX6_spread 95 = .ok (.invokestatic 44, 3) := by decide +kernel
theorem dX6_spread_98 : decode cX6_spread 98 = .ok (.ishl, 1) := by decide +kernel
theorem dX6_spread_99 : decode cX6_spread 99 = .ok (.ior, 1) := by decide +kernel
theorem dX6_spread_100 : decode cX6_spread 100 = .ok (.invokestatic 29, 3) := by decide +kernel
theorem dX6_spread_103 : decode cX6_spread 103 = .ok (.iinc 5 1, 3) := by decide +kernel
theorem dX6_spread_106 : decode cX6_spread 106 = .ok (.goto (-79), 3) := by decide +kernel
theorem dX6_spread_109 : decode cX6_spread 109 = .ok (.return_, 1) := by decide +kernel
theorem dX6_isForced_0 : decode cX6_isForced 0 = .ok (.iload_n 0, 1) := by decide +kernel
theorem dX6_isForced_1 : decode cX6_isForced 1 = .ok (.ifCond .eq 15, 3) := by decide +kernel
theorem dX6_isForced_4 : decode cX6_isForced 4 = .ok (.iload_n 0, 1) := by decide +kernel
theorem dX6_isForced_5 : decode cX6_isForced 5 = .ok (.iload_n 1, 1) := by decide +kernel
theorem dX6_isForced_6 : decode cX6_isForced 6 = .ok (.iconst (-1), 1) := by decide +kernel
theorem dX6_isForced_7 : decode cX6_isForced 7 = .ok (.ixor, 1) := by decide +kernel
theorem dX6_isForced_8 : decode cX6_isForced 8 = .ok (.iand, 1) := by decide +kernel
theorem dX6_isForced_9 : decode cX6_isForced 9 = .ok (.ifCond .ne 7, 3) := by decide +kernel
theorem dX6_isForced_12 : decode cX6_isForced 12 = .ok (.iconst 1, 1) := by decide +kernel
theorem dX6_isForced_13 : decode cX6_isForced 13 = .ok (.goto 4, 3) := by decide +kernel
theorem dX6_isForced_16 : decode cX6_isForced 16 = .ok (.iconst 0, 1) := by decide +kernel
theorem dX6_isForced_17 : decode cX6_isForced 17 = .ok (.ireturn, 1) := by decide +kernel
theorem dX6_leastForcing_0 : decode cX6_leastForcing 0 = .ok (.aload_n 0, 1) := by decide +kernel
theorem dX6_leastForcing_1 : decode cX6_leastForcing 1 = .ok (.iload_n 1, 1) := by decide +kernel
theorem dX6_leastForcing_2 : decode cX6_leastForcing 2 = .ok (.iload_n 2, 1) := by decide +kernel
theorem dX6_leastForcing_3 : decode cX6_leastForcing 3 = .ok (.aload_n 0, 1) := by decide +kernel
theorem dX6_leastForcing_4 : decode cX6_leastForcing 4 = .ok (.getfield 15, 3) := by decide +kernel
theorem dX6_leastForcing_7 : decode cX6_leastForcing 7 = .ok (.aload_n 0, 1) := by decide +kernel
theorem dX6_leastForcing_8 : decode cX6_leastForcing 8 = .ok (.getfield 18, 3) := by decide +kernel
theorem dX6_leastForcing_11 : decode cX6_leastForcing 11 = .ok (.invokevirtual 48, 3) := by decide +kernel
theorem dX6_leastForcing_14 : decode cX6_leastForcing 14 = .ok (.aload_n 0, 1) := by decide +kernel
theorem dX6_leastForcing_15 : decode cX6_leastForcing 15 = .ok (.iload_n 3, 1) := by decide +kernel
theorem dX6_leastForcing_16 : decode cX6_leastForcing 16 = .ok (.invokevirtual 52, 3) := by decide +kernel
theorem dX6_leastForcing_19 : decode cX6_leastForcing 19 = .ok (.ireturn, 1) := by decide +kernel
theorem dX6_isJointAction_0 : decode cX6_isJointAction 0 = .ok (.aload_n 0, 1) := by decide +kernel
theorem dX6_isJointAction_1 : decode cX6_isJointAction 1 = .ok (.iload_n 1, 1) := by decide +kernel
theorem dX6_isJointAction_2 : decode cX6_isJointAction 2 = .ok (.iload_n 2, 1) := by decide +kernel
theorem dX6_isJointAction_3 : decode cX6_isJointAction 3 = .ok (.aload_n 0, 1) := by decide +kernel
theorem dX6_isJointAction_4 : decode cX6_isJointAction 4 = .ok (.getfield 15, 3) := by decide +kernel
theorem dX6_isJointAction_7 : decode cX6_isJointAction 7 = .ok (.aload_n 0, 1) := by decide +kernel
theorem dX6_isJointAction_8 : decode cX6_isJointAction 8 = .ok (.getfield 18, 3) := by decide +kernel
theorem dX6_isJointAction_11 : decode cX6_isJointAction 11 = .ok (.invokevirtual 48, 3) := by decide +kernel
theorem dX6_isJointAction_14 : decode cX6_isJointAction 14 = .ok (.aload_n 0, 1) := by decide +kernel
theorem dX6_isJointAction_15 : decode cX6_isJointAction 15 = .ok (.getfield 18, 3) := by decide +kernel
theorem dX6_isJointAction_18 : decode cX6_isJointAction 18 = .ok (.iload_n 3, 1) := by decide +kernel
theorem dX6_isJointAction_19 : decode cX6_isJointAction 19 = .ok (.invokestatic 44, 3) := by decide +kernel
theorem dX6_isJointAction_22 : decode cX6_isJointAction 22 = .ok (.ifCond .eq 7, 3) := by decide +kernel
theorem dX6_isJointAction_25 : decode cX6_isJointAction 25 = .ok (.iconst 1, 1) := by decide +kernel
theorem dX6_isJointAction_26 : decode cX6_isJointAction 26 = .ok (.goto 4, 3) := by decide +kernel
theorem dX6_isJointAction_29 : decode cX6_isJointAction 29 = .ok (.iconst 0, 1) := by decide +kernel
theorem dX6_isJointAction_30 : decode cX6_isJointAction 30 = .ok (.ireturn, 1) := by decide +kernel
theorem dX6_leastLeaving_0 : decode cX6_leastLeaving 0 = .ok (.iconst 0, 1) := by decide +kernel
theorem dX6_leastLeaving_1 : decode cX6_leastLeaving 1 = .ok (.istore 5, 2) := by decide +kernel
theorem dX6_leastLeaving_3 : decode cX6_leastLeaving 3 = .ok (.iload 5, 2) := by decide +kernel
theorem dX6_leastLeaving_5 : decode cX6_leastLeaving 5 = .ok (.aload_n 0, 1) := by decide +kernel
theorem dX6_leastLeaving_6 : decode cX6_leastLeaving 6 = .ok (.getfield 21, 3) := by decide +kernel
theorem dX6_leastLeaving_9 : decode cX6_leastLeaving 9 = .ok (.getfield 35, 3) := by decide +kernel
theorem dX6_leastLeaving_12 : decode cX6_leastLeaving 12 = .ok (.if_icmp .ge 51, 3) := by decide +kernel
theorem dX6_leastLeaving_15 : decode cX6_leastLeaving 15 = .ok (.aload_n 0, 1) := by decide +kernel
theorem dX6_leastLeaving_16 : decode cX6_leastLeaving 16 = .ok (.getfield 21, 3) := by decide +kernel
theorem dX6_leastLeaving_19 : decode cX6_leastLeaving 19 = .ok (.iload_n 2, 1) := by decide +kernel
theorem dX6_leastLeaving_20 : decode cX6_leastLeaving 20 = .ok (.iload 5, 2) := by decide +kernel
theorem dX6_leastLeaving_22 : decode cX6_leastLeaving 22 = .ok (.invokevirtual 56, 3) := by decide +kernel
theorem dX6_leastLeaving_25 : decode cX6_leastLeaving 25 = .ok (.istore 6, 2) := by decide +kernel
theorem dX6_leastLeaving_27 : decode cX6_leastLeaving 27 = .ok (.iload 6, 2) := by decide +kernel
theorem dX6_leastLeaving_29 : decode cX6_leastLeaving 29 = .ok (.iconst (-1), 1) := by decide +kernel
theorem dX6_leastLeaving_30 : decode cX6_leastLeaving 30 = .ok (.if_icmp .eq 27, 3) := by decide +kernel
theorem dX6_leastLeaving_33 : decode cX6_leastLeaving 33 = .ok (.aload_n 0, 1) := by decide +kernel
theorem dX6_leastLeaving_34 : decode cX6_leastLeaving 34 = .ok (.iload_n 1, 1) := by decide +kernel
theorem dX6_leastLeaving_35 : decode cX6_leastLeaving 35 = .ok (.iload 5, 2) := by decide +kernel
theorem dX6_leastLeaving_37 : decode cX6_leastLeaving 37 = .ok (.invokevirtual 59, 3) := by decide +kernel
theorem dX6_leastLeaving_40 : decode cX6_leastLeaving 40 = .ok (.iload_n 3, 1) := by decide +kernel
theorem dX6_leastLeaving_41 : decode cX6_leastLeaving 41 = .ok (.if_icmp .ne 16, 3) := by decide +kernel
theorem dX6_leastLeaving_44 : decode cX6_leastLeaving 44 = .ok (.iload 4, 2) := by decide +kernel
theorem dX6_leastLeaving_46 : decode cX6_leastLeaving 46 = .ok (.iload 6, 2) := by decide +kernel
theorem dX6_leastLeaving_48 : decode cX6_leastLeaving 48 = .ok (.ishr, 1) := by decide +kernel
theorem dX6_leastLeaving_49 : decode cX6_leastLeaving 49 = .ok (.iconst 1, 1) := by decide +kernel
theorem dX6_leastLeaving_50 : decode cX6_leastLeaving 50 = .ok (.iand, 1) := by decide +kernel
theorem dX6_leastLeaving_51 : decode cX6_leastLeaving 51 = .ok (.ifCond .ne 6, 3) := by decide +kernel
theorem dX6_leastLeaving_54 : decode cX6_leastLeaving 54 = .ok (.iload 5, 2) := by decide +kernel
theorem dX6_leastLeaving_56 : decode cX6_leastLeaving 56 = .ok (.ireturn, 1) := by decide +kernel
theorem dX6_leastLeaving_57 : decode cX6_leastLeaving 57 = .ok (.iinc 5 1, 3) := by decide +kernel
theorem dX6_leastLeaving_60 : decode cX6_leastLeaving 60 = .ok (.goto (-57), 3) := by decide +kernel
theorem dX6_leastLeaving_63 : decode cX6_leastLeaving 63 = .ok (.bipush (-9), 2) := by decide +kernel
theorem dX6_leastLeaving_65 : decode cX6_leastLeaving 65 = .ok (.ireturn, 1) := by decide +kernel
theorem dX6_countForced_0 : decode cX6_countForced 0 = .ok (.aload_n 0, 1) := by decide +kernel
theorem dX6_countForced_1 : decode cX6_countForced 1 = .ok (.iload_n 1, 1) := by decide +kernel
theorem dX6_countForced_2 : decode cX6_countForced 2 = .ok (.iload_n 2, 1) := by decide +kernel
theorem dX6_countForced_3 : decode cX6_countForced 3 = .ok (.aload_n 0, 1) := by decide +kernel
theorem dX6_countForced_4 : decode cX6_countForced 4 = .ok (.getfield 15, 3) := by decide +kernel
theorem dX6_countForced_7 : decode cX6_countForced 7 = .ok (.aload_n 0, 1) := by decide +kernel
theorem dX6_countForced_8 : decode cX6_countForced 8 = .ok (.getfield 18, 3) := by decide +kernel
theorem dX6_countForced_11 : decode cX6_countForced 11 = .ok (.invokevirtual 48, 3) := by decide +kernel
theorem dX6_countForced_14 : decode cX6_countForced 14 = .ok (.iconst 0, 1) := by decide +kernel
theorem dX6_countForced_15 : decode cX6_countForced 15 = .ok (.istore_n 3, 1) := by decide +kernel
theorem dX6_countForced_16 : decode cX6_countForced 16 = .ok (.iconst 0, 1) := by decide +kernel
theorem dX6_countForced_17 : decode cX6_countForced 17 = .ok (.istore 4, 2) := by decide +kernel
theorem dX6_countForced_19 : decode cX6_countForced 19 = .ok (.iload 4, 2) := by decide +kernel
theorem dX6_countForced_21 : decode cX6_countForced 21 = .ok (.aload_n 0, 1) := by decide +kernel
theorem dX6_countForced_22 : decode cX6_countForced 22 = .ok (.getfield 21, 3) := by decide +kernel
theorem dX6_countForced_25 : decode cX6_countForced 25 = .ok (.invokevirtual 62, 3) := by decide +kernel
theorem dX6_countForced_28 : decode cX6_countForced 28 = .ok (.if_icmp .gt 23, 3) := by decide +kernel
theorem dX6_countForced_31 : decode cX6_countForced 31 = .ok (.aload_n 0, 1) := by decide +kernel
theorem dX6_countForced_32 : decode cX6_countForced 32 = .ok (.iload 4, 2) := by decide +kernel
theorem dX6_countForced_34 : decode cX6_countForced 34 = .ok (.invokevirtual 52, 3) := by decide +kernel
theorem dX6_countForced_37 : decode cX6_countForced 37 = .ok (.bipush (-9), 2) := by decide +kernel
theorem dX6_countForced_39 : decode cX6_countForced 39 = .ok (.if_icmp .eq 6, 3) := by decide +kernel
theorem dX6_countForced_42 : decode cX6_countForced 42 = .ok (.iinc 3 1, 3) := by decide +kernel
theorem dX6_countForced_45 : decode cX6_countForced 45 = .ok (.iinc 4 1, 3) := by decide +kernel
theorem dX6_countForced_48 : decode cX6_countForced 48 = .ok (.goto (-29), 3) := by decide +kernel
theorem dX6_countForced_51 : decode cX6_countForced 51 = .ok (.iload_n 3, 1) := by decide +kernel
theorem dX6_countForced_52 : decode cX6_countForced 52 = .ok (.ireturn, 1) := by decide +kernel
theorem dX6_forcing_0 : decode cX6_forcing 0 = .ok (.iconst 0, 1) := by decide +kernel
theorem dX6_forcing_1 : decode cX6_forcing 1 = .ok (.istore 4, 2) := by decide +kernel
theorem dX6_forcing_3 : decode cX6_forcing 3 = .ok (.iconst 0, 1) := by decide +kernel
theorem dX6_forcing_4 : decode cX6_forcing 4 = .ok (.istore 5, 2) := by decide +kernel
theorem dX6_forcing_6 : decode cX6_forcing 6 = .ok (.iload 5, 2) := by decide +kernel
theorem dX6_forcing_8 : decode cX6_forcing 8 = .ok (.aload_n 0, 1) := by decide +kernel
theorem dX6_forcing_9 : decode cX6_forcing 9 = .ok (.getfield 21, 3) := by decide +kernel
theorem dX6_forcing_12 : decode cX6_forcing 12 = .ok (.getfield 66, 3) := by decide +kernel
theorem dX6_forcing_15 : decode cX6_forcing 15 = .ok (.if_icmp .ge 82, 3) := by decide +kernel
theorem dX6_forcing_18 : decode cX6_forcing 18 = .ok (.aload_n 0, 1) := by decide +kernel
theorem dX6_forcing_19 : decode cX6_forcing 19 = .ok (.iload_n 1, 1) := by decide +kernel
theorem dX6_forcing_20 : decode cX6_forcing 20 = .ok (.iload 5, 2) := by decide +kernel
theorem dX6_forcing_22 : decode cX6_forcing 22 = .ok (.aload_n 0, 1) := by decide +kernel
theorem dX6_forcing_23 : decode cX6_forcing 23 = .ok (.getfield 15, 3) := by decide +kernel
theorem dX6_forcing_26 : decode cX6_forcing 26 = .ok (.aload_n 0, 1) := by decide +kernel
theorem dX6_forcing_27 : decode cX6_forcing 27 = .ok (.getfield 18, 3) := by decide +kernel
theorem dX6_forcing_30 : decode cX6_forcing 30 = .ok (.invokevirtual 48, 3) := by decide +kernel
theorem dX6_forcing_33 : decode cX6_forcing 33 = .ok (.iload_n 3, 1) := by decide +kernel
theorem dX6_forcing_34 : decode cX6_forcing 34 = .ok (.ifCond .eq 26, 3) := by decide +kernel
theorem dX6_forcing_37 : decode cX6_forcing 37 = .ok (.aload_n 0, 1) := by decide +kernel
theorem dX6_forcing_38 : decode cX6_forcing 38 = .ok (.getfield 18, 3) := by decide +kernel
theorem dX6_forcing_41 : decode cX6_forcing 41 = .ok (.aload_n 0, 1) := by decide +kernel
theorem dX6_forcing_42 : decode cX6_forcing 42 = .ok (.iload_n 1, 1) := by decide +kernel
theorem dX6_forcing_43 : decode cX6_forcing 43 = .ok (.iload 5, 2) := by decide +kernel
theorem dX6_forcing_45 : decode cX6_forcing 45 = .ok (.invokevirtual 69, 3) := by decide +kernel
theorem dX6_forcing_48 : decode cX6_forcing 48 = .ok (.invokestatic 44, 3) := by decide +kernel
theorem dX6_forcing_51 : decode cX6_forcing 51 = .ok (.iload_n 2, 1) := by decide +kernel
theorem dX6_forcing_52 : decode cX6_forcing 52 = .ok (.invokestatic 72, 3) := by decide +kernel
theorem dX6_forcing_55 : decode cX6_forcing 55 = .ok (.istore 6, 2) := by decide +kernel
theorem dX6_forcing_57 : decode cX6_forcing 57 = .ok (.goto 20, 3) := by decide +kernel
theorem dX6_forcing_60 : decode cX6_forcing 60 = .ok (.aload_n 0, 1) := by decide +kernel
theorem dX6_forcing_61 : decode cX6_forcing 61 = .ok (.iload_n 2, 1) := by decide +kernel
theorem dX6_forcing_62 : decode cX6_forcing 62 = .ok (.invokevirtual 52, 3) := by decide +kernel
theorem dX6_forcing_65 : decode cX6_forcing 65 = .ok (.bipush (-9), 2) := by decide +kernel
theorem dX6_forcing_67 : decode cX6_forcing 67 = .ok (.if_icmp .eq 7, 3) := by decide +kernel
theorem dX6_forcing_70 : decode cX6_forcing 70 = .ok (.iconst 1, 1) := by decide +kernel
theorem dX6_forcing_71 : decode cX6_forcing 71 = .ok (.goto 4, 3) := by decide +kernel
theorem dX6_forcing_74 : decode cX6_forcing 74 = .ok (.iconst 0, 1) := by decide +kernel
theorem dX6_forcing_75 : decode cX6_forcing 75 = .ok (.istore 6, 2) := by decide +kernel
theorem dX6_forcing_77 : decode cX6_forcing 77 = .ok (.iload 6, 2) := by decide +kernel
theorem dX6_forcing_79 : decode cX6_forcing 79 = .ok (.ifCond .eq 12, 3) := by decide +kernel
theorem dX6_forcing_82 : decode cX6_forcing 82 = .ok (.iload 4, 2) := by decide +kernel
theorem dX6_forcing_84 : decode cX6_forcing 84 = .ok (.iconst 1, 1) := by decide +kernel
theorem dX6_forcing_85 : decode cX6_forcing 85 = .ok (.iload 5, 2) := by decide +kernel
theorem dX6_forcing_87 : decode cX6_forcing 87 = .ok (.ishl, 1) := by decide +kernel
theorem dX6_forcing_88 : decode cX6_forcing 88 = .ok (.ior, 1) := by decide +kernel
theorem dX6_forcing_89 : decode cX6_forcing 89 = .ok (.istore 4, 2) := by decide +kernel
theorem dX6_forcing_91 : decode cX6_forcing 91 = .ok (.iinc 5 1, 3) := by decide +kernel
theorem dX6_forcing_94 : decode cX6_forcing 94 = .ok (.goto (-88), 3) := by decide +kernel
