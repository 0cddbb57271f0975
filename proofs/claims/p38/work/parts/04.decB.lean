theorem dX6_forcing_97 : decode cX6_forcing 97 = .ok (.iload 4, 2) := by decide +kernel
theorem dX6_forcing_99 : decode cX6_forcing 99 = .ok (.ireturn, 1) := by decide +kernel
theorem dX6_chosenJoint_0 : decode cX6_chosenJoint 0 = .ok (.iconst 0, 1) := by decide +kernel
theorem dX6_chosenJoint_1 : decode cX6_chosenJoint 1 = .ok (.istore_n 3, 1) := by decide +kernel
theorem dX6_chosenJoint_2 : decode cX6_chosenJoint 2 = .ok (.iconst 1, 1) := by decide +kernel
theorem dX6_chosenJoint_3 : decode cX6_chosenJoint 3 = .ok (.istore 4, 2) := by decide +kernel
theorem dX6_chosenJoint_5 : decode cX6_chosenJoint 5 = .ok (.iconst 0, 1) := by decide +kernel
theorem dX6_chosenJoint_6 : decode cX6_chosenJoint 6 = .ok (.istore 5, 2) := by decide +kernel
theorem dX6_chosenJoint_8 : decode cX6_chosenJoint 8 = .ok (.iload 5, 2) := by decide +kernel
theorem dX6_chosenJoint_10 : decode cX6_chosenJoint 10 = .ok (.aload_n 0, 1) := by decide +kernel
theorem dX6_chosenJoint_11 : decode cX6_chosenJoint 11 = .ok (.getfield 21, 3) := by decide +kernel
theorem dX6_chosenJoint_14 : decode cX6_chosenJoint 14 = .ok (.getfield 76, 3) := by decide +kernel
theorem dX6_chosenJoint_17 : decode cX6_chosenJoint 17 = .ok (.if_icmp .ge 83, 3) := by decide +kernel
theorem dX6_chosenJoint_20 : decode cX6_chosenJoint 20 = .ok (.iload_n 2, 1) := by decide +kernel
theorem dX6_chosenJoint_21 : decode cX6_chosenJoint 21 = .ok (.iconst 4, 1) := by decide +kernel
theorem dX6_chosenJoint_22 : decode cX6_chosenJoint 22 = .ok (.imul, 1) := by decide +kernel
theorem dX6_chosenJoint_23 : decode cX6_chosenJoint 23 = .ok (.iload 5, 2) := by decide +kernel
theorem dX6_chosenJoint_25 : decode cX6_chosenJoint 25 = .ok (.iadd, 1) := by decide +kernel
theorem dX6_chosenJoint_26 : decode cX6_chosenJoint 26 = .ok (.istore 6, 2) := by decide +kernel
theorem dX6_chosenJoint_28 : decode cX6_chosenJoint 28 = .ok (.aload_n 0, 1) := by decide +kernel
theorem dX6_chosenJoint_29 : decode cX6_chosenJoint 29 = .ok (.getfield 21, 3) := by decide +kernel
theorem dX6_chosenJoint_32 : decode cX6_chosenJoint 32 = .ok (.getfield 79, 3) := by decide +kernel
theorem dX6_chosenJoint_35 : decode cX6_chosenJoint 35 = .ok (.iload 6, 2) := by decide +kernel
theorem dX6_chosenJoint_37 : decode cX6_chosenJoint 37 = .ok (.invokestatic 44, 3) := by decide +kernel
theorem dX6_chosenJoint_40 : decode cX6_chosenJoint 40 = .ok (.istore 7, 2) := by decide +kernel
theorem dX6_chosenJoint_42 : decode cX6_chosenJoint 42 = .ok (.iload 7, 2) := by decide +kernel
theorem dX6_chosenJoint_44 : decode cX6_chosenJoint 44 = .ok (.aload_n 0, 1) := by decide +kernel
theorem dX6_chosenJoint_45 : decode cX6_chosenJoint 45 = .ok (.getfield 21, 3) := by decide +kernel
theorem dX6_chosenJoint_48 : decode cX6_chosenJoint 48 = .ok (.getfield 82, 3) := by decide +kernel
theorem dX6_chosenJoint_51 : decode cX6_chosenJoint 51 = .ok (.iload 6, 2) := by decide +kernel
theorem dX6_chosenJoint_53 : decode cX6_chosenJoint 53 = .ok (.invokestatic 44, 3) := by decide +kernel
theorem dX6_chosenJoint_56 : decode cX6_chosenJoint 56 = .ok (.if_icmp .ge 7, 3) := by decide +kernel
theorem dX6_chosenJoint_59 : decode cX6_chosenJoint 59 = .ok (.iconst 1, 1) := by decide +kernel
theorem dX6_chosenJoint_60 : decode cX6_chosenJoint 60 = .ok (.goto 4, 3) := by decide +kernel
theorem dX6_chosenJoint_63 : decode cX6_chosenJoint 63 = .ok (.iconst 0, 1) := by decide +kernel
theorem dX6_chosenJoint_64 : decode cX6_chosenJoint 64 = .ok (.istore 8, 2) := by decide +kernel
theorem dX6_chosenJoint_66 : decode cX6_chosenJoint 66 = .ok (.iload 8, 2) := by decide +kernel
theorem dX6_chosenJoint_68 : decode cX6_chosenJoint 68 = .ok (.ifCond .eq 20, 3) := by decide +kernel
theorem dX6_chosenJoint_71 : decode cX6_chosenJoint 71 = .ok (.iload_n 1, 1) := by decide +kernel
theorem dX6_chosenJoint_72 : decode cX6_chosenJoint 72 = .ok (.iload 5, 2) := by decide +kernel
theorem dX6_chosenJoint_74 : decode cX6_chosenJoint 74 = .ok (.ishr, 1) := by decide +kernel
theorem dX6_chosenJoint_75 : decode cX6_chosenJoint 75 = .ok (.iconst 1, 1) := by decide +kernel
theorem dX6_chosenJoint_76 : decode cX6_chosenJoint 76 = .ok (.iand, 1) := by decide +kernel
theorem dX6_chosenJoint_77 : decode cX6_chosenJoint 77 = .ok (.ifCond .eq 11, 3) := by decide +kernel
theorem dX6_chosenJoint_80 : decode cX6_chosenJoint 80 = .ok (.iload_n 3, 1) := by decide +kernel
theorem dX6_chosenJoint_81 : decode cX6_chosenJoint 81 = .ok (.iload 7, 2) := by decide +kernel
theorem dX6_chosenJoint_83 : decode cX6_chosenJoint 83 = .ok (.iload 4, 2) := by decide +kernel
theorem dX6_chosenJoint_85 : decode cX6_chosenJoint 85 = .ok (.imul, 1) := by decide +kernel
theorem dX6_chosenJoint_86 : decode cX6_chosenJoint 86 = .ok (.iadd, 1) := by decide +kernel
theorem dX6_chosenJoint_87 : decode cX6_chosenJoint 87 = .ok (.istore_n 3, 1) := by decide +kernel
theorem dX6_chosenJoint_88 : decode cX6_chosenJoint 88 = .ok (.iload 4, 2) := by decide +kernel
theorem dX6_chosenJoint_90 : decode cX6_chosenJoint 90 = .ok (.iconst 3, 1) := by decide +kernel
theorem dX6_chosenJoint_91 : decode cX6_chosenJoint 91 = .ok (.imul, 1) := by decide +kernel
theorem dX6_chosenJoint_92 : decode cX6_chosenJoint 92 = .ok (.istore 4, 2) := by decide +kernel
theorem dX6_chosenJoint_94 : decode cX6_chosenJoint 94 = .ok (.iinc 5 1, 3) := by decide +kernel
theorem dX6_chosenJoint_97 : decode cX6_chosenJoint 97 = .ok (.goto (-89), 3) := by decide +kernel
theorem dX6_chosenJoint_100 : decode cX6_chosenJoint 100 = .ok (.iload_n 3, 1) := by decide +kernel
theorem dX6_chosenJoint_101 : decode cX6_chosenJoint 101 = .ok (.ireturn, 1) := by decide +kernel
theorem dX6_follow_0 : decode cX6_follow 0 = .ok (.aload_n 0, 1) := by decide +kernel
theorem dX6_follow_1 : decode cX6_follow 1 = .ok (.iload_n 1, 1) := by decide +kernel
theorem dX6_follow_2 : decode cX6_follow 2 = .ok (.iload_n 2, 1) := by decide +kernel
theorem dX6_follow_3 : decode cX6_follow 3 = .ok (.invokevirtual 69, 3) := by decide +kernel
theorem dX6_follow_6 : decode cX6_follow 6 = .ok (.istore 4, 2) := by decide +kernel
theorem dX6_follow_8 : decode cX6_follow 8 = .ok (.iconst 0, 1) := by decide +kernel
theorem dX6_follow_9 : decode cX6_follow 9 = .ok (.istore 5, 2) := by decide +kernel
theorem dX6_follow_11 : decode cX6_follow 11 = .ok (.iconst 0, 1) := by decide +kernel
theorem dX6_follow_12 : decode cX6_follow 12 = .ok (.istore 6, 2) := by decide +kernel
theorem dX6_follow_14 : decode cX6_follow 14 = .ok (.iload 6, 2) := by decide +kernel
theorem dX6_follow_16 : decode cX6_follow 16 = .ok (.aload_n 0, 1) := by decide +kernel
theorem dX6_follow_17 : decode cX6_follow 17 = .ok (.getfield 21, 3) := by decide +kernel
theorem dX6_follow_20 : decode cX6_follow 20 = .ok (.getfield 35, 3) := by decide +kernel
theorem dX6_follow_23 : decode cX6_follow 23 = .ok (.if_icmp .ge 38, 3) := by decide +kernel
theorem dX6_follow_26 : decode cX6_follow 26 = .ok (.aload_n 0, 1) := by decide +kernel
theorem dX6_follow_27 : decode cX6_follow 27 = .ok (.getfield 21, 3) := by decide +kernel
theorem dX6_follow_30 : decode cX6_follow 30 = .ok (.iload_n 2, 1) := by decide +kernel
theorem dX6_follow_31 : decode cX6_follow 31 = .ok (.iload 6, 2) := by decide +kernel
theorem dX6_follow_33 : decode cX6_follow 33 = .ok (.invokevirtual 56, 3) := by decide +kernel
theorem dX6_follow_36 : decode cX6_follow 36 = .ok (.iconst (-1), 1) := by decide +kernel
theorem dX6_follow_37 : decode cX6_follow 37 = .ok (.if_icmp .eq 18, 3) := by decide +kernel
theorem dX6_follow_40 : decode cX6_follow 40 = .ok (.aload_n 0, 1) := by decide +kernel
theorem dX6_follow_41 : decode cX6_follow 41 = .ok (.iload_n 1, 1) := by decide +kernel
theorem dX6_follow_42 : decode cX6_follow 42 = .ok (.iload 6, 2) := by decide +kernel
theorem dX6_follow_44 : decode cX6_follow 44 = .ok (.invokevirtual 59, 3) := by decide +kernel
theorem dX6_follow_47 : decode cX6_follow 47 = .ok (.iload 4, 2) := by decide +kernel
theorem dX6_follow_49 : decode cX6_follow 49 = .ok (.if_icmp .ne 6, 3) := by decide +kernel
theorem dX6_follow_52 : decode cX6_follow 52 = .ok (.iinc 5 1, 3) := by decide +kernel
theorem dX6_follow_55 : decode cX6_follow 55 = .ok (.iinc 6 1, 3) := by decide +kernel
theorem dX6_follow_58 : decode cX6_follow 58 = .ok (.goto (-44), 3) := by decide +kernel
theorem dX6_follow_61 : decode cX6_follow 61 = .ok (.iload 5, 2) := by decide +kernel
theorem dX6_follow_63 : decode cX6_follow 63 = .ok (.ifCond .le 10, 3) := by decide +kernel
theorem dX6_follow_66 : decode cX6_follow 66 = .ok (.iload_n 3, 1) := by decide +kernel
theorem dX6_follow_67 : decode cX6_follow 67 = .ok (.iload 5, 2) := by decide +kernel
theorem dX6_follow_69 : decode cX6_follow 69 = .ok (.irem, 1) := by decide +kernel
theorem dX6_follow_70 : decode cX6_follow 70 = .ok (.goto 4, 3) := by decide +kernel
theorem dX6_follow_73 : decode cX6_follow 73 = .ok (.iconst 0, 1) := by decide +kernel
theorem dX6_follow_74 : decode cX6_follow 74 = .ok (.istore 6, 2) := by decide +kernel
theorem dX6_follow_76 : decode cX6_follow 76 = .ok (.iconst 0, 1) := by decide +kernel
theorem dX6_follow_77 : decode cX6_follow 77 = .ok (.istore 7, 2) := by decide +kernel
theorem dX6_follow_79 : decode cX6_follow 79 = .ok (.iload 7, 2) := by decide +kernel
theorem dX6_follow_81 : decode cX6_follow 81 = .ok (.aload_n 0, 1) := by decide +kernel
theorem dX6_follow_82 : decode cX6_follow 82 = .ok (.getfield 21, 3) := by decide +kernel
theorem dX6_follow_85 : decode cX6_follow 85 = .ok (.getfield 35, 3) := by decide +kernel
theorem dX6_follow_88 : decode cX6_follow 88 = .ok (.if_icmp .ge 53, 3) := by decide +kernel
theorem dX6_follow_91 : decode cX6_follow 91 = .ok (.aload_n 0, 1) := by decide +kernel
theorem dX6_follow_92 : decode cX6_follow 92 = .ok (.getfield 21, 3) := by decide +kernel
theorem dX6_follow_95 : decode cX6_follow 95 = .ok (.iload_n 2, 1) := by decide +kernel
theorem dX6_follow_96 : decode cX6_follow 96 = .ok (.iload 7, 2) := by decide +kernel
theorem dX6_follow_98 : decode cX6_follow 98 = .ok (.invokevirtual 56, 3) := by decide +kernel
theorem dX6_follow_101 : decode cX6_follow 101 = .ok (.istore 8, 2) := by decide +kernel
theorem dX6_follow_103 : decode cX6_follow 103 = .ok (.iload 8, 2) := by decide +kernel
theorem dX6_follow_105 : decode cX6_follow 105 = .ok (.iconst (-1), 1) := by decide +kernel
theorem dX6_follow_106 : decode cX6_follow 106 = .ok (.if_icmp .eq 29, 3) := by decide +kernel
theorem dX6_follow_109 : decode cX6_follow 109 = .ok (.aload_n 0, 1) := by decide +kernel
theorem dX6_follow_110 : decode cX6_follow 110 = .ok (.iload_n 1, 1) := by decide +kernel
theorem dX6_follow_111 : decode cX6_follow 111 = .ok (.iload 7, 2) := by decide +kernel
theorem dX6_follow_113 : decode cX6_follow 113 = .ok (.invokevirtual 59, 3) := by decide +kernel
theorem dX6_follow_116 : decode cX6_follow 116 = .ok (.iload 4, 2) := by decide +kernel
theorem dX6_follow_118 : decode cX6_follow 118 = .ok (.if_icmp .eq 6, 3) := by decide +kernel
theorem dX6_follow_121 : decode cX6_follow 121 = .ok (.goto 14, 3) := by decide +kernel
theorem dX6_follow_124 : decode cX6_follow 124 = .ok (.iload 6, 2) := by decide +kernel
theorem dX6_follow_126 : decode cX6_follow 126 = .ok (.ifCond .ne 6, 3) := by decide +kernel
theorem dX6_follow_129 : decode cX6_follow 129 = .ok (.iload 8, 2) := by decide +kernel
theorem dX6_follow_131 : decode cX6_follow 131 = .ok (.ireturn, 1) := by decide +kernel
theorem dX6_follow_132 : decode cX6_follow 132 = .ok (.iinc 6 (-1), 3) := by decide +kernel
theorem dX6_follow_135 : decode cX6_follow 135 = .ok (.iinc 7 1, 3) := by decide +kernel
theorem dX6_follow_138 : decode cX6_follow 138 = .ok (.goto (-59), 3) := by decide +kernel
theorem dX6_follow_141 : decode cX6_follow 141 = .ok (.iload_n 2, 1) := by decide +kernel
theorem dX6_follow_142 : decode cX6_follow 142 = .ok (.ireturn, 1) := by decide +kernel
theorem dX6_leastWithin_0 : decode cX6_leastWithin 0 = .ok (.iconst 0, 1) := by decide +kernel
theorem dX6_leastWithin_1 : decode cX6_leastWithin 1 = .ok (.istore_n 2, 1) := by decide +kernel
theorem dX6_leastWithin_2 : decode cX6_leastWithin 2 = .ok (.iload_n 2, 1) := by decide +kernel
theorem dX6_leastWithin_3 : decode cX6_leastWithin 3 = .ok (.aload_n 0, 1) := by decide +kernel
theorem dX6_leastWithin_4 : decode cX6_leastWithin 4 = .ok (.getfield 21, 3) := by decide +kernel
theorem dX6_leastWithin_7 : decode cX6_leastWithin 7 = .ok (.getfield 35, 3) := by decide +kernel
theorem dX6_leastWithin_10 : decode cX6_leastWithin 10 = .ok (.if_icmp .ge 26, 3) := by decide +kernel
theorem dX6_leastWithin_13 : decode cX6_leastWithin 13 = .ok (.aload_n 0, 1) := by decide +kernel
theorem dX6_leastWithin_14 : decode cX6_leastWithin 14 = .ok (.getfield 18, 3) := by decide +kernel
theorem dX6_leastWithin_17 : decode cX6_leastWithin 17 = .ok (.iload_n 2, 1) := by decide +kernel
theorem dX6_leastWithin_18 : decode cX6_leastWithin 18 = .ok (.invokestatic 44, 3) := by decide +kernel
theorem dX6_leastWithin_21 : decode cX6_leastWithin 21 = .ok (.iload_n 1, 1) := by decide +kernel
theorem dX6_leastWithin_22 : decode cX6_leastWithin 22 = .ok (.invokestatic 72, 3) := by decide +kernel
theorem dX6_leastWithin_25 : decode cX6_leastWithin 25 = .ok (.ifCond .eq 5, 3) := by decide +kernel
theorem dX6_leastWithin_28 : decode cX6_leastWithin 28 = .ok (.iload_n 2, 1) := by decide +kernel
theorem dX6_leastWithin_29 : decode cX6_leastWithin 29 = .ok (.ireturn, 1) := by decide +kernel
theorem dX6_leastWithin_30 : decode cX6_leastWithin 30 = .ok (.iinc 2 1, 3) := by decide +kernel
theorem dX6_leastWithin_33 : decode cX6_leastWithin 33 = .ok (.goto (-31), 3) := by decide +kernel
theorem dX6_leastWithin_36 : decode cX6_leastWithin 36 = .ok (.bipush (-9), 2) := by decide +kernel
theorem dX6_leastWithin_38 : decode cX6_leastWithin 38 = .ok (.ireturn, 1) := by decide +kernel
theorem dX6_jointPart_0 : decode cX6_jointPart 0 = .ok (.aload_n 0, 1) := by decide +kernel
theorem dX6_jointPart_1 : decode cX6_jointPart 1 = .ok (.getfield 9, 3) := by decide +kernel
theorem dX6_jointPart_4 : decode cX6_jointPart 4 = .ok (.iload_n 1, 1) := by decide +kernel
theorem dX6_jointPart_5 : decode cX6_jointPart 5 = .ok (.bipush 81, 2) := by decide +kernel
theorem dX6_jointPart_7 : decode cX6_jointPart 7 = .ok (.imul, 1) := by decide +kernel
theorem dX6_jointPart_8 : decode cX6_jointPart 8 = .ok (.iload_n 2, 1) := by decide +kernel
theorem dX6_jointPart_9 : decode cX6_jointPart 9 = .ok (.iadd, 1) := by decide +kernel
theorem dX6_jointPart_10 : decode cX6_jointPart 10 = .ok (.invokestatic 44, 3) := by decide +kernel
theorem dX6_jointPart_13 : decode cX6_jointPart 13 = .ok (.ireturn, 1) := by decide +kernel
theorem dX6_partOf_0 : decode cX6_partOf 0 = .ok (.iconst 0, 1) := by decide +kernel
theorem dX6_partOf_1 : decode cX6_partOf 1 = .ok (.istore_n 2, 1) := by decide +kernel
theorem dX6_partOf_2 : decode cX6_partOf 2 = .ok (.iload_n 1, 1) := by decide +kernel
theorem dX6_partOf_3 : decode cX6_partOf 3 = .ok (.istore_n 3, 1) := by decide +kernel
theorem dX6_partOf_4 : decode cX6_partOf 4 = .ok (.iconst 1, 1) := by decide +kernel
theorem dX6_partOf_5 : decode cX6_partOf 5 = .ok (.istore 4, 2) := by decide +kernel
theorem dX6_partOf_7 : decode cX6_partOf 7 = .ok (.iconst 0, 1) := by decide +kernel
theorem dX6_partOf_8 : decode cX6_partOf 8 = .ok (.istore 5, 2) := by decide +kernel
theorem dX6_partOf_10 : decode cX6_partOf 10 = .ok (.iload 5, 2) := by decide +kernel
theorem dX6_partOf_12 : decode cX6_partOf 12 = .ok (.iconst 4, 1) := by decide +kernel
theorem dX6_partOf_13 : decode cX6_partOf 13 = .ok (.if_icmp .ge 37, 3) := by decide +kernel
theorem dX6_partOf_16 : decode cX6_partOf 16 = .ok (.iload_n 0, 1) := by decide +kernel
theorem dX6_partOf_17 : decode cX6_partOf 17 = .ok (.iload 5, 2) := by decide +kernel
theorem dX6_partOf_19 : decode cX6_partOf 19 = .ok (.ishr, 1) := by decide +kernel
theorem dX6_partOf_20 : decode cX6_partOf 20 = .ok (.iconst 1, 1) := by decide +kernel
theorem dX6_partOf_21 : decode cX6_partOf 21 = .ok (.iand, 1) := by decide +kernel
theorem dX6_partOf_22 : decode cX6_partOf 22 = .ok (.ifCond .eq 12, 3) := by decide +kernel
theorem dX6_partOf_25 : decode cX6_partOf 25 = .ok (.iload_n 2, 1) := by decide +kernel
theorem dX6_partOf_26 : decode cX6_partOf 26 = .ok (.iload_n 3, 1) := by decide +kernel
theorem dX6_partOf_27 : decode cX6_partOf 27 = .ok (.iconst 3, 1) := by decide +kernel
theorem dX6_partOf_28 : decode cX6_partOf 28 = .ok (.irem, 1) := by decide +kernel
theorem dX6_partOf_29 : decode cX6_partOf 29 = .ok (.iload 4, 2) := by decide +kernel
theorem dX6_partOf_31 : decode cX6_partOf 31 = .ok (.imul, 1) := by decide +kernel
theorem dX6_partOf_32 : decode cX6_partOf 32 = .ok (.iadd, 1) := by decide +kernel
theorem dX6_partOf_33 : decode cX6_partOf 33 = .ok (.istore_n 2, 1) := by decide +kernel
theorem dX6_partOf_34 : decode cX6_partOf 34 = .ok (.iload_n 3, 1) := by decide +kernel
theorem dX6_partOf_35 : decode cX6_partOf 35 = .ok (.iconst 3, 1) := by decide +kernel
theorem dX6_partOf_36 : decode cX6_partOf 36 = .ok (.idiv, 1) := by decide +kernel
theorem dX6_partOf_37 : decode cX6_partOf 37 = .ok (.istore_n 3, 1) := by decide +kernel
theorem dX6_partOf_38 : decode cX6_partOf 38 = .ok (.iload 4, 2) := by decide +kernel
theorem dX6_partOf_40 : decode cX6_partOf 40 = .ok (.iconst 3, 1) := by decide +kernel
theorem dX6_partOf_41 : decode cX6_partOf 41 = .ok (.imul, 1) := by decide +kernel
theorem dX6_partOf_42 : decode cX6_partOf 42 = .ok (.istore 4, 2) := by decide +kernel
theorem dX6_partOf_44 : decode cX6_partOf 44 = .ok (.iinc 5 1, 3) := by decide +kernel
theorem dX6_partOf_47 : decode cX6_partOf 47 = .ok (.goto (-37), 3) := by decide +kernel
theorem dX6_partOf_50 : decode cX6_partOf 50 = .ok (.iload_n 2, 1) := by decide +kernel
theorem dX6_partOf_51 : decode cX6_partOf 51 = .ok (.ireturn, 1) := by decide +kernel
theorem dX7_init_0 : decode cX7_init 0 = .ok (.aload_n 0, 1) := by decide +kernel
theorem dX7_init_1 : decode cX7_init 1 = .ok (.invokespecial 3, 3) := by decide +kernel
theorem dX7_init_4 : decode cX7_init 4 = .ok (.aload_n 0, 1) := by decide +kernel
theorem dX7_init_5 : decode cX7_init 5 = .ok (.bipush 12, 2) := by decide +kernel
theorem dX7_init_7 : decode cX7_init 7 = .ok (.newarray .int, 2) := by decide +kernel
theorem dX7_init_9 : decode cX7_init 9 = .ok (.putfield 9, 3) := by decide +kernel
theorem dX7_init_12 : decode cX7_init 12 = .ok (.aload_n 0, 1) := by decide +kernel
theorem dX7_init_13 : decode cX7_init 13 = .ok (.bipush 48, 2) := by decide +kernel
theorem dX7_init_15 : decode cX7_init 15 = .ok (.newarray .int, 2) := by decide +kernel
theorem dX7_init_17 : decode cX7_init 17 = .ok (.putfield 15, 3) := by decide +kernel
theorem dX7_init_20 : decode cX7_init 20 = .ok (.aload_n 0, 1) := by decide +kernel
theorem dX7_init_21 : decode cX7_init 21 = .ok (.bipush 48, 2) := by decide +kernel
theorem dX7_init_23 : decode cX7_init 23 = .ok (.newarray .int, 2) := by decide +kernel
theorem dX7_init_25 : decode cX7_init 25 = .ok (.putfield 18, 3) := by decide +kernel
theorem dX7_init_28 : decode cX7_init 28 = .ok (.aload_n 0, 1) := by decide +kernel
theorem dX7_init_29 : decode cX7_init 29 = .ok (.sipush 972, 3) := by decide +kernel
theorem dX7_init_32 : decode cX7_init 32 = .ok (.newarray .int, 2) := by decide +kernel
theorem dX7_init_34 : decode cX7_init 34 = .ok (.putfield 21, 3) := by decide +kernel
theorem dX7_init_37 : decode cX7_init 37 = .ok (.aload_n 0, 1) := by decide +kernel
theorem dX7_init_38 : decode cX7_init 38 = .ok (.iconst 0, 1) := by decide +kernel
theorem dX7_init_39 : decode cX7_init 39 = .ok (.putfield 24, 3) := by decide +kernel
theorem dX7_init_42 : decode cX7_init 42 = .ok (.aload_n 0, 1) := by decide +kernel
theorem dX7_init_43 : decode cX7_init 43 = .ok (.iload_n 1, 1) := by decide +kernel
theorem dX7_init_44 : decode cX7_init 44 = .ok (.putfield 28, 3) := by decide +kernel
theorem dX7_init_47 : decode cX7_init 47 = .ok (.aload_n 0, 1) := by decide +kernel
theorem dX7_init_48 : decode cX7_init 48 = .ok (.iconst 1, 1) := by decide +kernel
theorem dX7_init_49 : decode cX7_init 49 = .ok (.iload_n 1, 1) := by decide +kernel
theorem dX7_init_50 : decode cX7_init 50 = .ok (.ishl, 1) := by decide +kernel
theorem dX7_init_51 : decode cX7_init 51 = .ok (.putfield 31, 3) := by decide +kernel
theorem dX7_init_54 : decode cX7_init 54 = .ok (.iconst 1, 1) := by decide +kernel
theorem dX7_init_55 : decode cX7_init 55 = .ok (.istore_n 2, 1) := by decide +kernel
theorem dX7_init_56 : decode cX7_init 56 = .ok (.iconst 0, 1) := by decide +kernel
theorem dX7_init_57 : decode cX7_init 57 = .ok (.istore_n 3, 1) := by decide +kernel
theorem dX7_init_58 : decode cX7_init 58 = .ok (.iload_n 3, 1) := by decide +kernel
theorem dX7_init_59 : decode cX7_init 59 = .ok (.iload_n 1, 1) := by decide +kernel
theorem dX7_init_60 : decode cX7_init 60 = .ok (.if_icmp .ge 13, 3) := by decide +kernel
theorem dX7_init_63 : decode cX7_init 63 = .ok (.iload_n 2, 1) := by decide +kernel
theorem dX7_init_64 : decode cX7_init 64 = .ok (.iconst 3, 1) := by decide +kernel
theorem dX7_init_65 : decode cX7_init 65 = .ok (.imul, 1) := by decide +kernel
theorem dX7_init_66 : decode cX7_init 66 = .ok (.istore_n 2, 1) := by decide +kernel
theorem dX7_init_67 : decode cX7_init 67 = .ok (.iinc 3 1, 3) := by decide +kernel
theorem dX7_init_70 : decode cX7_init 70 = .ok (.goto (-12), 3) := by decide +kernel
theorem dX7_init_73 : decode cX7_init 73 = .ok (.aload_n 0, 1) := by decide +kernel
theorem dX7_init_74 : decode cX7_init 74 = .ok (.iload_n 2, 1) := by decide +kernel
theorem dX7_init_75 : decode cX7_init 75 = .ok (.putfield 34, 3) := by decide +kernel
theorem dX7_init_78 : decode cX7_init 78 = .ok (.return_, 1) := by decide +kernel
theorem dX7_copyFrom_0 : decode cX7_copyFrom 0 = .ok (.aload_n 0, 1) := by decide +kernel
theorem dX7_copyFrom_1 : decode cX7_copyFrom 1 = .ok (.aload_n 1, 1) := by decide +kernel
theorem dX7_copyFrom_2 : decode cX7_copyFrom 2 = .ok (.getfield 24, 3) := by decide +kernel
theorem dX7_copyFrom_5 : decode cX7_copyFrom 5 = .ok (.putfield 24, 3) := by decide +kernel
theorem dX7_copyFrom_8 : decode cX7_copyFrom 8 = .ok (.aload_n 1, 1) := by decide +kernel
theorem dX7_copyFrom_9 : decode cX7_copyFrom 9 = .ok (.getfield 9, 3) := by decide +kernel
theorem dX7_copyFrom_12 : decode cX7_copyFrom 12 = .ok (.aload_n 0, 1) := by decide +kernel
theorem dX7_copyFrom_13 : decode cX7_copyFrom 13 = .ok (.getfield 9, 3) := by decide +kernel
theorem dX7_copyFrom_16 : decode cX7_copyFrom 16 = .ok (.invokestatic 37, 3) := by decide +kernel
theorem dX7_copyFrom_19 : decode cX7_copyFrom 19 = .ok (.aload_n 1, 1) := by decide +kernel
theorem dX7_copyFrom_20 : decode cX7_copyFrom 20 = .ok (.getfield 15, 3) := by decide +kernel
theorem dX7_copyFrom_23 : decode cX7_copyFrom 23 = .ok (.aload_n 0, 1) := by decide +kernel
theorem dX7_copyFrom_24 : decode cX7_copyFrom 24 = .ok (.getfield 15, 3) := by decide +kernel
theorem dX7_copyFrom_27 : decode cX7_copyFrom 27 = .ok (.invokestatic 37, 3) := by decide +kernel
theorem dX7_copyFrom_30 : decode cX7_copyFrom 30 = .ok (.aload_n 1, 1) := by decide +kernel
theorem dX7_copyFrom_31 : decode cX7_copyFrom 31 = .ok (.getfield 18, 3) := by decide +kernel
theorem dX7_copyFrom_34 : decode cX7_copyFrom 34 = .ok (.aload_n 0, 1) := by decide +kernel
theorem dX7_copyFrom_35 : decode cX7_copyFrom 35 = .ok (.getfield 18, 3) := by decide +kernel
theorem dX7_copyFrom_38 : decode cX7_copyFrom 38 = .ok (.invokestatic 37, 3) := by decide +kernel
theorem dX7_copyFrom_41 : decode cX7_copyFrom 41 = .ok (.aload_n 1, 1) := by decide +kernel
theorem dX7_copyFrom_42 : decode cX7_copyFrom 42 = .ok (.getfield 21, 3) := by decide +kernel
theorem dX7_copyFrom_45 : decode cX7_copyFrom 45 = .ok (.aload_n 0, 1) := by decide +kernel
theorem dX7_copyFrom_46 : decode cX7_copyFrom 46 = .ok (.getfield 21, 3) := by decide +kernel
theorem dX7_copyFrom_49 : decode cX7_copyFrom 49 = .ok (.invokestatic 37, 3) := by decide +kernel
theorem dX7_copyFrom_52 : decode cX7_copyFrom 52 = .ok (.return_, 1) := by decide +kernel
theorem dX7_hasState_0 : decode cX7_hasState 0 = .ok (.iload_n 1, 1) := by decide +kernel
theorem dX7_hasState_1 : decode cX7_hasState 1 = .ok (.ifCond .lt 15, 3) := by decide +kernel
theorem dX7_hasState_4 : decode cX7_hasState 4 = .ok (.iload_n 1, 1) := by decide +kernel
theorem dX7_hasState_5 : decode cX7_hasState 5 = .ok (.aload_n 0, 1) := by decide +kernel
theorem dX7_hasState_6 : decode cX7_hasState 6 = .ok (.getfield 24, 3) := by decide +kernel
theorem dX7_hasState_9 : decode cX7_hasState 9 = .ok (.if_icmp .ge 7, 3) := by decide +kernel
theorem dX7_hasState_12 : decode cX7_hasState 12 = .ok (.iconst 1, 1) := by decide +kernel
theorem dX7_hasState_13 : decode cX7_hasState 13 = .ok (.goto 4, 3) := by decide +kernel
theorem dX7_hasState_16 : decode cX7_hasState 16 = .ok (.iconst 0, 1) := by decide +kernel
theorem dX7_hasState_17 : decode cX7_hasState 17 = .ok (.ireturn, 1) := by decide +kernel
theorem dX7_hasPlace_0 : decode cX7_hasPlace 0 = .ok (.aload_n 0, 1) := by decide +kernel
theorem dX7_hasPlace_1 : decode cX7_hasPlace 1 = .ok (.iload_n 1, 1) := by decide +kernel
theorem dX7_hasPlace_2 : decode cX7_hasPlace 2 = .ok (.invokevirtual 43, 3) := by decide +kernel
theorem dX7_hasPlace_5 : decode cX7_hasPlace 5 = .ok (.ifCond .eq 19, 3) := by decide +kernel
theorem dX7_hasPlace_8 : decode cX7_hasPlace 8 = .ok (.iload_n 2, 1) := by decide +kernel
theorem dX7_hasPlace_9 : decode cX7_hasPlace 9 = .ok (.ifCond .lt 15, 3) := by decide +kernel
theorem dX7_hasPlace_12 : decode cX7_hasPlace 12 = .ok (.iload_n 2, 1) := by decide +kernel
theorem dX7_hasPlace_13 : decode cX7_hasPlace 13 = .ok (.aload_n 0, 1) := by decide +kernel
theorem dX7_hasPlace_14 : decode cX7_hasPlace 14 = .ok (.getfield 28, 3) := by decide +kernel
theorem dX7_hasPlace_17 : decode cX7_hasPlace 17 = .ok (.if_icmp .ge 7, 3) := by decide +kernel
theorem dX7_hasPlace_20 : decode cX7_hasPlace 20 = .ok (.iconst 1, 1) := by decide +kernel
theorem dX7_hasPlace_21 : decode cX7_hasPlace 21 = .ok (.goto 4, 3) := by decide +kernel
theorem dX7_hasPlace_24 : decode cX7_hasPlace 24 = .ok (.iconst 0, 1) := by decide +kernel
theorem dX7_hasPlace_25 : decode cX7_hasPlace 25 = .ok (.ireturn, 1) := by decide +kernel
theorem dX7_hasCoalition_0 : decode cX7_hasCoalition 0 = .ok (.iload_n 1, 1) := by decide +kernel
theorem dX7_hasCoalition_1 : decode cX7_hasCoalition 1 = .ok (.ifCond .lt 15, 3) := by decide +kernel
theorem dX7_hasCoalition_4 : decode cX7_hasCoalition 4 = .ok (.iload_n 1, 1) := by decide +kernel
theorem dX7_hasCoalition_5 : decode cX7_hasCoalition 5 = .ok (.aload_n 0, 1) := by decide +kernel
theorem dX7_hasCoalition_6 : decode cX7_hasCoalition 6 = .ok (.getfield 31, 3) := by decide +kernel
theorem dX7_hasCoalition_9 : decode cX7_hasCoalition 9 = .ok (.if_icmp .ge 7, 3) := by decide +kernel
theorem dX7_hasCoalition_12 : decode cX7_hasCoalition 12 = .ok (.iconst 1, 1) := by decide +kernel
theorem dX7_hasCoalition_13 : decode cX7_hasCoalition 13 = .ok (.goto 4, 3) := by decide +kernel
theorem dX7_hasCoalition_16 : decode cX7_hasCoalition 16 = .ok (.iconst 0, 1) := by decide +kernel
theorem dX7_hasCoalition_17 : decode cX7_hasCoalition 17 = .ok (.ireturn, 1) := by decide +kernel
theorem dX7_hasSet_0 : decode cX7_hasSet 0 = .ok (.iload_n 1, 1) := by decide +kernel
theorem dX7_hasSet_1 : decode cX7_hasSet 1 = .ok (.aload_n 0, 1) := by decide +kernel
theorem dX7_hasSet_2 : decode cX7_hasSet 2 = .ok (.invokevirtual 47, 3) := by decide +kernel
theorem dX7_hasSet_5 : decode cX7_hasSet 5 = .ok (.iconst (-1), 1) := by decide +kernel
theorem dX7_hasSet_6 : decode cX7_hasSet 6 = .ok (.ixor, 1) := by decide +kernel
theorem dX7_hasSet_7 : decode cX7_hasSet 7 = .ok (.iand, 1) := by decide +kernel
theorem dX7_hasSet_8 : decode cX7_hasSet 8 = .ok (.ifCond .ne 7, 3) := by decide +kernel
theorem dX7_hasSet_11 : decode cX7_hasSet 11 = .ok (.iconst 1, 1) := by decide +kernel
theorem dX7_hasSet_12 : decode cX7_hasSet 12 = .ok (.goto 4, 3) := by decide +kernel
theorem dX7_hasSet_15 : decode cX7_hasSet 15 = .ok (.iconst 0, 1) := by decide +kernel
theorem dX7_hasSet_16 : decode cX7_hasSet 16 = .ok (.ireturn, 1) := by decide +kernel
theorem dX7_allStates_0 : decode cX7_allStates 0 = .ok (.iconst 1, 1) := by decide +kernel
theorem dX7_allStates_1 : decode cX7_allStates 1 = .ok (.aload_n 0, 1) := by decide +kernel
theorem dX7_allStates_2 : decode cX7_allStates 2 = .ok (.getfield 24, 3) := by decide +kernel
theorem dX7_allStates_5 : decode cX7_allStates 5 = .ok (.ishl, 1) := by decide +kernel
theorem dX7_allStates_6 : decode cX7_allStates 6 = .ok (.iconst 1, 1) := by decide +kernel
theorem dX7_allStates_7 : decode cX7_allStates 7 = .ok (.isub, 1) := by decide +kernel
theorem dX7_allStates_8 : decode cX7_allStates 8 = .ok (.ireturn, 1) := by decide +kernel
theorem dX7_labelSet_0 : decode cX7_labelSet 0 = .ok (.aload_n 0, 1) := by decide +kernel
theorem dX7_labelSet_1 : decode cX7_labelSet 1 = .ok (.getfield 9, 3) := by decide +kernel
theorem dX7_labelSet_4 : decode cX7_labelSet 4 = .ok (.iload_n 1, 1) := by decide +kernel
theorem dX7_labelSet_5 : decode cX7_labelSet 5 = .ok (.invokestatic 51, 3) := by decide +kernel
theorem dX7_labelSet_8 : decode cX7_labelSet 8 = .ok (.ireturn, 1) := by decide +kernel
theorem dX7_setLabelSet_0 : decode cX7_setLabelSet 0 = .ok (.aload_n 0, 1) := by decide +kernel
theorem dX7_setLabelSet_1 : decode cX7_setLabelSet 1 = .ok (.getfield 9, 3) := by decide +kernel
theorem dX7_setLabelSet_4 : decode cX7_setLabelSet 4 = .ok (.iload_n 1, 1) := by decide +kernel
theorem dX7_setLabelSet_5 : decode cX7_setLabelSet 5 = .ok (.iload_n 2, 1) := by decide +kernel
theorem dX7_setLabelSet_6 : decode cX7_setLabelSet 6 = .ok (.invokestatic 55, 3) := by decide +kernel
theorem dX7_setLabelSet_9 : decode cX7_setLabelSet 9 = .ok (.return_, 1) := by decide +kernel
theorem dX7_actionCount_0 : decode cX7_actionCount 0 = .ok (.aload_n 0, 1) := by decide +kernel
theorem dX7_actionCount_1 : decode cX7_actionCount 1 = .ok (.getfield 15, 3) := by decide +kernel
theorem dX7_actionCount_4 : decode cX7_actionCount 4 = .ok (.iload_n 1, 1) := by decide +kernel
theorem dX7_actionCount_5 : decode cX7_actionCount 5 = .ok (.iconst 4, 1) := by decide +kernel
theorem dX7_actionCount_6 : decode cX7_actionCount 6 = .ok (.imul, 1) := by decide +kernel
theorem dX7_actionCount_7 : decode cX7_actionCount 7 = .ok (.iload_n 2, 1) := by decide +kernel
theorem dX7_actionCount_8 : decode cX7_actionCount 8 = .ok (.iadd, 1) := by decide +kernel
theorem dX7_actionCount_9 : decode cX7_actionCount 9 = .ok (.invokestatic 51, 3) := by decide +kernel
theorem dX7_actionCount_12 : decode cX7_actionCount 12 = .ok (.ireturn, 1) := by decide +kernel
theorem dX7_setActionCount_0 : decode cX7_setActionCount 0 = .ok (.aload_n 0, 1) := by decide +kernel
theorem dX7_setActionCount_1 : decode cX7_setActionCount 1 = .ok (.getfield 15, 3) := by decide +kernel
theorem dX7_setActionCount_4 : decode cX7_setActionCount 4 = .ok (.iload_n 1, 1) := by decide +kernel
theorem dX7_setActionCount_5 : decode cX7_setActionCount 5 = .ok (.iconst 4, 1) := by decide +kernel
theorem dX7_setActionCount_6 : decode cX7_setActionCount 6 = .ok (.imul, 1) := by decide +kernel
theorem dX7_setActionCount_7 : decode cX7_setActionCount 7 = .ok (.iload_n 2, 1) := by decide +kernel
theorem dX7_setActionCount_8 : decode cX7_setActionCount 8 = .ok (.iadd, 1) := by decide +kernel
theorem dX7_setActionCount_9 : decode cX7_setActionCount 9 = .ok (.iload_n 3, 1) := by decide +kernel
theorem dX7_setActionCount_10 : decode cX7_setActionCount 10 = .ok (.invokestatic 55, 3) := by decide +kernel
theorem dX7_setActionCount_13 : decode cX7_setActionCount 13 = .ok (.aload_n 0, 1) := by decide +kernel
theorem dX7_setActionCount_14 : decode cX7_setActionCount 14 = .ok (.iload_n 1, 1) := by decide +kernel
theorem dX7_setActionCount_15 : decode cX7_setActionCount 15 = .ok (.invokevirtual 59, 3) := by decide +kernel
theorem dX7_setActionCount_18 : decode cX7_setActionCount 18 = .ok (.return_, 1) := by decide +kernel
theorem dX7_plannedAction_0 : decode cX7_plannedAction 0 = .ok (.aload_n 0, 1) := by decide +kernel
theorem dX7_plannedAction_1 : decode cX7_plannedAction 1 = .ok (.getfield 18, 3) := by decide +kernel
theorem dX7_plannedAction_4 : decode cX7_plannedAction 4 = .ok (.iload_n 1, 1) := by decide +kernel
theorem dX7_plannedAction_5 : decode cX7_plannedAction 5 = .ok (.iconst 4, 1) := by decide +kernel
theorem dX7_plannedAction_6 : decode cX7_plannedAction 6 = .ok (.imul, 1) := by decide +kernel
theorem dX7_plannedAction_7 : decode cX7_plannedAction 7 = .ok (.iload_n 2, 1) := by decide +kernel
theorem dX7_plannedAction_8 : decode cX7_plannedAction 8 = .ok (.iadd, 1) := by decide +kernel
theorem dX7_plannedAction_9 : decode cX7_plannedAction 9 = .ok (.invokestatic 51, 3) := by decide +kernel
theorem dX7_plannedAction_12 : decode cX7_plannedAction 12 = .ok (.ireturn, 1) := by decide +kernel
theorem dX7_setPlannedAction_0 : decode cX7_setPlannedAction 0 = .ok (.aload_n 0, 1) := by decide +kernel
theorem dX7_setPlannedAction_1 : decode cX7_setPlannedAction 1 = .ok (.getfield 18, 3) := by decide +kernel
theorem dX7_setPlannedAction_4 : decode cX7_setPlannedAction 4 = .ok (.iload_n 1, 1) := by decide +kernel
theorem dX7_setPlannedAction_5 : decode cX7_setPlannedAction 5 = .ok (.iconst 4, 1) := by decide +kernel
theorem dX7_setPlannedAction_6 : decode cX7_setPlannedAction 6 = .ok (.imul, 1) := by decide +kernel
theorem dX7_setPlannedAction_7 : decode cX7_setPlannedAction 7 = .ok (.iload_n 2, 1) := by decide +kernel
theorem dX7_setPlannedAction_8 : decode cX7_setPlannedAction 8 = .ok (.iadd, 1) := by decide +kernel
theorem dX7_setPlannedAction_9 : decode cX7_setPlannedAction 9 = .ok (.iload_n 3, 1) := by decide +kernel
theorem dX7_setPlannedAction_10 : decode cX7_setPlannedAction 10 = .ok (.invokestatic 55, 3) := by decide +kernel
theorem dX7_setPlannedAction_13 : decode cX7_setPlannedAction 13 = .ok (.return_, 1) := by decide +kernel
theorem dX7_target_0 : decode cX7_target 0 = .ok (.aload_n 0, 1) := by decide +kernel
theorem dX7_target_1 : decode cX7_target 1 = .ok (.iload_n 1, 1) := by decide +kernel
theorem dX7_target_2 : decode cX7_target 2 = .ok (.invokevirtual 43, 3) := by decide +kernel
theorem dX7_target_5 : decode cX7_target 5 = .ok (.ifCond .eq 15, 3) := by decide +kernel
theorem dX7_target_8 : decode cX7_target 8 = .ok (.iload_n 2, 1) := by decide +kernel
theorem dX7_target_9 : decode cX7_target 9 = .ok (.ifCond .lt 11, 3) := by decide +kernel
theorem dX7_target_12 : decode cX7_target 12 = .ok (.iload_n 2, 1) := by decide +kernel
theorem dX7_target_13 : decode cX7_target 13 = .ok (.aload_n 0, 1) := by decide +kernel
theorem dX7_target_14 : decode cX7_target 14 = .ok (.getfield 34, 3) := by decide +kernel
theorem dX7_target_17 : decode cX7_target 17 = .ok (.if_icmp .lt 5, 3) := by decide +kernel
theorem dX7_target_20 : decode cX7_target 20 = .ok (.iconst (-1), 1) := by decide +kernel
theorem dX7_target_21 : decode cX7_target 21 = .ok (.ireturn, 1) := by decide +kernel
theorem dX7_target_22 : decode cX7_target 22 = .ok (.aload_n 0, 1) := by decide +kernel
theorem dX7_target_23 : decode cX7_target 23 = .ok (.getfield 21, 3) := by decide +kernel
theorem dX7_target_26 : decode cX7_target 26 = .ok (.iload_n 1, 1) := by decide +kernel
theorem dX7_target_27 : decode cX7_target 27 = .ok (.bipush 81, 2) := by decide +kernel
theorem dX7_target_29 : decode cX7_target 29 = .ok (.imul, 1) := by decide +kernel
theorem dX7_target_30 : decode cX7_target 30 = .ok (.iload_n 2, 1) := by decide +kernel
theorem dX7_target_31 : decode cX7_target 31 = .ok (.iadd, 1) := by decide +kernel
theorem dX7_target_32 : decode cX7_target 32 = .ok (.invokestatic 51, 3) := by decide +kernel
theorem dX7_target_35 : decode cX7_target 35 = .ok (.ireturn, 1) := by decide +kernel
theorem dX7_setTarget_0 : decode cX7_setTarget 0 = .ok (.aload_n 0, 1) := by decide +kernel
theorem dX7_setTarget_1 : decode cX7_setTarget 1 = .ok (.getfield 21, 3) := by decide +kernel
theorem dX7_setTarget_4 : decode cX7_setTarget 4 = .ok (.iload_n 1, 1) := by decide +kernel
theorem dX7_setTarget_5 : decode cX7_setTarget 5 = .ok (.bipush 81, 2) := by decide +kernel
theorem dX7_setTarget_7 : decode cX7_setTarget 7 = .ok (.imul, 1) := by decide +kernel
theorem dX7_setTarget_8 : decode cX7_setTarget 8 = .ok (.iload_n 2, 1) := by decide +kernel
theorem dX7_setTarget_9 : decode cX7_setTarget 9 = .ok (.iadd, 1) := by decide +kernel
theorem dX7_setTarget_10 : decode cX7_setTarget 10 = .ok (.iload_n 3, 1) := by decide +kernel
theorem dX7_setTarget_11 : decode cX7_setTarget 11 = .ok (.invokestatic 55, 3) := by decide +kernel
theorem dX7_setTarget_14 : decode cX7_setTarget 14 = .ok (.return_, 1) := by decide +kernel
theorem dX7_possibleMoves_0 : decode cX7_possibleMoves 0 = .ok (.iconst 0, 1) := by decide +kernel
theorem dX7_possibleMoves_1 : decode cX7_possibleMoves 1 = .ok (.istore_n 2, 1) := by decide +kernel
theorem dX7_possibleMoves_2 : decode cX7_possibleMoves 2 = .ok (.iconst 0, 1) := by decide +kernel
theorem dX7_possibleMoves_3 : decode cX7_possibleMoves 3 = .ok (.istore_n 3, 1) := by decide +kernel
theorem dX7_possibleMoves_4 : decode cX7_possibleMoves 4 = .ok (.iload_n 3, 1) := by decide +kernel
theorem dX7_possibleMoves_5 : decode cX7_possibleMoves 5 = .ok (.aload_n 0, 1) := by decide +kernel
theorem dX7_possibleMoves_6 : decode cX7_possibleMoves 6 = .ok (.getfield 34, 3) := by decide +kernel
theorem dX7_possibleMoves_9 : decode cX7_possibleMoves 9 = .ok (.if_icmp .ge 22, 3) := by decide +kernel
theorem dX7_possibleMoves_12 : decode cX7_possibleMoves 12 = .ok (.aload_n 0, 1) := by decide +kernel
theorem dX7_possibleMoves_13 : decode cX7_possibleMoves 13 = .ok (.iload_n 1, 1) := by decide +kernel
theorem dX7_possibleMoves_14 : decode cX7_possibleMoves 14 = .ok (.iload_n 3, 1) := by decide +kernel
theorem dX7_possibleMoves_15 : decode cX7_possibleMoves 15 = .ok (.invokevirtual 63, 3) := by decide +kernel
theorem dX7_possibleMoves_18 : decode cX7_possibleMoves 18 = .ok (.iconst (-1), 1) := by decide +kernel
theorem dX7_possibleMoves_19 : decode cX7_possibleMoves 19 = .ok (.if_icmp .eq 6, 3) := by decide +kernel
theorem dX7_possibleMoves_22 : decode cX7_possibleMoves 22 = .ok (.iinc 2 1, 3) := by decide +kernel
theorem dX7_possibleMoves_25 : decode cX7_possibleMoves 25 = .ok (.iinc 3 1, 3) := by decide +kernel
theorem dX7_possibleMoves_28 : decode cX7_possibleMoves 28 = .ok (.goto (-24), 3) := by decide +kernel
theorem dX7_possibleMoves_31 : decode cX7_possibleMoves 31 = .ok (.iload_n 2, 1) := by decide +kernel
theorem dX7_possibleMoves_32 : decode cX7_possibleMoves 32 = .ok (.ireturn, 1) := by decide +kernel
theorem dX7_grow_0 : decode cX7_grow 0 = .ok (.aload_n 0, 1) := by decide +kernel
theorem dX7_grow_1 : decode cX7_grow 1 = .ok (.getfield 24, 3) := by decide +kernel
theorem dX7_grow_4 : decode cX7_grow 4 = .ok (.istore_n 1, 1) := by decide +kernel
theorem dX7_grow_5 : decode cX7_grow 5 = .ok (.aload_n 0, 1) := by decide +kernel
theorem dX7_grow_6 : decode cX7_grow 6 = .ok (.iload_n 1, 1) := by decide +kernel
theorem dX7_grow_7 : decode cX7_grow 7 = .ok (.iconst 0, 1) := by decide +kernel
theorem dX7_grow_8 : decode cX7_grow 8 = .ok (.invokevirtual 67, 3) := by decide +kernel
theorem dX7_grow_11 : decode cX7_grow 11 = .ok (.iconst 0, 1) := by decide +kernel
theorem dX7_grow_12 : decode cX7_grow 12 = .ok (.istore_n 2, 1) := by decide +kernel
theorem dX7_grow_13 : decode cX7_grow 13 = .ok (.iload_n 2, 1) := by decide +kernel
theorem dX7_grow_14 : decode cX7_grow 14 = .ok (.iconst 4, 1) := by decide +kernel
theorem dX7_grow_15 : decode cX7_grow 15 = .ok (.if_icmp .ge 29, 3) := by decide +kernel
theorem dX7_grow_18 : decode cX7_grow 18 = .ok (.aload_n 0, 1) := by decide +kernel
theorem dX7_grow_19 : decode cX7_grow 19 = .ok (.getfield 15, 3) := by decide +kernel
theorem dX7_grow_22 : decode cX7_grow 22 = .ok (.iload_n 1, 1) := by decide +kernel
theorem dX7_grow_23 : decode cX7_grow 23 = .ok (.iconst 4, 1) := by decide +kernel
theorem dX7_grow_24 : decode cX7_grow 24 = .ok (.imul, 1) := by decide +kernel
theorem dX7_grow_25 : decode cX7_grow 25 = .ok (.iload_n 2, 1) := by decide +kernel
theorem dX7_grow_26 : decode cX7_grow 26 = .ok (.iadd, 1) := by decide +kernel
theorem dX7_grow_27 : decode cX7_grow 27 = .ok (.iconst 1, 1) := by decide +kernel
theorem dX7_grow_28 : decode cX7_grow 28 = .ok (.invokestatic 55, 3) := by decide +kernel
theorem dX7_grow_31 : decode cX7_grow 31 = .ok (.aload_n 0, 1) := by decide +kernel
theorem dX7_grow_32 : decode cX7_grow 32 = .ok (.iload_n 1, 1) := by decide +kernel
theorem dX7_grow_33 : decode cX7_grow 33 = .ok (.iload_n 2, 1) := by decide +kernel
theorem dX7_grow_34 : decode cX7_grow 34 = .ok (.iconst 0, 1) := by decide +kernel
theorem dX7_grow_35 : decode cX7_grow 35 = .ok (.invokevirtual 71, 3) := by decide +kernel
theorem dX7_grow_38 : decode cX7_grow 38 = .ok (.iinc 2 1, 3) := by decide +kernel
theorem dX7_grow_41 : decode cX7_grow 41 = .ok (.goto (-28), 3) := by decide +kernel
theorem dX7_grow_44 : decode cX7_grow 44 = .ok (.aload_n 0, 1) := by decide +kernel
theorem dX7_grow_45 : decode cX7_grow 45 = .ok (.iload_n 1, 1) := by decide +kernel
theorem dX7_grow_46 : decode cX7_grow 46 = .ok (.invokevirtual 59, 3) := by decide +kernel
theorem dX7_grow_49 : decode cX7_grow 49 = .ok (.aload_n 0, 1) := by decide +kernel
theorem dX7_grow_50 : decode cX7_grow 50 = .ok (.dup, 1) := by decide +kernel
theorem dX7_grow_51 : decode cX7_grow 51 = .ok (.getfield 24, 3) := by decide +kernel
theorem dX7_grow_54 : decode cX7_grow 54 = .ok (.iconst 1, 1) := by decide +kernel
theorem dX7_grow_55 : decode cX7_grow 55 = .ok (.iadd, 1) := by decide +kernel
theorem dX7_grow_56 : decode cX7_grow 56 = .ok (.putfield 24, 3) := by decide +kernel
theorem dX7_grow_59 : decode cX7_grow 59 = .ok (.iload_n 1, 1) := by decide +kernel
theorem dX7_grow_60 : decode cX7_grow 60 = .ok (.ireturn, 1) := by decide +kernel
theorem dX7_redirect_0 : decode cX7_redirect 0 = .ok (.iconst 0, 1) := by decide +kernel
theorem dX7_redirect_1 : decode cX7_redirect 1 = .ok (.istore 5, 2) := by decide +kernel
theorem dX7_redirect_3 : decode cX7_redirect 3 = .ok (.iconst 0, 1) := by decide +kernel
theorem dX7_redirect_4 : decode cX7_redirect 4 = .ok (.istore 6, 2) := by decide +kernel
theorem dX7_redirect_6 : decode cX7_redirect 6 = .ok (.iload 6, 2) := by decide +kernel
theorem dX7_redirect_8 : decode cX7_redirect 8 = .ok (.aload_n 0, 1) := by decide +kernel
theorem dX7_redirect_9 : decode cX7_redirect 9 = .ok (.getfield 34, 3) := by decide +kernel
theorem dX7_redirect_12 : decode cX7_redirect 12 = .ok (.if_icmp .ge 56, 3) := by decide +kernel
theorem dX7_redirect_15 : decode cX7_redirect 15 = .ok (.aload_n 0, 1) := by decide +kernel
theorem dX7_redirect_16 : decode cX7_redirect 16 = .ok (.iload_n 1, 1) := by decide +kernel
theorem dX7_redirect_17 : decode cX7_redirect 17 = .ok (.iload 6, 2) := by decide +kernel
theorem dX7_redirect_19 : decode cX7_redirect 19 = .ok (.invokevirtual 63, 3) := by decide +kernel
theorem dX7_redirect_22 : decode cX7_redirect 22 = .ok (.istore 7, 2) := by decide +kernel
theorem dX7_redirect_24 : decode cX7_redirect 24 = .ok (.iload 7, 2) := by decide +kernel
theorem dX7_redirect_26 : decode cX7_redirect 26 = .ok (.iconst (-1), 1) := by decide +kernel
theorem dX7_redirect_27 : decode cX7_redirect 27 = .ok (.if_icmp .eq 35, 3) := by decide +kernel
theorem dX7_redirect_30 : decode cX7_redirect 30 = .ok (.iload 6, 2) := by decide +kernel
theorem dX7_redirect_32 : decode cX7_redirect 32 = .ok (.iload_n 2, 1) := by decide +kernel
theorem dX7_redirect_33 : decode cX7_redirect 33 = .ok (.invokestatic 75, 3) := by decide +kernel
theorem dX7_redirect_36 : decode cX7_redirect 36 = .ok (.iload_n 3, 1) := by decide +kernel
theorem dX7_redirect_37 : decode cX7_redirect 37 = .ok (.if_icmp .eq 6, 3) := by decide +kernel
theorem dX7_redirect_40 : decode cX7_redirect 40 = .ok (.goto 22, 3) := by decide +kernel
theorem dX7_redirect_43 : decode cX7_redirect 43 = .ok (.iload 7, 2) := by decide +kernel
theorem dX7_redirect_45 : decode cX7_redirect 45 = .ok (.iload 4, 2) := by decide +kernel
theorem dX7_redirect_47 : decode cX7_redirect 47 = .ok (.if_icmp .eq 6, 3) := by decide +kernel
theorem dX7_redirect_50 : decode cX7_redirect 50 = .ok (.iinc 5 1, 3) := by decide +kernel
theorem dX7_redirect_53 : decode cX7_redirect 53 = .ok (.aload_n 0, 1) := by decide +kernel
theorem dX7_redirect_54 : decode cX7_redirect 54 = .ok (.iload_n 1, 1) := by decide +kernel
theorem dX7_redirect_55 : decode cX7_redirect 55 = .ok (.iload 6, 2) := by decide +kernel
theorem dX7_redirect_57 : decode cX7_redirect 57 = .ok (.iload 4, 2) := by decide +kernel
theorem dX7_redirect_59 : decode cX7_redirect 59 = .ok (.invokevirtual 78, 3) := by decide +kernel
theorem dX7_redirect_62 : decode cX7_redirect 62 = .ok (.iinc 6 1, 3) := by decide +kernel
theorem dX7_redirect_65 : decode cX7_redirect 65 = .ok (.goto (-59), 3) := by decide +kernel
theorem dX7_redirect_68 : decode cX7_redirect 68 = .ok (.iload 5, 2) := by decide +kernel
theorem dX7_redirect_70 : decode cX7_redirect 70 = .ok (.ireturn, 1) := by decide +kernel
theorem dX7_mix_0 : decode cX7_mix 0 = .ok (.lload_n 1, 1) := by decide +kernel
theorem dX7_mix_1 : decode cX7_mix 1 = .ok (.ldc2_w 81, 3) := by decide +kernel
theorem dX7_mix_4 : decode cX7_mix 4 = .ok (.lmul, 1) := by decide +kernel
theorem dX7_mix_5 : decode cX7_mix 5 = .ok (.aload_n 0, 1) := by decide +kernel
theorem dX7_mix_6 : decode cX7_mix 6 = .ok (.getfield 24, 3) := by decide +kernel
theorem dX7_mix_9 : decode cX7_mix 9 = .ok (.i2l, 1) := by decide +kernel
theorem dX7_mix_10 : decode cX7_mix 10 = .ok (.ladd, 1) := by decide +kernel
theorem dX7_mix_11 : decode cX7_mix 11 = .ok (.lstore_n 3, 1) := by decide +kernel
theorem dX7_mix_12 : decode cX7_mix 12 = .ok (.iconst 0, 1) := by decide +kernel
theorem dX7_mix_13 : decode cX7_mix 13 = .ok (.istore 5, 2) := by decide +kernel
theorem dX7_mix_15 : decode cX7_mix 15 = .ok (.iload 5, 2) := by decide +kernel
theorem dX7_mix_17 : decode cX7_mix 17 = .ok (.aload_n 0, 1) := by decide +kernel
theorem dX7_mix_18 : decode cX7_mix 18 = .ok (.getfield 24, 3) := by decide +kernel
theorem dX7_mix_21 : decode cX7_mix 21 = .ok (.if_icmp .ge 117, 3) := by decide +kernel
theorem dX7_mix_24 : decode cX7_mix 24 = .ok (.lload_n 3, 1) := by decide +kernel
theorem dX7_mix_25 : decode cX7_mix 25 = .ok (.ldc2_w 81, 3) := by decide +kernel
theorem dX7_mix_28 : decode cX7_mix 28 = .ok (.lmul, 1) := by decide +kernel
theorem dX7_mix_29 : decode cX7_mix 29 = .ok (.aload_n 0, 1) := by decide +kernel
theorem dX7_mix_30 : decode cX7_mix 30 = .ok (.iload 5, 2) := by decide +kernel
theorem dX7_mix_32 : decode cX7_mix 32 = .ok (.invokevirtual 83, 3) := by decide +kernel
theorem dX7_mix_35 : decode cX7_mix 35 = .ok (.i2l, 1) := by decide +kernel
theorem dX7_mix_36 : decode cX7_mix 36 = .ok (.ladd, 1) := by decide +kernel
theorem dX7_mix_37 : decode cX7_mix 37 = .ok (.lstore_n 3, 1) := by decide +kernel
theorem dX7_mix_38 : decode cX7_mix 38 = .ok (.iconst 0, 1) := by decide +kernel
theorem dX7_mix_39 : decode cX7_mix 39 = .ok (.istore 6, 2) := by decide +kernel
theorem dX7_mix_41 : decode cX7_mix 41 = .ok (.iload 6, 2) := by decide +kernel
theorem dX7_mix_43 : decode cX7_mix 43 = .ok (.aload_n 0, 1) := by decide +kernel
theorem dX7_mix_44 : decode cX7_mix 44 = .ok (.getfield 28, 3) := by decide +kernel
theorem dX7_mix_47 : decode cX7_mix 47 = .ok (.if_icmp .ge 41, 3) := by decide +kernel
theorem dX7_mix_50 : decode cX7_mix 50 = .ok (.lload_n 3, 1) := by decide +kernel
theorem dX7_mix_51 : decode cX7_mix 51 = .ok (.ldc2_w 81, 3) := by decide +kernel
theorem dX7_mix_54 : decode cX7_mix 54 = .ok (.lmul, 1) := by decide +kernel
theorem dX7_mix_55 : decode cX7_mix 55 = .ok (.aload_n 0, 1) := by decide +kernel
theorem dX7_mix_56 : decode cX7_mix 56 = .ok (.iload 5, 2) := by decide +kernel
theorem dX7_mix_58 : decode cX7_mix 58 = .ok (.iload 6, 2) := by decide +kernel
theorem dX7_mix_60 : decode cX7_mix 60 = .ok (.invokevirtual 87, 3) := by decide +kernel
theorem dX7_mix_63 : decode cX7_mix 63 = .ok (.i2l, 1) := by decide +kernel
theorem dX7_mix_64 : decode cX7_mix 64 = .ok (.ladd, 1) := by decide +kernel
theorem dX7_mix_65 : decode cX7_mix 65 = .ok (.lstore_n 3, 1) := by decide +kernel
theorem dX7_mix_66 : decode cX7_mix 66 = .ok (.lload_n 3, 1) := by decide +kernel
theorem dX7_mix_67 : decode cX7_mix 67 = .ok (.ldc2_w 81, 3) := by decide +kernel
theorem dX7_mix_70 : decode cX7_mix 70 = .ok (.lmul, 1) := by decide +kernel
theorem dX7_mix_71 : decode cX7_mix 71 = .ok (.aload_n 0, 1) := by decide +kernel
theorem dX7_mix_72 : decode cX7_mix 72 = .ok (.iload 5, 2) := by decide +kernel
theorem dX7_mix_74 : decode cX7_mix 74 = .ok (.iload 6, 2) := by decide +kernel
theorem dX7_mix_76 : decode cX7_mix 76 = .ok (.invokevirtual 90, 3) := by decide +kernel
theorem dX7_mix_79 : decode cX7_mix 79 = .ok (.i2l, 1) := by decide +kernel
theorem dX7_mix_80 : decode cX7_mix 80 = .ok (.ladd, 1) := by decide +kernel
theorem dX7_mix_81 : decode cX7_mix 81 = .ok (.lstore_n 3, 1) := by decide +kernel
theorem dX7_mix_82 : decode cX7_mix 82 = .ok (.iinc 6 1, 3) := by decide +kernel
theorem dX7_mix_85 : decode cX7_mix 85 = .ok (.goto (-44), 3) := by decide +kernel
theorem dX7_mix_88 : decode cX7_mix 88 = .ok (.iconst 0, 1) := by decide +kernel
theorem dX7_mix_89 : decode cX7_mix 89 = .ok (.istore 6, 2) := by decide +kernel
theorem dX7_mix_91 : decode cX7_mix 91 = .ok (.iload 6, 2) := by decide +kernel
theorem dX7_mix_93 : decode cX7_mix 93 = .ok (.aload_n 0, 1) := by decide +kernel
theorem dX7_mix_94 : decode cX7_mix 94 = .ok (.getfield 34, 3) := by decide +kernel
theorem dX7_mix_97 : decode cX7_mix 97 = .ok (.if_icmp .ge 35, 3) := by decide +kernel
theorem dX7_mix_100 : decode cX7_mix 100 = .ok (.aload_n 0, 1) := by decide +kernel
theorem dX7_mix_101 : decode cX7_mix 101 = .ok (.iload 5, 2) := by decide +kernel
theorem dX7_mix_103 : decode cX7_mix 103 = .ok (.iload 6, 2) := by decide +kernel
theorem dX7_mix_105 : decode cX7_mix 105 = .ok (.invokevirtual 63, 3) := by decide +kernel
theorem dX7_mix_108 : decode cX7_mix 108 = .ok (.istore 7, 2) := by decide +kernel
theorem dX7_mix_110 : decode cX7_mix 110 = .ok (.iload 7, 2) := by decide +kernel
theorem dX7_mix_112 : decode cX7_mix 112 = .ok (.iconst (-1), 1) := by decide +kernel
theorem dX7_mix_113 : decode cX7_mix 113 = .ok (.if_icmp .eq 13, 3) := by decide +kernel
theorem dX7_mix_116 : decode cX7_mix 116 = .ok (.lload_n 3, 1) := by decide +kernel
theorem dX7_mix_117 : decode cX7_mix 117 = .ok (.ldc2_w 81, 3) := by decide +kernel
theorem dX7_mix_120 : decode cX7_mix 120 = .ok (.lmul, 1) := by decide +kernel
theorem dX7_mix_121 : decode cX7_mix 121 = .ok (.iload 7, 2) := by decide +kernel
theorem dX7_mix_123 : decode cX7_mix 123 = .ok (.i2l, 1) := by decide +kernel
theorem dX7_mix_124 : decode cX7_mix 124 = .ok (.ladd, 1) := by decide +kernel
theorem dX7_mix_125 : decode cX7_mix 125 = .ok (.lstore_n 3, 1) := by decide +kernel
theorem dX7_mix_126 : decode cX7_mix 126 = .ok (.iinc 6 1, 3) := by decide +kernel
theorem dX7_mix_129 : decode cX7_mix 129 = .ok (.goto (-38), 3) := by decide +kernel
theorem dX7_mix_132 : decode cX7_mix 132 = .ok (.iinc 5 1, 3) := by decide +kernel
theorem dX7_mix_135 : decode cX7_mix 135 = .ok (.goto (-120), 3) := by decide +kernel
theorem dX7_mix_138 : decode cX7_mix 138 = .ok (.lload_n 3, 1) := by decide +kernel
theorem dX7_mix_139 : decode cX7_mix 139 = .ok (.lreturn, 1) := by decide +kernel
theorem dX7_leadBack_0 : decode cX7_leadBack 0 = .ok (.iconst 0, 1) := by decide +kernel
theorem dX7_leadBack_1 : decode cX7_leadBack 1 = .ok (.istore_n 2, 1) := by decide +kernel
theorem dX7_leadBack_2 : decode cX7_leadBack 2 = .ok (.iload_n 2, 1) := by decide +kernel
theorem dX7_leadBack_3 : decode cX7_leadBack 3 = .ok (.aload_n 0, 1) := by decide +kernel
theorem dX7_leadBack_4 : decode cX7_leadBack 4 = .ok (.getfield 34, 3) := by decide +kernel
theorem dX7_leadBack_7 : decode cX7_leadBack 7 = .ok (.if_icmp .ge 29, 3) := by decide +kernel
theorem dX7_leadBack_10 : decode cX7_leadBack 10 = .ok (.aload_n 0, 1) := by decide +kernel
theorem dX7_leadBack_11 : decode cX7_leadBack 11 = .ok (.iload_n 1, 1) := by decide +kernel
theorem dX7_leadBack_12 : decode cX7_leadBack 12 = .ok (.iload_n 2, 1) := by decide +kernel
theorem dX7_leadBack_13 : decode cX7_leadBack 13 = .ok (.aload_n 0, 1) := by decide +kernel
theorem dX7_leadBack_14 : decode cX7_leadBack 14 = .ok (.iload_n 1, 1) := by decide +kernel
theorem dX7_leadBack_15 : decode cX7_leadBack 15 = .ok (.iload_n 2, 1) := by decide +kernel
theorem dX7_leadBack_16 : decode cX7_leadBack 16 = .ok (.invokevirtual 93, 3) := by decide +kernel
theorem dX7_leadBack_19 : decode cX7_leadBack 19 = .ok (.ifCond .eq 7, 3) := by decide +kernel
theorem dX7_leadBack_22 : decode cX7_leadBack 22 = .ok (.iload_n 1, 1) := by decide +kernel
theorem dX7_leadBack_23 : decode cX7_leadBack 23 = .ok (.goto 4, 3) := by decide +kernel
theorem dX7_leadBack_26 : decode cX7_leadBack 26 = .ok (.iconst (-1), 1) := by decide +kernel
theorem dX7_leadBack_27 : decode cX7_leadBack 27 = .ok (.invokevirtual 78, 3) := by decide +kernel
theorem dX7_leadBack_30 : decode cX7_leadBack 30 = .ok (.iinc 2 1, 3) := by decide +kernel
theorem dX7_leadBack_33 : decode cX7_leadBack 33 = .ok (.goto (-31), 3) := by decide +kernel
theorem dX7_leadBack_36 : decode cX7_leadBack 36 = .ok (.return_, 1) := by decide +kernel
theorem dX7_isWithinActions_0 : decode cX7_isWithinActions 0 = .ok (.iconst 0, 1) := by decide +kernel
theorem dX7_isWithinActions_1 : decode cX7_isWithinActions 1 = .ok (.istore_n 3, 1) := by decide +kernel
theorem dX7_isWithinActions_2 : decode cX7_isWithinActions 2 = .ok (.iload_n 3, 1) := by decide +kernel
theorem dX7_isWithinActions_3 : decode cX7_isWithinActions 3 = .ok (.aload_n 0, 1) := by decide +kernel
theorem dX7_isWithinActions_4 : decode cX7_isWithinActions 4 = .ok (.getfield 28, 3) := by decide +kernel
theorem dX7_isWithinActions_7 : decode cX7_isWithinActions 7 = .ok (.if_icmp .ge 25, 3) := by decide +kernel
theorem dX7_isWithinActions_10 : decode cX7_isWithinActions 10 = .ok (.iload_n 2, 1) := by decide +kernel
theorem dX7_isWithinActions_11 : decode cX7_isWithinActions 11 = .ok (.iload_n 3, 1) := by decide +kernel
theorem dX7_isWithinActions_12 : decode cX7_isWithinActions 12 = .ok (.invokestatic 75, 3) := by decide +kernel
theorem dX7_isWithinActions_15 : decode cX7_isWithinActions 15 = .ok (.aload_n 0, 1) := by decide +kernel
theorem dX7_isWithinActions_16 : decode cX7_isWithinActions 16 = .ok (.iload_n 1, 1) := by decide +kernel
theorem dX7_isWithinActions_17 : decode cX7_isWithinActions 17 = .ok (.iload_n 3, 1) := by decide +kernel
theorem dX7_isWithinActions_18 : decode cX7_isWithinActions 18 = .ok (.invokevirtual 87, 3) := by decide +kernel
theorem dX7_isWithinActions_21 : decode cX7_isWithinActions 21 = .ok (.if_icmp .lt 5, 3) := by decide +kernel
theorem dX7_isWithinActions_24 : decode cX7_isWithinActions 24 = .ok (.iconst 0, 1) := by decide +kernel
theorem dX7_isWithinActions_25 : decode cX7_isWithinActions 25 = .ok (.ireturn, 1) := by decide +kernel
theorem dX7_isWithinActions_26 : decode cX7_isWithinActions 26 = .ok (.iinc 3 1, 3) := by decide +kernel
theorem dX7_isWithinActions_29 : decode cX7_isWithinActions 29 = .ok (.goto (-27), 3) := by decide +kernel
theorem dX7_isWithinActions_32 : decode cX7_isWithinActions 32 = .ok (.iconst 1, 1) := by decide +kernel
theorem dX7_isWithinActions_33 : decode cX7_isWithinActions 33 = .ok (.ireturn, 1) := by decide +kernel
theorem dX7_actionIn_0 : decode cX7_actionIn 0 = .ok (.iload_n 0, 1) := by decide +kernel
theorem dX7_actionIn_1 : decode cX7_actionIn 1 = .ok (.istore_n 2, 1) := by decide +kernel
theorem dX7_actionIn_2 : decode cX7_actionIn 2 = .ok (.iconst 0, 1) := by decide +kernel
theorem dX7_actionIn_3 : decode cX7_actionIn 3 = .ok (.istore_n 3, 1) := by decide +kernel
theorem dX7_actionIn_4 : decode cX7_actionIn 4 = .ok (.iload_n 3, 1) := by decide +kernel
theorem dX7_actionIn_5 : decode cX7_actionIn 5 = .ok (.iload_n 1, 1) := by decide +kernel
theorem dX7_actionIn_6 : decode cX7_actionIn 6 = .ok (.if_icmp .ge 13, 3) := by decide +kernel
theorem dX7_actionIn_9 : decode cX7_actionIn 9 = .ok (.iload_n 2, 1) := by decide +kernel
theorem dX7_actionIn_10 : decode cX7_actionIn 10 = .ok (.iconst 3, 1) := by decide +kernel
theorem dX7_actionIn_11 : decode cX7_actionIn 11 = .ok (.idiv, 1) := by decide +kernel
theorem dX7_actionIn_12 : decode cX7_actionIn 12 = .ok (.istore_n 2, 1) := by decide +kernel
theorem dX7_actionIn_13 : decode cX7_actionIn 13 = .ok (.iinc 3 1, 3) := by decide +kernel
theorem dX7_actionIn_16 : decode cX7_actionIn 16 = .ok (.goto (-12), 3) := by decide +kernel
theorem dX7_actionIn_19 : decode cX7_actionIn 19 = .ok (.iload_n 2, 1) := by decide +kernel
theorem dX7_actionIn_20 : decode cX7_actionIn 20 = .ok (.iconst 3, 1) := by decide +kernel
theorem dX7_actionIn_21 : decode cX7_actionIn 21 = .ok (.irem, 1) := by decide +kernel
theorem dX7_actionIn_22 : decode cX7_actionIn 22 = .ok (.ireturn, 1) := by decide +kernel
theorem dX8_init_0 : decode cX8_init 0 = .ok (.aload_n 0, 1) := by decide +kernel
theorem dX8_init_1 : decode cX8_init 1 = .ok (.invokespecial 3, 3) := by decide +kernel
theorem dX8_init_4 : decode cX8_init 4 = .ok (.aload_n 0, 1) := by decide +kernel
theorem dX8_init_5 : decode cX8_init 5 = .ok (.iconst 0, 1) := by decide +kernel
theorem dX8_init_6 : decode cX8_init 6 = .ok (.putfield 9, 3) := by decide +kernel
theorem dX8_init_9 : decode cX8_init 9 = .ok (.aload_n 0, 1) := by decide +kernel
theorem dX8_init_10 : decode cX8_init 10 = .ok (.aload_n 1, 1) := by decide +kernel
theorem dX8_init_11 : decode cX8_init 11 = .ok (.putfield 15, 3) := by decide +kernel
theorem dX8_init_14 : decode cX8_init 14 = .ok (.aload_n 0, 1) := by decide +kernel
theorem dX8_init_15 : decode cX8_init 15 = .ok (.aload_n 2, 1) := by decide +kernel
theorem dX8_init_16 : decode cX8_init 16 = .ok (.putfield 19, 3) := by decide +kernel
theorem dX8_init_19 : decode cX8_init 19 = .ok (.aload_n 0, 1) := by decide +kernel
theorem dX8_init_20 : decode cX8_init 20 = .ok (.aload_n 3, 1) := by decide +kernel
theorem dX8_init_21 : decode cX8_init 21 = .ok (.putfield 23, 3) := by decide +kernel
theorem dX8_init_24 : decode cX8_init 24 = .ok (.return_, 1) := by decide +kernel
theorem dX8_prepare_0 : decode cX8_prepare 0 = .ok (.aload_n 0, 1) := by decide +kernel
theorem dX8_prepare_1 : decode cX8_prepare 1 = .ok (.getfield 23, 3) := by decide +kernel
theorem dX8_prepare_4 : decode cX8_prepare 4 = .ok (.aload_n 1, 1) := by decide +kernel
theorem dX8_prepare_5 : decode cX8_prepare 5 = .ok (.invokevirtual 27, 3) := by decide +kernel
theorem dX8_prepare_8 : decode cX8_prepare 8 = .ok (.aload_n 0, 1) := by decide +kernel
theorem dX8_prepare_9 : decode cX8_prepare 9 = .ok (.aload_n 0, 1) := by decide +kernel
theorem dX8_prepare_10 : decode cX8_prepare 10 = .ok (.getfield 23, 3) := by decide +kernel
theorem dX8_prepare_13 : decode cX8_prepare 13 = .ok (.aload_n 1, 1) := by decide +kernel
theorem dX8_prepare_14 : decode cX8_prepare 14 = .ok (.aload_n 1, 1) := by decide +kernel
theorem dX8_prepare_15 : decode cX8_prepare 15 = .ok (.invokevirtual 33, 3) := by decide +kernel
theorem dX8_prepare_18 : decode cX8_prepare 18 = .ok (.iconst 0, 1) := by decide +kernel
theorem dX8_prepare_19 : decode cX8_prepare 19 = .ok (.invokevirtual 39, 3) := by decide +kernel
theorem dX8_prepare_22 : decode cX8_prepare 22 = .ok (.putfield 9, 3) := by decide +kernel
theorem dX8_prepare_25 : decode cX8_prepare 25 = .ok (.return_, 1) := by decide +kernel
theorem dX8_jointAt_0 : decode cX8_jointAt 0 = .ok (.aload_n 0, 1) := by decide +kernel
theorem dX8_jointAt_1 : decode cX8_jointAt 1 = .ok (.getfield 9, 3) := by decide +kernel
theorem dX8_jointAt_4 : decode cX8_jointAt 4 = .ok (.iload_n 2, 1) := by decide +kernel
theorem dX8_jointAt_5 : decode cX8_jointAt 5 = .ok (.ishr, 1) := by decide +kernel
theorem dX8_jointAt_6 : decode cX8_jointAt 6 = .ok (.iconst 1, 1) := by decide +kernel
theorem dX8_jointAt_7 : decode cX8_jointAt 7 = .ok (.iand, 1) := by decide +kernel
theorem dX8_jointAt_8 : decode cX8_jointAt 8 = .ok (.ifCond .ne 5, 3) := by decide +kernel
theorem dX8_jointAt_11 : decode cX8_jointAt 11 = .ok (.iconst 0, 1) := by decide +kernel
theorem dX8_jointAt_12 : decode cX8_jointAt 12 = .ok (.ireturn, 1) := by decide +kernel
theorem dX8_jointAt_13 : decode cX8_jointAt 13 = .ok (.aload_n 1, 1) := by decide +kernel
theorem dX8_jointAt_14 : decode cX8_jointAt 14 = .ok (.invokevirtual 43, 3) := by decide +kernel
theorem dX8_jointAt_17 : decode cX8_jointAt 17 = .ok (.lookupswitch 56 #[(6, 27), (8, 48)], 27) := by decide +kernel
theorem dX8_jointAt_44 : decode cX8_jointAt 44 = .ok (.aload_n 0, 1) := by decide +kernel
theorem dX8_jointAt_45 : decode cX8_jointAt 45 = .ok (.getfield 23, 3) := by decide +kernel
theorem dX8_jointAt_48 : decode cX8_jointAt 48 = .ok (.aload_n 1, 1) := by decide +kernel
theorem dX8_jointAt_49 : decode cX8_jointAt 49 = .ok (.aload_n 1, 1) := by decide +kernel
theorem dX8_jointAt_50 : decode cX8_jointAt 50 = .ok (.getfield 46, 3) := by decide +kernel
theorem dX8_jointAt_53 : decode cX8_jointAt 53 = .ok (.iconst 1, 1) := by decide +kernel
theorem dX8_jointAt_54 : decode cX8_jointAt 54 = .ok (.isub, 1) := by decide +kernel
theorem dX8_jointAt_55 : decode cX8_jointAt 55 = .ok (.invokevirtual 49, 3) := by decide +kernel
theorem dX8_jointAt_58 : decode cX8_jointAt 58 = .ok (.invokevirtual 53, 3) := by decide +kernel
theorem dX8_jointAt_61 : decode cX8_jointAt 61 = .ok (.istore_n 3, 1) := by decide +kernel
theorem dX8_jointAt_62 : decode cX8_jointAt 62 = .ok (.goto 40, 3) := by decide +kernel
theorem dX8_jointAt_65 : decode cX8_jointAt 65 = .ok (.aload_n 0, 1) := by decide +kernel
theorem dX8_jointAt_66 : decode cX8_jointAt 66 = .ok (.getfield 9, 3) := by decide +kernel
theorem dX8_jointAt_69 : decode cX8_jointAt 69 = .ok (.istore_n 3, 1) := by decide +kernel
theorem dX8_jointAt_70 : decode cX8_jointAt 70 = .ok (.goto 32, 3) := by decide +kernel
theorem dX8_jointAt_73 : decode cX8_jointAt 73 = .ok (.aload_n 0, 1) := by decide +kernel
theorem dX8_jointAt_74 : decode cX8_jointAt 74 = .ok (.getfield 23, 3) := by decide +kernel
theorem dX8_jointAt_77 : decode cX8_jointAt 77 = .ok (.iload_n 2, 1) := by decide +kernel
theorem dX8_jointAt_78 : decode cX8_jointAt 78 = .ok (.invokevirtual 56, 3) := by decide +kernel
theorem dX8_jointAt_81 : decode cX8_jointAt 81 = .ok (.ifCond .gt 5, 3) := by decide +kernel
theorem dX8_jointAt_84 : decode cX8_jointAt 84 = .ok (.iconst 0, 1) := by decide +kernel
theorem dX8_jointAt_85 : decode cX8_jointAt 85 = .ok (.ireturn, 1) := by decide +kernel
theorem dX8_jointAt_86 : decode cX8_jointAt 86 = .ok (.aload_n 0, 1) := by decide +kernel
theorem dX8_jointAt_87 : decode cX8_jointAt 87 = .ok (.getfield 23, 3) := by decide +kernel
theorem dX8_jointAt_90 : decode cX8_jointAt 90 = .ok (.aload_n 0, 1) := by decide +kernel
theorem dX8_jointAt_91 : decode cX8_jointAt 91 = .ok (.getfield 23, 3) := by decide +kernel
theorem dX8_jointAt_94 : decode cX8_jointAt 94 = .ok (.iload_n 2, 1) := by decide +kernel
theorem dX8_jointAt_95 : decode cX8_jointAt 95 = .ok (.invokevirtual 56, 3) := by decide +kernel
theorem dX8_jointAt_98 : decode cX8_jointAt 98 = .ok (.invokevirtual 59, 3) := by decide +kernel
theorem dX8_jointAt_101 : decode cX8_jointAt 101 = .ok (.istore_n 3, 1) := by decide +kernel
theorem dX8_jointAt_102 : decode cX8_jointAt 102 = .ok (.iconst 0, 1) := by decide +kernel
theorem dX8_jointAt_103 : decode cX8_jointAt 103 = .ok (.aload_n 0, 1) := by decide +kernel
theorem dX8_jointAt_104 : decode cX8_jointAt 104 = .ok (.getfield 19, 3) := by decide +kernel
theorem dX8_jointAt_107 : decode cX8_jointAt 107 = .ok (.aload_n 1, 1) := by decide +kernel
theorem dX8_jointAt_108 : decode cX8_jointAt 108 = .ok (.invokevirtual 33, 3) := by decide +kernel
theorem dX8_jointAt_111 : decode cX8_jointAt 111 = .ok (.iload_n 2, 1) := by decide +kernel
theorem dX8_jointAt_112 : decode cX8_jointAt 112 = .ok (.iload_n 3, 1) := by decide +kernel
theorem dX8_jointAt_113 : decode cX8_jointAt 113 = .ok (.invokevirtual 62, 3) := by decide +kernel
theorem dX8_jointAt_116 : decode cX8_jointAt 116 = .ok (.invokestatic 68, 3) := by decide +kernel
theorem dX8_jointAt_119 : decode cX8_jointAt 119 = .ok (.ireturn, 1) := by decide +kernel
theorem dX8_follow_0 : decode cX8_follow 0 = .ok (.iconst 0, 1) := by decide +kernel
theorem dX8_follow_1 : decode cX8_follow 1 = .ok (.istore_n 2, 1) := by decide +kernel
theorem dX8_follow_2 : decode cX8_follow 2 = .ok (.iconst 0, 1) := by decide +kernel
theorem dX8_follow_3 : decode cX8_follow 3 = .ok (.istore_n 3, 1) := by decide +kernel
theorem dX8_follow_4 : decode cX8_follow 4 = .ok (.iload_n 3, 1) := by decide +kernel
theorem dX8_follow_5 : decode cX8_follow 5 = .ok (.aload_n 0, 1) := by decide +kernel
theorem dX8_follow_6 : decode cX8_follow 6 = .ok (.getfield 15, 3) := by decide +kernel
theorem dX8_follow_9 : decode cX8_follow 9 = .ok (.getfield 74, 3) := by decide +kernel
theorem dX8_follow_12 : decode cX8_follow 12 = .ok (.if_icmp .ge 104, 3) := by decide +kernel
theorem dX8_follow_15 : decode cX8_follow 15 = .ok (.aload_n 0, 1) := by decide +kernel
theorem dX8_follow_16 : decode cX8_follow 16 = .ok (.aload_n 1, 1) := by decide +kernel
theorem dX8_follow_17 : decode cX8_follow 17 = .ok (.iload_n 3, 1) := by decide +kernel
theorem dX8_follow_18 : decode cX8_follow 18 = .ok (.invokevirtual 79, 3) := by decide +kernel
theorem dX8_follow_21 : decode cX8_follow 21 = .ok (.istore 4, 2) := by decide +kernel
theorem dX8_follow_23 : decode cX8_follow 23 = .ok (.iconst 0, 1) := by decide +kernel
theorem dX8_follow_24 : decode cX8_follow 24 = .ok (.istore 5, 2) := by decide +kernel
theorem dX8_follow_26 : decode cX8_follow 26 = .ok (.iload 5, 2) := by decide +kernel
theorem dX8_follow_28 : decode cX8_follow 28 = .ok (.aload_n 0, 1) := by decide +kernel
theorem dX8_follow_29 : decode cX8_follow 29 = .ok (.getfield 15, 3) := by decide +kernel
theorem dX8_follow_32 : decode cX8_follow 32 = .ok (.getfield 83, 3) := by decide +kernel
theorem dX8_follow_35 : decode cX8_follow 35 = .ok (.if_icmp .ge 75, 3) := by decide +kernel
theorem dX8_follow_38 : decode cX8_follow 38 = .ok (.iload 4, 2) := by decide +kernel
theorem dX8_follow_40 : decode cX8_follow 40 = .ok (.iconst 3, 1) := by decide +kernel
theorem dX8_follow_41 : decode cX8_follow 41 = .ok (.irem, 1) := by decide +kernel
theorem dX8_follow_42 : decode cX8_follow 42 = .ok (.istore 6, 2) := by decide +kernel
theorem dX8_follow_44 : decode cX8_follow 44 = .ok (.iload 4, 2) := by decide +kernel
theorem dX8_follow_46 : decode cX8_follow 46 = .ok (.iconst 3, 1) := by decide +kernel
theorem dX8_follow_47 : decode cX8_follow 47 = .ok (.idiv, 1) := by decide +kernel
theorem dX8_follow_48 : decode cX8_follow 48 = .ok (.istore 4, 2) := by decide +kernel
theorem dX8_follow_50 : decode cX8_follow 50 = .ok (.aload_n 1, 1) := by decide +kernel
theorem dX8_follow_51 : decode cX8_follow 51 = .ok (.invokevirtual 33, 3) := by decide +kernel
theorem dX8_follow_54 : decode cX8_follow 54 = .ok (.iload 5, 2) := by decide +kernel
theorem dX8_follow_56 : decode cX8_follow 56 = .ok (.ishr, 1) := by decide +kernel
theorem dX8_follow_57 : decode cX8_follow 57 = .ok (.iconst 1, 1) := by decide +kernel
theorem dX8_follow_58 : decode cX8_follow 58 = .ok (.iand, 1) := by decide +kernel
theorem dX8_follow_59 : decode cX8_follow 59 = .ok (.ifCond .eq 7, 3) := by decide +kernel
theorem dX8_follow_62 : decode cX8_follow 62 = .ok (.iconst 1, 1) := by decide +kernel
theorem dX8_follow_63 : decode cX8_follow 63 = .ok (.goto 4, 3) := by decide +kernel
theorem dX8_follow_66 : decode cX8_follow 66 = .ok (.iconst 0, 1) := by decide +kernel
theorem dX8_follow_67 : decode cX8_follow 67 = .ok (.istore 7, 2) := by decide +kernel
theorem dX8_follow_69 : decode cX8_follow 69 = .ok (.iload 7, 2) := by decide +kernel
theorem dX8_follow_71 : decode cX8_follow 71 = .ok (.ifCond .eq 33, 3) := by decide +kernel
theorem dX8_follow_74 : decode cX8_follow 74 = .ok (.aload_n 0, 1) := by decide +kernel
theorem dX8_follow_75 : decode cX8_follow 75 = .ok (.getfield 15, 3) := by decide +kernel
theorem dX8_follow_78 : decode cX8_follow 78 = .ok (.iload_n 3, 1) := by decide +kernel
theorem dX8_follow_79 : decode cX8_follow 79 = .ok (.iload 5, 2) := by decide +kernel
theorem dX8_follow_81 : decode cX8_follow 81 = .ok (.invokevirtual 86, 3) := by decide +kernel
theorem dX8_follow_84 : decode cX8_follow 84 = .ok (.iload 6, 2) := by decide +kernel
theorem dX8_follow_86 : decode cX8_follow 86 = .ok (.if_icmp .eq 18, 3) := by decide +kernel
theorem dX8_follow_89 : decode cX8_follow 89 = .ok (.aload_n 0, 1) := by decide +kernel
theorem dX8_follow_90 : decode cX8_follow 90 = .ok (.getfield 15, 3) := by decide +kernel
theorem dX8_follow_93 : decode cX8_follow 93 = .ok (.iload_n 3, 1) := by decide +kernel
theorem dX8_follow_94 : decode cX8_follow 94 = .ok (.iload 5, 2) := by decide +kernel
theorem dX8_follow_96 : decode cX8_follow 96 = .ok (.iload 6, 2) := by decide +kernel
theorem dX8_follow_98 : decode cX8_follow 98 = .ok (.invokevirtual 89, 3) := by decide +kernel
theorem dX8_follow_101 : decode cX8_follow 101 = .ok (.iinc 2 1, 3) := by decide +kernel
theorem dX8_follow_104 : decode cX8_follow 104 = .ok (.iinc 5 1, 3) := by decide +kernel
theorem dX8_follow_107 : decode cX8_follow 107 = .ok (.goto (-81), 3) := by decide +kernel
theorem dX8_follow_110 : decode cX8_follow 110 = .ok (.iinc 3 1, 3) := by decide +kernel
theorem dX8_follow_113 : decode cX8_follow 113 = .ok (.goto (-109), 3) := by decide +kernel
theorem dX8_follow_116 : decode cX8_follow 116 = .ok (.iload_n 2, 1) := by decide +kernel
theorem dX8_follow_117 : decode cX8_follow 117 = .ok (.ireturn, 1) := by decide +kernel
theorem dX8_run_0 : decode cX8_run 0 = .ok (.iload_n 2, 1) := by decide +kernel
theorem dX8_run_1 : decode cX8_run 1 = .ok (.istore 5, 2) := by decide +kernel
theorem dX8_run_3 : decode cX8_run 3 = .ok (.iload 4, 2) := by decide +kernel
theorem dX8_run_5 : decode cX8_run 5 = .ok (.invokestatic 93, 3) := by decide +kernel
theorem dX8_run_8 : decode cX8_run 8 = .ok (.istore 6, 2) := by decide +kernel
theorem dX8_run_10 : decode cX8_run 10 = .ok (.iconst 0, 1) := by decide +kernel
theorem dX8_run_11 : decode cX8_run 11 = .ok (.istore 7, 2) := by decide +kernel
theorem dX8_run_13 : decode cX8_run 13 = .ok (.iload 7, 2) := by decide +kernel
theorem dX8_run_15 : decode cX8_run 15 = .ok (.iload_n 3, 1) := by decide +kernel
theorem dX8_run_16 : decode cX8_run 16 = .ok (.if_icmp .ge 30, 3) := by decide +kernel
theorem dX8_run_19 : decode cX8_run 19 = .ok (.aload_n 0, 1) := by decide +kernel
theorem dX8_run_20 : decode cX8_run 20 = .ok (.getfield 19, 3) := by decide +kernel
theorem dX8_run_23 : decode cX8_run 23 = .ok (.iload_n 1, 1) := by decide +kernel
theorem dX8_run_24 : decode cX8_run 24 = .ok (.iload 5, 2) := by decide +kernel
theorem dX8_run_26 : decode cX8_run 26 = .ok (.iload 6, 2) := by decide +kernel
theorem dX8_run_28 : decode cX8_run 28 = .ok (.invokevirtual 96, 3) := by decide +kernel
theorem dX8_run_31 : decode cX8_run 31 = .ok (.istore 5, 2) := by decide +kernel
theorem dX8_run_33 : decode cX8_run 33 = .ok (.iload 6, 2) := by decide +kernel
theorem dX8_run_35 : decode cX8_run 35 = .ok (.invokestatic 93, 3) := by decide +kernel
theorem dX8_run_38 : decode cX8_run 38 = .ok (.istore 6, 2) := by decide +kernel
theorem dX8_run_40 : decode cX8_run 40 = .ok (.iinc 7 1, 3) := by decide +kernel
theorem dX8_run_43 : decode cX8_run 43 = .ok (.goto (-30), 3) := by decide +kernel
theorem dX8_run_46 : decode cX8_run 46 = .ok (.iload 5, 2) := by decide +kernel
theorem dX8_run_48 : decode cX8_run 48 = .ok (.ireturn, 1) := by decide +kernel
theorem dX8_fewest_0 : decode cX8_fewest 0 = .ok (.aload_n 0, 1) := by decide +kernel
theorem dX8_fewest_1 : decode cX8_fewest 1 = .ok (.getfield 23, 3) := by decide +kernel
theorem dX8_fewest_4 : decode cX8_fewest 4 = .ok (.aload_n 1, 1) := by decide +kernel
theorem dX8_fewest_5 : decode cX8_fewest 5 = .ok (.invokevirtual 27, 3) := by decide +kernel
theorem dX8_fewest_8 : decode cX8_fewest 8 = .ok (.iconst 0, 1) := by decide +kernel
theorem dX8_fewest_9 : decode cX8_fewest 9 = .ok (.istore_n 3, 1) := by decide +kernel
theorem dX8_fewest_10 : decode cX8_fewest 10 = .ok (.iload_n 3, 1) := by decide +kernel
theorem dX8_fewest_11 : decode cX8_fewest 11 = .ok (.aload_n 0, 1) := by decide +kernel
theorem dX8_fewest_12 : decode cX8_fewest 12 = .ok (.getfield 15, 3) := by decide +kernel
theorem dX8_fewest_15 : decode cX8_fewest 15 = .ok (.getfield 83, 3) := by decide +kernel
theorem dX8_fewest_18 : decode cX8_fewest 18 = .ok (.if_icmp .gt 60, 3) := by decide +kernel
theorem dX8_fewest_21 : decode cX8_fewest 21 = .ok (.iconst 0, 1) := by decide +kernel
theorem dX8_fewest_22 : decode cX8_fewest 22 = .ok (.istore 4, 2) := by decide +kernel
theorem dX8_fewest_24 : decode cX8_fewest 24 = .ok (.iload 4, 2) := by decide +kernel
theorem dX8_fewest_26 : decode cX8_fewest 26 = .ok (.aload_n 0, 1) := by decide +kernel
theorem dX8_fewest_27 : decode cX8_fewest 27 = .ok (.getfield 15, 3) := by decide +kernel
theorem dX8_fewest_30 : decode cX8_fewest 30 = .ok (.getfield 99, 3) := by decide +kernel
theorem dX8_fewest_33 : decode cX8_fewest 33 = .ok (.if_icmp .ge 39, 3) := by decide +kernel
theorem dX8_fewest_36 : decode cX8_fewest 36 = .ok (.iload 4, 2) := by decide +kernel
theorem dX8_fewest_38 : decode cX8_fewest 38 = .ok (.invokestatic 102, 3) := by decide +kernel
theorem dX8_fewest_41 : decode cX8_fewest 41 = .ok (.iload_n 3, 1) := by decide +kernel
theorem dX8_fewest_42 : decode cX8_fewest 42 = .ok (.if_icmp .ne 24, 3) := by decide +kernel
theorem dX8_fewest_45 : decode cX8_fewest 45 = .ok (.aload_n 0, 1) := by decide +kernel
theorem dX8_fewest_46 : decode cX8_fewest 46 = .ok (.getfield 23, 3) := by decide +kernel
theorem dX8_fewest_49 : decode cX8_fewest 49 = .ok (.aload_n 1, 1) := by decide +kernel
theorem dX8_fewest_50 : decode cX8_fewest 50 = .ok (.iload 4, 2) := by decide +kernel
theorem dX8_fewest_52 : decode cX8_fewest 52 = .ok (.iconst 0, 1) := by decide +kernel
theorem dX8_fewest_53 : decode cX8_fewest 53 = .ok (.invokevirtual 39, 3) := by decide +kernel
theorem dX8_fewest_56 : decode cX8_fewest 56 = .ok (.iload_n 2, 1) := by decide +kernel
theorem dX8_fewest_57 : decode cX8_fewest 57 = .ok (.ishr, 1) := by decide +kernel
theorem dX8_fewest_58 : decode cX8_fewest 58 = .ok (.iconst 1, 1) := by decide +kernel
theorem dX8_fewest_59 : decode cX8_fewest 59 = .ok (.iand, 1) := by decide +kernel
theorem dX8_fewest_60 : decode cX8_fewest 60 = .ok (.ifCond .eq 6, 3) := by decide +kernel
theorem dX8_fewest_63 : decode cX8_fewest 63 = .ok (.iload 4, 2) := by decide +kernel
theorem dX8_fewest_65 : decode cX8_fewest 65 = .ok (.ireturn, 1) := by decide +kernel
theorem dX8_fewest_66 : decode cX8_fewest 66 = .ok (.iinc 4 1, 3) := by decide +kernel
theorem dX8_fewest_69 : decode cX8_fewest 69 = .ok (.goto (-45), 3) := by decide +kernel
theorem dX8_fewest_72 : decode cX8_fewest 72 = .ok (.iinc 3 1, 3) := by decide +kernel
theorem dX8_fewest_75 : decode cX8_fewest 75 = .ok (.goto (-65), 3) := by decide +kernel
theorem dX8_fewest_78 : decode cX8_fewest 78 = .ok (.bipush (-9), 2) := by decide +kernel
theorem dX8_fewest_80 : decode cX8_fewest 80 = .ok (.ireturn, 1) := by decide +kernel
theorem dX8_nextSeed_0 : decode cX8_nextSeed 0 = .ok (.ldc 107, 2) := by decide +kernel
theorem dX8_nextSeed_2 : decode cX8_nextSeed 2 = .ok (.iload_n 0, 1) := by decide +kernel
theorem dX8_nextSeed_3 : decode cX8_nextSeed 3 = .ok (.imul, 1) := by decide +kernel
theorem dX8_nextSeed_4 : decode cX8_nextSeed 4 = .ok (.sipush 12345, 3) := by decide +kernel
theorem dX8_nextSeed_7 : decode cX8_nextSeed 7 = .ok (.iadd, 1) := by decide +kernel
theorem dX8_nextSeed_8 : decode cX8_nextSeed 8 = .ok (.ldc 108, 2) := by decide +kernel
theorem dX8_nextSeed_10 : decode cX8_nextSeed 10 = .ok (.iand, 1) := by decide +kernel
theorem dX8_nextSeed_11 : decode cX8_nextSeed 11 = .ok (.ireturn, 1) := by decide +kernel
theorem dX9_init_0 : decode cX9_init 0 = .ok (.aload_n 0, 1) := by decide +kernel
theorem dX9_init_1 : decode cX9_init 1 = .ok (.invokespecial 1, 3) := by decide +kernel
theorem dX9_init_4 : decode cX9_init 4 = .ok (.aload_n 0, 1) := by decide +kernel
theorem dX9_init_5 : decode cX9_init 5 = .ok (.bipush 8, 2) := by decide +kernel
theorem dX9_init_7 : decode cX9_init 7 = .ok (.anewarray 9, 3) := by decide +kernel
theorem dX9_init_10 : decode cX9_init 10 = .ok (.putfield 11, 3) := by decide +kernel
theorem dX9_init_13 : decode cX9_init 13 = .ok (.aload_n 0, 1) := by decide +kernel
theorem dX9_init_14 : decode cX9_init 14 = .ok (.iconst 0, 1) := by decide +kernel
theorem dX9_init_15 : decode cX9_init 15 = .ok (.putfield 15, 3) := by decide +kernel
theorem dX9_init_18 : decode cX9_init 18 = .ok (.iconst 1, 1) := by decide +kernel
theorem dX9_init_19 : decode cX9_init 19 = .ok (.iconst 4, 1) := by decide +kernel
theorem dX9_init_20 : decode cX9_init 20 = .ok (.iload_n 1, 1) := by decide +kernel
theorem dX9_init_21 : decode cX9_init 21 = .ok (.invokestatic 19, 3) := by decide +kernel
theorem dX9_init_24 : decode cX9_init 24 = .ok (.invokestatic 25, 3) := by decide +kernel
theorem dX9_init_27 : decode cX9_init 27 = .ok (.istore_n 2, 1) := by decide +kernel
theorem dX9_init_28 : decode cX9_init 28 = .ok (.aload_n 0, 1) := by decide +kernel
theorem dX9_init_29 : decode cX9_init 29 = .ok (.new 28, 3) := by decide +kernel
theorem dX9_init_32 : decode cX9_init 32 = .ok (.dup, 1) := by decide +kernel
theorem dX9_init_33 : decode cX9_init 33 = .ok (.iload_n 2, 1) := by decide +kernel
theorem dX9_init_34 : decode cX9_init 34 = .ok (.invokespecial 30, 3) := by decide +kernel
theorem dX9_init_37 : decode cX9_init 37 = .ok (.putfield 33, 3) := by decide +kernel
theorem dX9_init_40 : decode cX9_init 40 = .ok (.aload_n 0, 1) := by decide +kernel
theorem dX9_init_41 : decode cX9_init 41 = .ok (.new 37, 3) := by decide +kernel
theorem dX9_init_44 : decode cX9_init 44 = .ok (.dup, 1) := by decide +kernel
theorem dX9_init_45 : decode cX9_init 45 = .ok (.iload_n 2, 1) := by decide +kernel
theorem dX9_init_46 : decode cX9_init 46 = .ok (.invokespecial 39, 3) := by decide +kernel
theorem dX9_init_49 : decode cX9_init 49 = .ok (.putfield 40, 3) := by decide +kernel
theorem dX9_init_52 : decode cX9_init 52 = .ok (.aload_n 0, 1) := by decide +kernel
theorem dX9_init_53 : decode cX9_init 53 = .ok (.new 44, 3) := by decide +kernel
theorem dX9_init_56 : decode cX9_init 56 = .ok (.dup, 1) := by decide +kernel
theorem dX9_init_57 : decode cX9_init 57 = .ok (.aload_n 0, 1) := by decide +kernel
theorem dX9_init_58 : decode cX9_init 58 = .ok (.getfield 33, 3) := by decide +kernel
theorem dX9_init_61 : decode cX9_init 61 = .ok (.invokespecial 46, 3) := by decide +kernel
theorem dX9_init_64 : decode cX9_init 64 = .ok (.putfield 49, 3) := by decide +kernel
theorem dX9_init_67 : decode cX9_init 67 = .ok (.aload_n 0, 1) := by decide +kernel
theorem dX9_init_68 : decode cX9_init 68 = .ok (.new 53, 3) := by decide +kernel
theorem dX9_init_71 : decode cX9_init 71 = .ok (.dup, 1) := by decide +kernel
theorem dX9_init_72 : decode cX9_init 72 = .ok (.iload_n 2, 1) := by decide +kernel
theorem dX9_init_73 : decode cX9_init 73 = .ok (.invokespecial 55, 3) := by decide +kernel
theorem dX9_init_76 : decode cX9_init 76 = .ok (.putfield 56, 3) := by decide +kernel
theorem dX9_init_79 : decode cX9_init 79 = .ok (.aload_n 0, 1) := by decide +kernel
theorem dX9_init_80 : decode cX9_init 80 = .ok (.new 60, 3) := by decide +kernel
theorem dX9_init_83 : decode cX9_init 83 = .ok (.dup, 1) := by decide +kernel
theorem dX9_init_84 : decode cX9_init 84 = .ok (.aload_n 0, 1) := by decide +kernel
theorem dX9_init_85 : decode cX9_init 85 = .ok (.getfield 33, 3) := by decide +kernel
theorem dX9_init_88 : decode cX9_init 88 = .ok (.aload_n 0, 1) := by decide +kernel
theorem dX9_init_89 : decode cX9_init 89 = .ok (.getfield 49, 3) := by decide +kernel
theorem dX9_init_92 : decode cX9_init 92 = .ok (.invokespecial 62, 3) := by decide +kernel
theorem dX9_init_95 : decode cX9_init 95 = .ok (.putfield 65, 3) := by decide +kernel
theorem dX9_init_98 : decode cX9_init 98 = .ok (.aload_n 0, 1) := by decide +kernel
theorem dX9_init_99 : decode cX9_init 99 = .ok (.new 69, 3) := by decide +kernel
theorem dX9_init_102 : decode cX9_init 102 = .ok (.dup, 1) := by decide +kernel
theorem dX9_init_103 : decode cX9_init 103 = .ok (.aload_n 0, 1) := by decide +kernel
theorem dX9_init_104 : decode cX9_init 104 = .ok (.getfield 33, 3) := by decide +kernel
theorem dX9_init_107 : decode cX9_init 107 = .ok (.aload_n 0, 1) := by decide +kernel
theorem dX9_init_108 : decode cX9_init 108 = .ok (.getfield 49, 3) := by decide +kernel
theorem dX9_init_111 : decode cX9_init 111 = .ok (.aload_n 0, 1) := by decide +kernel
theorem dX9_init_112 : decode cX9_init 112 = .ok (.getfield 65, 3) := by decide +kernel
theorem dX9_init_115 : decode cX9_init 115 = .ok (.invokespecial 71, 3) := by decide +kernel
theorem dX9_init_118 : decode cX9_init 118 = .ok (.putfield 74, 3) := by decide +kernel
theorem dX9_init_121 : decode cX9_init 121 = .ok (.aload_n 0, 1) := by decide +kernel
theorem dX9_init_122 : decode cX9_init 122 = .ok (.new 78, 3) := by decide +kernel
theorem dX9_init_125 : decode cX9_init 125 = .ok (.dup, 1) := by decide +kernel
theorem dX9_init_126 : decode cX9_init 126 = .ok (.aload_n 0, 1) := by decide +kernel
theorem dX9_init_127 : decode cX9_init 127 = .ok (.getfield 33, 3) := by decide +kernel
theorem dX9_init_130 : decode cX9_init 130 = .ok (.aload_n 0, 1) := by decide +kernel
theorem dX9_init_131 : decode cX9_init 131 = .ok (.getfield 49, 3) := by decide +kernel
theorem dX9_init_134 : decode cX9_init 134 = .ok (.invokespecial 80, 3) := by decide +kernel
theorem dX9_init_137 : decode cX9_init 137 = .ok (.putfield 81, 3) := by decide +kernel
theorem dX9_init_140 : decode cX9_init 140 = .ok (.iconst 0, 1) := by decide +kernel
theorem dX9_init_141 : decode cX9_init 141 = .ok (.istore_n 3, 1) := by decide +kernel
theorem dX9_init_142 : decode cX9_init 142 = .ok (.iload_n 3, 1) := by decide +kernel
theorem dX9_init_143 : decode cX9_init 143 = .ok (.aload_n 0, 1) := by decide +kernel
theorem dX9_init_144 : decode cX9_init 144 = .ok (.getfield 11, 3) := by decide +kernel
theorem dX9_init_147 : decode cX9_init 147 = .ok (.arraylength, 1) := by decide +kernel
theorem dX9_init_148 : decode cX9_init 148 = .ok (.if_icmp .ge 22, 3) := by decide +kernel
theorem dX9_init_151 : decode cX9_init 151 = .ok (.aload_n 0, 1) := by decide +kernel
theorem dX9_init_152 : decode cX9_init 152 = .ok (.getfield 11, 3) := by decide +kernel
theorem dX9_init_155 : decode cX9_init 155 = .ok (.iload_n 3, 1) := by decide +kernel
theorem dX9_init_156 : decode cX9_init 156 = .ok (.new 9, 3) := by decide +kernel
theorem dX9_init_159 : decode cX9_init 159 = .ok (.dup, 1) := by decide +kernel
theorem dX9_init_160 : decode cX9_init 160 = .ok (.invokespecial 85, 3) := by decide +kernel
theorem dX9_init_163 : decode cX9_init 163 = .ok (.aastore, 1) := by decide +kernel
theorem dX9_init_164 : decode cX9_init 164 = .ok (.iinc 3 1, 3) := by decide +kernel
theorem dX9_init_167 : decode cX9_init 167 = .ok (.goto (-25), 3) := by decide +kernel
theorem dX9_init_170 : decode cX9_init 170 = .ok (.return_, 1) := by decide +kernel
theorem dX9_agents_0 : decode cX9_agents 0 = .ok (.aload_n 0, 1) := by decide +kernel
theorem dX9_agents_1 : decode cX9_agents 1 = .ok (.getfield 33, 3) := by decide +kernel
theorem dX9_agents_4 : decode cX9_agents 4 = .ok (.getfield 86, 3) := by decide +kernel
theorem dX9_agents_7 : decode cX9_agents 7 = .ok (.ireturn, 1) := by decide +kernel
theorem dX9_addState_0 : decode cX9_addState 0 = .ok (.aload_n 0, 1) := by decide +kernel
theorem dX9_addState_1 : decode cX9_addState 1 = .ok (.getfield 33, 3) := by decide +kernel
theorem dX9_addState_4 : decode cX9_addState 4 = .ok (.getfield 89, 3) := by decide +kernel
theorem dX9_addState_7 : decode cX9_addState 7 = .ok (.bipush 12, 2) := by decide +kernel
theorem dX9_addState_9 : decode cX9_addState 9 = .ok (.if_icmp .lt 6, 3) := by decide +kernel
theorem dX9_addState_12 : decode cX9_addState 12 = .ok (.bipush (-2), 2) := by decide +kernel
theorem dX9_addState_14 : decode cX9_addState 14 = .ok (.ireturn, 1) := by decide +kernel
theorem dX9_addState_15 : decode cX9_addState 15 = .ok (.aload_n 0, 1) := by decide +kernel
theorem dX9_addState_16 : decode cX9_addState 16 = .ok (.getfield 40, 3) := by decide +kernel
theorem dX9_addState_19 : decode cX9_addState 19 = .ok (.aload_n 0, 1) := by decide +kernel
theorem dX9_addState_20 : decode cX9_addState 20 = .ok (.getfield 33, 3) := by decide +kernel
theorem dX9_addState_23 : decode cX9_addState 23 = .ok (.invokevirtual 92, 3) := by decide +kernel
theorem dX9_addState_26 : decode cX9_addState 26 = .ok (.aload_n 0, 1) := by decide +kernel
theorem dX9_addState_27 : decode cX9_addState 27 = .ok (.getfield 33, 3) := by decide +kernel
theorem dX9_addState_30 : decode cX9_addState 30 = .ok (.invokevirtual 95, 3) := by decide +kernel
theorem dX9_addState_33 : decode cX9_addState 33 = .ok (.ireturn, 1) := by decide +kernel
theorem dX9_states_0 : decode cX9_states 0 = .ok (.aload_n 0, 1) := by decide +kernel
theorem dX9_states_1 : decode cX9_states 1 = .ok (.getfield 33, 3) := by decide +kernel
theorem dX9_states_4 : decode cX9_states 4 = .ok (.getfield 89, 3) := by decide +kernel
theorem dX9_states_7 : decode cX9_states 7 = .ok (.ireturn, 1) := by decide +kernel
theorem dX9_setActions_0 : decode cX9_setActions 0 = .ok (.aload_n 0, 1) := by decide +kernel
theorem dX9_setActions_1 : decode cX9_setActions 1 = .ok (.getfield 33, 3) := by decide +kernel
theorem dX9_setActions_4 : decode cX9_setActions 4 = .ok (.iload_n 1, 1) := by decide +kernel
theorem dX9_setActions_5 : decode cX9_setActions 5 = .ok (.iload_n 2, 1) := by decide +kernel
theorem dX9_setActions_6 : decode cX9_setActions 6 = .ok (.invokevirtual 99, 3) := by decide +kernel
theorem dX9_setActions_9 : decode cX9_setActions 9 = .ok (.ifCond .eq 13, 3) := by decide +kernel
theorem dX9_setActions_12 : decode cX9_setActions 12 = .ok (.iload_n 3, 1) := by decide +kernel
theorem dX9_setActions_13 : decode cX9_setActions 13 = .ok (.iconst 1, 1) := by decide +kernel
theorem dX9_setActions_14 : decode cX9_setActions 14 = .ok (.if_icmp .lt 8, 3) := by decide +kernel
theorem dX9_setActions_17 : decode cX9_setActions 17 = .ok (.iload_n 3, 1) := by decide +kernel
theorem dX9_setActions_18 : decode cX9_setActions 18 = .ok (.iconst 3, 1) := by decide +kernel
theorem dX9_setActions_19 : decode cX9_setActions 19 = .ok (.if_icmp .le 5, 3) := by decide +kernel
theorem dX9_setActions_22 : decode cX9_setActions 22 = .ok (.iconst (-1), 1) := by decide +kernel
theorem dX9_setActions_23 : decode cX9_setActions 23 = .ok (.ireturn, 1) := by decide +kernel
theorem dX9_setActions_24 : decode cX9_setActions 24 = .ok (.aload_n 0, 1) := by decide +kernel
theorem dX9_setActions_25 : decode cX9_setActions 25 = .ok (.getfield 40, 3) := by decide +kernel
theorem dX9_setActions_28 : decode cX9_setActions 28 = .ok (.aload_n 0, 1) := by decide +kernel
theorem dX9_setActions_29 : decode cX9_setActions 29 = .ok (.getfield 33, 3) := by decide +kernel
theorem dX9_setActions_32 : decode cX9_setActions 32 = .ok (.invokevirtual 92, 3) := by decide +kernel
theorem dX9_setActions_35 : decode cX9_setActions 35 = .ok (.aload_n 0, 1) := by decide +kernel
theorem dX9_setActions_36 : decode cX9_setActions 36 = .ok (.getfield 33, 3) := by decide +kernel
theorem dX9_setActions_39 : decode cX9_setActions 39 = .ok (.iload_n 1, 1) := by decide +kernel
theorem dX9_setActions_40 : decode cX9_setActions 40 = .ok (.iload_n 2, 1) := by decide +kernel
theorem dX9_setActions_41 : decode cX9_setActions 41 = .ok (.invokevirtual 103, 3) := by decide +kernel
theorem dX9_setActions_44 : decode cX9_setActions 44 = .ok (.istore 4, 2) := by decide +kernel
theorem dX9_setActions_46 : decode cX9_setActions 46 = .ok (.aload_n 0, 1) := by decide +kernel
theorem dX9_setActions_47 : decode cX9_setActions 47 = .ok (.getfield 33, 3) := by decide +kernel
theorem dX9_setActions_50 : decode cX9_setActions 50 = .ok (.iload_n 1, 1) := by decide +kernel
theorem dX9_setActions_51 : decode cX9_setActions 51 = .ok (.iload_n 2, 1) := by decide +kernel
theorem dX9_setActions_52 : decode cX9_setActions 52 = .ok (.iload_n 3, 1) := by decide +kernel
theorem dX9_setActions_53 : decode cX9_setActions 53 = .ok (.invokevirtual 106, 3) := by decide +kernel
theorem dX9_setActions_56 : decode cX9_setActions 56 = .ok (.iload 4, 2) := by decide +kernel
theorem dX9_setActions_58 : decode cX9_setActions 58 = .ok (.ireturn, 1) := by decide +kernel
theorem dX9_actions_0 : decode cX9_actions 0 = .ok (.aload_n 0, 1) := by decide +kernel
theorem dX9_actions_1 : decode cX9_actions 1 = .ok (.getfield 33, 3) := by decide +kernel
theorem dX9_actions_4 : decode cX9_actions 4 = .ok (.iload_n 1, 1) := by decide +kernel
theorem dX9_actions_5 : decode cX9_actions 5 = .ok (.iload_n 2, 1) := by decide +kernel
theorem dX9_actions_6 : decode cX9_actions 6 = .ok (.invokevirtual 99, 3) := by decide +kernel
theorem dX9_actions_9 : decode cX9_actions 9 = .ok (.ifCond .eq 15, 3) := by decide +kernel
theorem dX9_actions_12 : decode cX9_actions 12 = .ok (.aload_n 0, 1) := by decide +kernel
theorem dX9_actions_13 : decode cX9_actions 13 = .ok (.getfield 33, 3) := by decide +kernel
theorem dX9_actions_16 : decode cX9_actions 16 = .ok (.iload_n 1, 1) := by decide +kernel
theorem dX9_actions_17 : decode cX9_actions 17 = .ok (.iload_n 2, 1) := by decide +kernel
theorem dX9_actions_18 : decode cX9_actions 18 = .ok (.invokevirtual 103, 3) := by decide +kernel
theorem dX9_actions_21 : decode cX9_actions 21 = .ok (.goto 4, 3) := by decide +kernel
theorem dX9_actions_24 : decode cX9_actions 24 = .ok (.iconst (-1), 1) := by decide +kernel
theorem dX9_actions_25 : decode cX9_actions 25 = .ok (.ireturn, 1) := by decide +kernel
theorem dX9_label_0 : decode cX9_label 0 = .ok (.aload_n 0, 1) := by decide +kernel
theorem dX9_label_1 : decode cX9_label 1 = .ok (.getfield 33, 3) := by decide +kernel
theorem dX9_label_4 : decode cX9_label 4 = .ok (.iload_n 1, 1) := by decide +kernel
theorem dX9_label_5 : decode cX9_label 5 = .ok (.invokevirtual 110, 3) := by decide +kernel
theorem dX9_label_8 : decode cX9_label 8 = .ok (.ifCond .eq 15, 3) := by decide +kernel
theorem dX9_label_11 : decode cX9_label 11 = .ok (.iload_n 2, 1) := by decide +kernel
theorem dX9_label_12 : decode cX9_label 12 = .ok (.bipush 97, 2) := by decide +kernel
theorem dX9_label_14 : decode cX9_label 14 = .ok (.if_icmp .lt 9, 3) := by decide +kernel
theorem dX9_label_17 : decode cX9_label 17 = .ok (.iload_n 2, 1) := by decide +kernel
theorem dX9_label_18 : decode cX9_label 18 = .ok (.bipush 122, 2) := by decide +kernel
theorem dX9_label_20 : decode cX9_label 20 = .ok (.if_icmp .le 5, 3) := by decide +kernel
theorem dX9_label_23 : decode cX9_label 23 = .ok (.iconst (-1), 1) := by decide +kernel
theorem dX9_label_24 : decode cX9_label 24 = .ok (.ireturn, 1) := by decide +kernel
theorem dX9_label_25 : decode cX9_label 25 = .ok (.aload_n 0, 1) := by decide +kernel
theorem dX9_label_26 : decode cX9_label 26 = .ok (.getfield 40, 3) := by decide +kernel
theorem dX9_label_29 : decode cX9_label 29 = .ok (.aload_n 0, 1) := by decide +kernel
theorem dX9_label_30 : decode cX9_label 30 = .ok (.getfield 33, 3) := by decide +kernel
theorem dX9_label_33 : decode cX9_label 33 = .ok (.invokevirtual 92, 3) := by decide +kernel
theorem dX9_label_36 : decode cX9_label 36 = .ok (.iconst 1, 1) := by decide +kernel
theorem dX9_label_37 : decode cX9_label 37 = .ok (.iload_n 2, 1) := by decide +kernel
theorem dX9_label_38 : decode cX9_label 38 = .ok (.bipush 97, 2) := by decide +kernel
theorem dX9_label_40 : decode cX9_label 40 = .ok (.isub, 1) := by decide +kernel
theorem dX9_label_41 : decode cX9_label 41 = .ok (.ishl, 1) := by decide +kernel
theorem dX9_label_42 : decode cX9_label 42 = .ok (.istore 4, 2) := by decide +kernel
theorem dX9_label_44 : decode cX9_label 44 = .ok (.aload_n 0, 1) := by decide +kernel
theorem dX9_label_45 : decode cX9_label 45 = .ok (.getfield 33, 3) := by decide +kernel
theorem dX9_label_48 : decode cX9_label 48 = .ok (.iload_n 1, 1) := by decide +kernel
theorem dX9_label_49 : decode cX9_label 49 = .ok (.invokevirtual 114, 3) := by decide +kernel
theorem dX9_label_52 : decode cX9_label 52 = .ok (.istore 5, 2) := by decide +kernel
theorem dX9_label_54 : decode cX9_label 54 = .ok (.aload_n 0, 1) := by decide +kernel
theorem dX9_label_55 : decode cX9_label 55 = .ok (.getfield 33, 3) := by decide +kernel
theorem dX9_label_58 : decode cX9_label 58 = .ok (.iload_n 1, 1) := by decide +kernel
theorem dX9_label_59 : decode cX9_label 59 = .ok (.iload_n 3, 1) := by decide +kernel
theorem dX9_label_60 : decode cX9_label 60 = .ok (.ifCond .eq 11, 3) := by decide +kernel
theorem dX9_label_63 : decode cX9_label 63 = .ok (.iload 5, 2) := by decide +kernel
theorem dX9_label_65 : decode cX9_label 65 = .ok (.iload 4, 2) := by decide +kernel
theorem dX9_label_67 : decode cX9_label 67 = .ok (.ior, 1) := by decide +kernel
theorem dX9_label_68 : decode cX9_label 68 = .ok (.goto 10, 3) := by decide +kernel
theorem dX9_label_71 : decode cX9_label 71 = .ok (.iload 5, 2) := by decide +kernel
theorem dX9_label_73 : decode cX9_label 73 = .ok (.iload 4, 2) := by decide +kernel
theorem dX9_label_75 : decode cX9_label 75 = .ok (.iconst (-1), 1) := by decide +kernel
theorem dX9_label_76 : decode cX9_label 76 = .ok (.ixor, 1) := by decide +kernel
theorem dX9_label_77 : decode cX9_label 77 = .ok (.iand, 1) := by decide +kernel
theorem dX9_label_78 : decode cX9_label 78 = .ok (.invokevirtual 118, 3) := by decide +kernel
theorem dX9_label_81 : decode cX9_label 81 = .ok (.iload 5, 2) := by decide +kernel
theorem dX9_label_83 : decode cX9_label 83 = .ok (.iload 4, 2) := by decide +kernel
theorem dX9_label_85 : decode cX9_label 85 = .ok (.iand, 1) := by decide +kernel
theorem dX9_label_86 : decode cX9_label 86 = .ok (.ifCond .eq 7, 3) := by decide +kernel
theorem dX9_label_89 : decode cX9_label 89 = .ok (.iconst 1, 1) := by decide +kernel
theorem dX9_label_90 : decode cX9_label 90 = .ok (.goto 4, 3) := by decide +kernel
theorem dX9_label_93 : decode cX9_label 93 = .ok (.iconst 0, 1) := by decide +kernel
theorem dX9_label_94 : decode cX9_label 94 = .ok (.ireturn, 1) := by decide +kernel
theorem dX9_labels_0 : decode cX9_labels 0 = .ok (.aload_n 0, 1) := by decide +kernel
theorem dX9_labels_1 : decode cX9_labels 1 = .ok (.getfield 33, 3) := by decide +kernel
theorem dX9_labels_4 : decode cX9_labels 4 = .ok (.iload_n 1, 1) := by decide +kernel
theorem dX9_labels_5 : decode cX9_labels 5 = .ok (.invokevirtual 110, 3) := by decide +kernel
theorem dX9_labels_8 : decode cX9_labels 8 = .ok (.ifCond .eq 14, 3) := by decide +kernel
theorem dX9_labels_11 : decode cX9_labels 11 = .ok (.aload_n 0, 1) := by decide +kernel
theorem dX9_labels_12 : decode cX9_labels 12 = .ok (.getfield 33, 3) := by decide +kernel
theorem dX9_labels_15 : decode cX9_labels 15 = .ok (.iload_n 1, 1) := by decide +kernel
theorem dX9_labels_16 : decode cX9_labels 16 = .ok (.invokevirtual 114, 3) := by decide +kernel
theorem dX9_labels_19 : decode cX9_labels 19 = .ok (.goto 4, 3) := by decide +kernel
theorem dX9_labels_22 : decode cX9_labels 22 = .ok (.iconst (-1), 1) := by decide +kernel
theorem dX9_labels_23 : decode cX9_labels 23 = .ok (.ireturn, 1) := by decide +kernel
theorem dX9_setMove_0 : decode cX9_setMove 0 = .ok (.aload_n 0, 1) := by decide +kernel
theorem dX9_setMove_1 : decode cX9_setMove 1 = .ok (.getfield 33, 3) := by decide +kernel
theorem dX9_setMove_4 : decode cX9_setMove 4 = .ok (.iload_n 1, 1) := by decide +kernel
theorem dX9_setMove_5 : decode cX9_setMove 5 = .ok (.iload_n 2, 1) := by decide +kernel
theorem dX9_setMove_6 : decode cX9_setMove 6 = .ok (.invokevirtual 122, 3) := by decide +kernel
theorem dX9_setMove_9 : decode cX9_setMove 9 = .ok (.istore 4, 2) := by decide +kernel
theorem dX9_setMove_11 : decode cX9_setMove 11 = .ok (.iload 4, 2) := by decide +kernel
theorem dX9_setMove_13 : decode cX9_setMove 13 = .ok (.ifCond .lt 14, 3) := by decide +kernel
theorem dX9_setMove_16 : decode cX9_setMove 16 = .ok (.aload_n 0, 1) := by decide +kernel
theorem dX9_setMove_17 : decode cX9_setMove 17 = .ok (.getfield 33, 3) := by decide +kernel
theorem dX9_setMove_20 : decode cX9_setMove 20 = .ok (.iload_n 3, 1) := by decide +kernel
theorem dX9_setMove_21 : decode cX9_setMove 21 = .ok (.invokevirtual 110, 3) := by decide +kernel
theorem dX9_setMove_24 : decode cX9_setMove 24 = .ok (.ifCond .ne 5, 3) := by decide +kernel
theorem dX9_setMove_27 : decode cX9_setMove 27 = .ok (.iconst (-1), 1) := by decide +kernel
theorem dX9_setMove_28 : decode cX9_setMove 28 = .ok (.ireturn, 1) := by decide +kernel
theorem dX9_setMove_29 : decode cX9_setMove 29 = .ok (.aload_n 0, 1) := by decide +kernel
theorem dX9_setMove_30 : decode cX9_setMove 30 = .ok (.getfield 40, 3) := by decide +kernel
theorem dX9_setMove_33 : decode cX9_setMove 33 = .ok (.aload_n 0, 1) := by decide +kernel
theorem dX9_setMove_34 : decode cX9_setMove 34 = .ok (.getfield 33, 3) := by decide +kernel
theorem dX9_setMove_37 : decode cX9_setMove 37 = .ok (.invokevirtual 92, 3) := by decide +kernel
theorem dX9_setMove_40 : decode cX9_setMove 40 = .ok (.aload_n 0, 1) := by decide +kernel
theorem dX9_setMove_41 : decode cX9_setMove 41 = .ok (.getfield 33, 3) := by decide +kernel
theorem dX9_setMove_44 : decode cX9_setMove 44 = .ok (.iload_n 1, 1) := by decide +kernel
theorem dX9_setMove_45 : decode cX9_setMove 45 = .ok (.iload_n 2, 1) := by decide +kernel
theorem dX9_setMove_46 : decode cX9_setMove 46 = .ok (.iload_n 3, 1) := by decide +kernel
theorem dX9_setMove_47 : decode cX9_setMove 47 = .ok (.invokevirtual 125, 3) := by decide +kernel
theorem dX9_setMove_50 : decode cX9_setMove 50 = .ok (.iload 4, 2) := by decide +kernel
theorem dX9_setMove_52 : decode cX9_setMove 52 = .ok (.ireturn, 1) := by decide +kernel
theorem dX9_setAll_0 : decode cX9_setAll 0 = .ok (.aload_n 0, 1) := by decide +kernel
theorem dX9_setAll_1 : decode cX9_setAll 1 = .ok (.getfield 33, 3) := by decide +kernel
theorem dX9_setAll_4 : decode cX9_setAll 4 = .ok (.iload_n 1, 1) := by decide +kernel
theorem dX9_setAll_5 : decode cX9_setAll 5 = .ok (.iload_n 2, 1) := by decide +kernel
theorem dX9_setAll_6 : decode cX9_setAll 6 = .ok (.invokevirtual 99, 3) := by decide +kernel
theorem dX9_setAll_9 : decode cX9_setAll 9 = .ok (.ifCond .eq 15, 3) := by decide +kernel
theorem dX9_setAll_12 : decode cX9_setAll 12 = .ok (.aload_n 0, 1) := by decide +kernel
theorem dX9_setAll_13 : decode cX9_setAll 13 = .ok (.getfield 33, 3) := by decide +kernel
theorem dX9_setAll_16 : decode cX9_setAll 16 = .ok (.iload 4, 2) := by decide +kernel
theorem dX9_setAll_18 : decode cX9_setAll 18 = .ok (.invokevirtual 110, 3) := by decide +kernel
theorem dX9_setAll_21 : decode cX9_setAll 21 = .ok (.ifCond .ne 5, 3) := by decide +kernel
theorem dX9_setAll_24 : decode cX9_setAll 24 = .ok (.iconst (-1), 1) := by decide +kernel
theorem dX9_setAll_25 : decode cX9_setAll 25 = .ok (.ireturn, 1) := by decide +kernel
theorem dX9_setAll_26 : decode cX9_setAll 26 = .ok (.iload_n 3, 1) := by decide +kernel
theorem dX9_setAll_27 : decode cX9_setAll 27 = .ok (.ifCond .lt 16, 3) := by decide +kernel
theorem dX9_setAll_30 : decode cX9_setAll 30 = .ok (.iload_n 3, 1) := by decide +kernel
theorem dX9_setAll_31 : decode cX9_setAll 31 = .ok (.aload_n 0, 1) := by decide +kernel
theorem dX9_setAll_32 : decode cX9_setAll 32 = .ok (.getfield 33, 3) := by decide +kernel
theorem dX9_setAll_35 : decode cX9_setAll 35 = .ok (.iload_n 1, 1) := by decide +kernel
theorem dX9_setAll_36 : decode cX9_setAll 36 = .ok (.iload_n 2, 1) := by decide +kernel
theorem dX9_setAll_37 : decode cX9_setAll 37 = .ok (.invokevirtual 103, 3) := by decide +kernel
theorem dX9_setAll_40 : decode cX9_setAll 40 = .ok (.if_icmp .lt 5, 3) := by decide +kernel
theorem dX9_setAll_43 : decode cX9_setAll 43 = .ok (.iconst (-1), 1) := by decide +kernel
theorem dX9_setAll_44 : decode cX9_setAll 44 = .ok (.ireturn, 1) := by decide +kernel
theorem dX9_setAll_45 : decode cX9_setAll 45 = .ok (.aload_n 0, 1) := by decide +kernel
theorem dX9_setAll_46 : decode cX9_setAll 46 = .ok (.getfield 40, 3) := by decide +kernel
theorem dX9_setAll_49 : decode cX9_setAll 49 = .ok (.aload_n 0, 1) := by decide +kernel
theorem dX9_setAll_50 : decode cX9_setAll 50 = .ok (.getfield 33, 3) := by decide +kernel
theorem dX9_setAll_53 : decode cX9_setAll 53 = .ok (.invokevirtual 92, 3) := by decide +kernel
theorem dX9_setAll_56 : decode cX9_setAll 56 = .ok (.aload_n 0, 1) := by decide +kernel
theorem dX9_setAll_57 : decode cX9_setAll 57 = .ok (.getfield 33, 3) := by decide +kernel
theorem dX9_setAll_60 : decode cX9_setAll 60 = .ok (.iload_n 1, 1) := by decide +kernel
theorem dX9_setAll_61 : decode cX9_setAll 61 = .ok (.iload_n 2, 1) := by decide +kernel
theorem dX9_setAll_62 : decode cX9_setAll 62 = .ok (.iload_n 3, 1) := by decide +kernel
theorem dX9_setAll_63 : decode cX9_setAll 63 = .ok (.iload 4, 2) := by decide +kernel
theorem dX9_setAll_65 : decode cX9_setAll 65 = .ok (.invokevirtual 128, 3) := by decide +kernel
theorem dX9_setAll_68 : decode cX9_setAll 68 = .ok (.ireturn, 1) := by decide +kernel
theorem dX9_next_0 : decode cX9_next 0 = .ok (.aload_n 0, 1) := by decide +kernel
theorem dX9_next_1 : decode cX9_next 1 = .ok (.getfield 33, 3) := by decide +kernel
theorem dX9_next_4 : decode cX9_next 4 = .ok (.iload_n 1, 1) := by decide +kernel
theorem dX9_next_5 : decode cX9_next 5 = .ok (.iload_n 2, 1) := by decide +kernel
theorem dX9_next_6 : decode cX9_next 6 = .ok (.invokevirtual 122, 3) := by decide +kernel
theorem dX9_next_9 : decode cX9_next 9 = .ok (.istore_n 3, 1) := by decide +kernel
theorem dX9_next_10 : decode cX9_next 10 = .ok (.iload_n 3, 1) := by decide +kernel
theorem dX9_next_11 : decode cX9_next 11 = .ok (.ifCond .ge 7, 3) := by decide +kernel
theorem dX9_next_14 : decode cX9_next 14 = .ok (.iconst (-1), 1) := by decide +kernel
theorem dX9_next_15 : decode cX9_next 15 = .ok (.goto 4, 3) := by decide +kernel
theorem dX9_next_18 : decode cX9_next 18 = .ok (.iload_n 3, 1) := by decide +kernel
theorem dX9_next_19 : decode cX9_next 19 = .ok (.ireturn, 1) := by decide +kernel
theorem dX9_moves_0 : decode cX9_moves 0 = .ok (.aload_n 0, 1) := by decide +kernel
theorem dX9_moves_1 : decode cX9_moves 1 = .ok (.getfield 33, 3) := by decide +kernel
theorem dX9_moves_4 : decode cX9_moves 4 = .ok (.iload_n 1, 1) := by decide +kernel
theorem dX9_moves_5 : decode cX9_moves 5 = .ok (.invokevirtual 110, 3) := by decide +kernel
theorem dX9_moves_8 : decode cX9_moves 8 = .ok (.ifCond .eq 14, 3) := by decide +kernel
theorem dX9_moves_11 : decode cX9_moves 11 = .ok (.aload_n 0, 1) := by decide +kernel
theorem dX9_moves_12 : decode cX9_moves 12 = .ok (.getfield 33, 3) := by decide +kernel
theorem dX9_moves_15 : decode cX9_moves 15 = .ok (.iload_n 1, 1) := by decide +kernel
theorem dX9_moves_16 : decode cX9_moves 16 = .ok (.invokevirtual 132, 3) := by decide +kernel
theorem dX9_moves_19 : decode cX9_moves 19 = .ok (.goto 4, 3) := by decide +kernel
theorem dX9_moves_22 : decode cX9_moves 22 = .ok (.iconst (-1), 1) := by decide +kernel
theorem dX9_moves_23 : decode cX9_moves 23 = .ok (.ireturn, 1) := by decide +kernel
theorem dX9_force_0 : decode cX9_force 0 = .ok (.aload_n 0, 1) := by decide +kernel
theorem dX9_force_1 : decode cX9_force 1 = .ok (.iload_n 1, 1) := by decide +kernel
theorem dX9_force_2 : decode cX9_force 2 = .ok (.iload_n 2, 1) := by decide +kernel
theorem dX9_force_3 : decode cX9_force 3 = .ok (.invokevirtual 135, 3) := by decide +kernel
theorem dX9_force_6 : decode cX9_force 6 = .ok (.ifCond .eq 14, 3) := by decide +kernel
theorem dX9_force_9 : decode cX9_force 9 = .ok (.aload_n 0, 1) := by decide +kernel
theorem dX9_force_10 : decode cX9_force 10 = .ok (.getfield 33, 3) := by decide +kernel
theorem dX9_force_13 : decode cX9_force 13 = .ok (.iload_n 3, 1) := by decide +kernel
theorem dX9_force_14 : decode cX9_force 14 = .ok (.invokevirtual 138, 3) := by decide +kernel
theorem dX9_force_17 : decode cX9_force 17 = .ok (.ifCond .ne 5, 3) := by decide +kernel
theorem dX9_force_20 : decode cX9_force 20 = .ok (.iconst (-1), 1) := by decide +kernel
theorem dX9_force_21 : decode cX9_force 21 = .ok (.ireturn, 1) := by decide +kernel
theorem dX9_force_22 : decode cX9_force 22 = .ok (.aload_n 0, 1) := by decide +kernel
theorem dX9_force_23 : decode cX9_force 23 = .ok (.getfield 49, 3) := by decide +kernel
theorem dX9_force_26 : decode cX9_force 26 = .ok (.iload_n 1, 1) := by decide +kernel
theorem dX9_force_27 : decode cX9_force 27 = .ok (.iload_n 2, 1) := by decide +kernel
theorem dX9_force_28 : decode cX9_force 28 = .ok (.iload_n 3, 1) := by decide +kernel
theorem dX9_force_29 : decode cX9_force 29 = .ok (.invokevirtual 141, 3) := by decide +kernel
theorem dX9_force_32 : decode cX9_force 32 = .ok (.ireturn, 1) := by decide +kernel
theorem dX9_reply_0 : decode cX9_reply 0 = .ok (.aload_n 0, 1) := by decide +kernel
theorem dX9_reply_1 : decode cX9_reply 1 = .ok (.iload_n 1, 1) := by decide +kernel
theorem dX9_reply_2 : decode cX9_reply 2 = .ok (.iload_n 2, 1) := by decide +kernel
theorem dX9_reply_3 : decode cX9_reply 3 = .ok (.invokevirtual 135, 3) := by decide +kernel
theorem dX9_reply_6 : decode cX9_reply 6 = .ok (.ifCond .eq 15, 3) := by decide +kernel
theorem dX9_reply_9 : decode cX9_reply 9 = .ok (.aload_n 0, 1) := by decide +kernel
theorem dX9_reply_10 : decode cX9_reply 10 = .ok (.getfield 33, 3) := by decide +kernel
theorem dX9_reply_13 : decode cX9_reply 13 = .ok (.iload 4, 2) := by decide +kernel
theorem dX9_reply_15 : decode cX9_reply 15 = .ok (.invokevirtual 138, 3) := by decide +kernel
theorem dX9_reply_18 : decode cX9_reply 18 = .ok (.ifCond .ne 5, 3) := by decide +kernel
theorem dX9_reply_21 : decode cX9_reply 21 = .ok (.iconst (-1), 1) := by decide +kernel
theorem dX9_reply_22 : decode cX9_reply 22 = .ok (.ireturn, 1) := by decide +kernel
theorem dX9_reply_23 : decode cX9_reply 23 = .ok (.aload_n 0, 1) := by decide +kernel
theorem dX9_reply_24 : decode cX9_reply 24 = .ok (.getfield 49, 3) := by decide +kernel
theorem dX9_reply_27 : decode cX9_reply 27 = .ok (.iload_n 1, 1) := by decide +kernel
theorem dX9_reply_28 : decode cX9_reply 28 = .ok (.iload_n 2, 1) := by decide +kernel
theorem dX9_reply_29 : decode cX9_reply 29 = .ok (.iload_n 3, 1) := by decide +kernel
theorem dX9_reply_30 : decode cX9_reply 30 = .ok (.invokevirtual 145, 3) := by decide +kernel
theorem dX9_reply_33 : decode cX9_reply 33 = .ok (.ifCond .ne 5, 3) := by decide +kernel
theorem dX9_reply_36 : decode cX9_reply 36 = .ok (.iconst (-1), 1) := by decide +kernel
theorem dX9_reply_37 : decode cX9_reply 37 = .ok (.ireturn, 1) := by decide +kernel
theorem dX9_reply_38 : decode cX9_reply 38 = .ok (.aload_n 0, 1) := by decide +kernel
theorem dX9_reply_39 : decode cX9_reply 39 = .ok (.getfield 49, 3) := by decide +kernel
theorem dX9_reply_42 : decode cX9_reply 42 = .ok (.iload_n 1, 1) := by decide +kernel
theorem dX9_reply_43 : decode cX9_reply 43 = .ok (.iload_n 2, 1) := by decide +kernel
theorem dX9_reply_44 : decode cX9_reply 44 = .ok (.iload_n 3, 1) := by decide +kernel
theorem dX9_reply_45 : decode cX9_reply 45 = .ok (.iload 4, 2) := by decide +kernel
theorem dX9_reply_47 : decode cX9_reply 47 = .ok (.invokevirtual 149, 3) := by decide +kernel
theorem dX9_reply_50 : decode cX9_reply 50 = .ok (.ireturn, 1) := by decide +kernel
theorem dX9_forced_0 : decode cX9_forced 0 = .ok (.aload_n 0, 1) := by decide +kernel
theorem dX9_forced_1 : decode cX9_forced 1 = .ok (.iload_n 1, 1) := by decide +kernel
theorem dX9_forced_2 : decode cX9_forced 2 = .ok (.iload_n 2, 1) := by decide +kernel
theorem dX9_forced_3 : decode cX9_forced 3 = .ok (.invokevirtual 135, 3) := by decide +kernel
theorem dX9_forced_6 : decode cX9_forced 6 = .ok (.ifCond .eq 15, 3) := by decide +kernel
theorem dX9_forced_9 : decode cX9_forced 9 = .ok (.aload_n 0, 1) := by decide +kernel
theorem dX9_forced_10 : decode cX9_forced 10 = .ok (.getfield 49, 3) := by decide +kernel
theorem dX9_forced_13 : decode cX9_forced 13 = .ok (.iload_n 1, 1) := by decide +kernel
theorem dX9_forced_14 : decode cX9_forced 14 = .ok (.iload_n 2, 1) := by decide +kernel
theorem dX9_forced_15 : decode cX9_forced 15 = .ok (.invokevirtual 152, 3) := by decide +kernel
theorem dX9_forced_18 : decode cX9_forced 18 = .ok (.goto 4, 3) := by decide +kernel
theorem dX9_forced_21 : decode cX9_forced 21 = .ok (.iconst (-1), 1) := by decide +kernel
theorem dX9_forced_22 : decode cX9_forced 22 = .ok (.ireturn, 1) := by decide +kernel
theorem dX9_type_0 : decode cX9_type 0 = .ok (.iload_n 1, 1) := by decide +kernel
theorem dX9_type_1 : decode cX9_type 1 = .ok (.bipush 32, 2) := by decide +kernel
theorem dX9_type_3 : decode cX9_type 3 = .ok (.if_icmp .lt 9, 3) := by decide +kernel
theorem dX9_type_6 : decode cX9_type 6 = .ok (.iload_n 1, 1) := by decide +kernel
theorem dX9_type_7 : decode cX9_type 7 = .ok (.bipush 126, 2) := by decide +kernel
theorem dX9_type_9 : decode cX9_type 9 = .ok (.if_icmp .le 5, 3) := by decide +kernel
theorem dX9_type_12 : decode cX9_type 12 = .ok (.iconst (-1), 1) := by decide +kernel
theorem dX9_type_13 : decode cX9_type 13 = .ok (.ireturn, 1) := by decide +kernel
theorem dX9_type_14 : decode cX9_type 14 = .ok (.aload_n 0, 1) := by decide +kernel
theorem dX9_type_15 : decode cX9_type 15 = .ok (.getfield 56, 3) := by decide +kernel
theorem dX9_type_18 : decode cX9_type 18 = .ok (.iload_n 1, 1) := by decide +kernel
theorem dX9_type_19 : decode cX9_type 19 = .ok (.invokevirtual 155, 3) := by decide +kernel
theorem dX9_type_22 : decode cX9_type 22 = .ok (.ifCond .eq 13, 3) := by decide +kernel
theorem dX9_type_25 : decode cX9_type 25 = .ok (.aload_n 0, 1) := by decide +kernel
theorem dX9_type_26 : decode cX9_type 26 = .ok (.getfield 56, 3) := by decide +kernel
theorem dX9_type_29 : decode cX9_type 29 = .ok (.getfield 158, 3) := by decide +kernel
theorem dX9_type_32 : decode cX9_type 32 = .ok (.goto 5, 3) := by decide +kernel
theorem dX9_type_35 : decode cX9_type 35 = .ok (.bipush (-2), 2) := by decide +kernel
theorem dX9_type_37 : decode cX9_type 37 = .ok (.ireturn, 1) := by decide +kernel
theorem dX9_read_0 : decode cX9_read 0 = .ok (.aload_n 0, 1) := by decide +kernel
theorem dX9_read_1 : decode cX9_read 1 = .ok (.getfield 15, 3) := by decide +kernel
theorem dX9_read_4 : decode cX9_read 4 = .ok (.ifCond .lt 15, 3) := by decide +kernel
theorem dX9_read_7 : decode cX9_read 7 = .ok (.aload_n 0, 1) := by decide +kernel
theorem dX9_read_8 : decode cX9_read 8 = .ok (.getfield 15, 3) := by decide +kernel
theorem dX9_read_11 : decode cX9_read 11 = .ok (.aload_n 0, 1) := by decide +kernel
theorem dX9_read_12 : decode cX9_read 12 = .ok (.getfield 11, 3) := by decide +kernel
theorem dX9_read_15 : decode cX9_read 15 = .ok (.arraylength, 1) := by decide +kernel
theorem dX9_read_16 : decode cX9_read 16 = .ok (.if_icmp .lt 6, 3) := by decide +kernel
theorem dX9_read_19 : decode cX9_read 19 = .ok (.bipush (-2), 2) := by decide +kernel
theorem dX9_read_21 : decode cX9_read 21 = .ok (.ireturn, 1) := by decide +kernel
theorem dX9_read_22 : decode cX9_read 22 = .ok (.aload_n 0, 1) := by decide +kernel
theorem dX9_read_23 : decode cX9_read 23 = .ok (.getfield 56, 3) := by decide +kernel
theorem dX9_read_26 : decode cX9_read 26 = .ok (.aload_n 0, 1) := by decide +kernel
theorem dX9_read_27 : decode cX9_read 27 = .ok (.getfield 11, 3) := by decide +kernel
theorem dX9_read_30 : decode cX9_read 30 = .ok (.aload_n 0, 1) := by decide +kernel
theorem dX9_read_31 : decode cX9_read 31 = .ok (.getfield 15, 3) := by decide +kernel
theorem dX9_read_34 : decode cX9_read 34 = .ok (.aaload, 1) := by decide +kernel
theorem dX9_read_35 : decode cX9_read 35 = .ok (.invokevirtual 161, 3) := by decide +kernel
theorem dX9_read_38 : decode cX9_read 38 = .ok (.istore_n 1, 1) := by decide +kernel
theorem dX9_read_39 : decode cX9_read 39 = .ok (.iload_n 1, 1) := by decide +kernel
theorem dX9_read_40 : decode cX9_read 40 = .ok (.ifCond .lt 8, 3) := by decide +kernel
theorem dX9_read_43 : decode cX9_read 43 = .ok (.bipush (-100), 2) := by decide +kernel
theorem dX9_read_45 : decode cX9_read 45 = .ok (.iload_n 1, 1) := by decide +kernel
theorem dX9_read_46 : decode cX9_read 46 = .ok (.isub, 1) := by decide +kernel
theorem dX9_read_47 : decode cX9_read 47 = .ok (.ireturn, 1) := by decide +kernel
theorem dX9_read_48 : decode cX9_read 48 = .ok (.aload_n 0, 1) := by decide +kernel
theorem dX9_read_49 : decode cX9_read 49 = .ok (.getfield 56, 3) := by decide +kernel
theorem dX9_read_52 : decode cX9_read 52 = .ok (.iconst 0, 1) := by decide +kernel
theorem dX9_read_53 : decode cX9_read 53 = .ok (.putfield 158, 3) := by decide +kernel
theorem dX9_read_56 : decode cX9_read 56 = .ok (.aload_n 0, 1) := by decide +kernel
theorem dX9_read_57 : decode cX9_read 57 = .ok (.dup, 1) := by decide +kernel
theorem dX9_read_58 : decode cX9_read 58 = .ok (.getfield 15, 3) := by decide +kernel
theorem dX9_read_61 : decode cX9_read 61 = .ok (.iconst 1, 1) := by decide +kernel
theorem dX9_read_62 : decode cX9_read 62 = .ok (.iadd, 1) := by decide +kernel
theorem dX9_read_63 : decode cX9_read 63 = .ok (.putfield 15, 3) := by decide +kernel
theorem dX9_read_66 : decode cX9_read 66 = .ok (.aload_n 0, 1) := by decide +kernel
theorem dX9_read_67 : decode cX9_read 67 = .ok (.getfield 15, 3) := by decide +kernel
theorem dX9_read_70 : decode cX9_read 70 = .ok (.iconst 1, 1) := by decide +kernel
theorem dX9_read_71 : decode cX9_read 71 = .ok (.isub, 1) := by decide +kernel
theorem dX9_read_72 : decode cX9_read 72 = .ok (.ireturn, 1) := by decide +kernel
theorem dX9_forget_0 : decode cX9_forget 0 = .ok (.aload_n 0, 1) := by decide +kernel
theorem dX9_forget_1 : decode cX9_forget 1 = .ok (.getfield 15, 3) := by decide +kernel
theorem dX9_forget_4 : decode cX9_forget 4 = .ok (.istore_n 1, 1) := by decide +kernel
theorem dX9_forget_5 : decode cX9_forget 5 = .ok (.aload_n 0, 1) := by decide +kernel
theorem dX9_forget_6 : decode cX9_forget 6 = .ok (.iconst 0, 1) := by decide +kernel
theorem dX9_forget_7 : decode cX9_forget 7 = .ok (.putfield 15, 3) := by decide +kernel
theorem dX9_forget_10 : decode cX9_forget 10 = .ok (.iload_n 1, 1) := by decide +kernel
theorem dX9_forget_11 : decode cX9_forget 11 = .ok (.ireturn, 1) := by decide +kernel
theorem dX9_formulas_0 : decode cX9_formulas 0 = .ok (.aload_n 0, 1) := by decide +kernel
theorem dX9_formulas_1 : decode cX9_formulas 1 = .ok (.getfield 15, 3) := by decide +kernel
theorem dX9_formulas_4 : decode cX9_formulas 4 = .ok (.ireturn, 1) := by decide +kernel
theorem dX9_parts_0 : decode cX9_parts 0 = .ok (.aload_n 0, 1) := by decide +kernel
theorem dX9_parts_1 : decode cX9_parts 1 = .ok (.iload_n 1, 1) := by decide +kernel
theorem dX9_parts_2 : decode cX9_parts 2 = .ok (.invokevirtual 165, 3) := by decide +kernel
theorem dX9_parts_5 : decode cX9_parts 5 = .ok (.astore_n 2, 1) := by decide +kernel
theorem dX9_parts_6 : decode cX9_parts 6 = .ok (.aload_n 2, 1) := by decide +kernel
theorem dX9_parts_7 : decode cX9_parts 7 = .ok (.ifnonnull 7, 3) := by decide +kernel
theorem dX9_parts_10 : decode cX9_parts 10 = .ok (.iconst (-1), 1) := by decide +kernel
theorem dX9_parts_11 : decode cX9_parts 11 = .ok (.goto 7, 3) := by decide +kernel
theorem dX9_parts_14 : decode cX9_parts 14 = .ok (.aload_n 2, 1) := by decide +kernel
theorem dX9_parts_15 : decode cX9_parts 15 = .ok (.getfield 169, 3) := by decide +kernel
theorem dX9_parts_18 : decode cX9_parts 18 = .ok (.ireturn, 1) := by decide +kernel
theorem dX9_where_0 : decode cX9_where 0 = .ok (.aload_n 0, 1) := by decide +kernel
theorem dX9_where_1 : decode cX9_where 1 = .ok (.iload_n 1, 1) := by decide +kernel
theorem dX9_where_2 : decode cX9_where 2 = .ok (.invokevirtual 165, 3) := by decide +kernel
theorem dX9_where_5 : decode cX9_where 5 = .ok (.astore_n 3, 1) := by decide +kernel
theorem dX9_where_6 : decode cX9_where 6 = .ok (.aload_n 3, 1) := by decide +kernel
theorem dX9_where_7 : decode cX9_where 7 = .ok (.ifnull 15, 3) := by decide +kernel
theorem dX9_where_10 : decode cX9_where 10 = .ok (.iload_n 2, 1) := by decide +kernel
theorem dX9_where_11 : decode cX9_where 11 = .ok (.ifCond .lt 11, 3) := by decide +kernel
theorem dX9_where_14 : decode cX9_where 14 = .ok (.iload_n 2, 1) := by decide +kernel
theorem dX9_where_15 : decode cX9_where 15 = .ok (.aload_n 3, 1) := by decide +kernel
theorem dX9_where_16 : decode cX9_where 16 = .ok (.getfield 169, 3) := by decide +kernel
theorem dX9_where_19 : decode cX9_where 19 = .ok (.if_icmp .lt 5, 3) := by decide +kernel
theorem dX9_where_22 : decode cX9_where 22 = .ok (.iconst (-1), 1) := by decide +kernel
theorem dX9_where_23 : decode cX9_where 23 = .ok (.ireturn, 1) := by decide +kernel
theorem dX9_where_24 : decode cX9_where 24 = .ok (.aload_n 0, 1) := by decide +kernel
theorem dX9_where_25 : decode cX9_where 25 = .ok (.getfield 65, 3) := by decide +kernel
theorem dX9_where_28 : decode cX9_where 28 = .ok (.aload_n 3, 1) := by decide +kernel
theorem dX9_where_29 : decode cX9_where 29 = .ok (.invokevirtual 172, 3) := by decide +kernel
theorem dX9_where_32 : decode cX9_where 32 = .ok (.aload_n 0, 1) := by decide +kernel
theorem dX9_where_33 : decode cX9_where 33 = .ok (.getfield 65, 3) := by decide +kernel
theorem dX9_where_36 : decode cX9_where 36 = .ok (.iload_n 2, 1) := by decide +kernel
theorem dX9_where_37 : decode cX9_where 37 = .ok (.invokevirtual 176, 3) := by decide +kernel
theorem dX9_where_40 : decode cX9_where 40 = .ok (.ireturn, 1) := by decide +kernel
theorem dX9_holds_0 : decode cX9_holds 0 = .ok (.aload_n 0, 1) := by decide +kernel
theorem dX9_holds_1 : decode cX9_holds 1 = .ok (.iload_n 1, 1) := by decide +kernel
theorem dX9_holds_2 : decode cX9_holds 2 = .ok (.invokevirtual 165, 3) := by decide +kernel
theorem dX9_holds_5 : decode cX9_holds 5 = .ok (.astore_n 3, 1) := by decide +kernel
theorem dX9_holds_6 : decode cX9_holds 6 = .ok (.aload_n 3, 1) := by decide +kernel
theorem dX9_holds_7 : decode cX9_holds 7 = .ok (.ifnull 14, 3) := by decide +kernel
theorem dX9_holds_10 : decode cX9_holds 10 = .ok (.aload_n 0, 1) := by decide +kernel
theorem dX9_holds_11 : decode cX9_holds 11 = .ok (.getfield 33, 3) := by decide +kernel
theorem dX9_holds_14 : decode cX9_holds 14 = .ok (.iload_n 2, 1) := by decide +kernel
theorem dX9_holds_15 : decode cX9_holds 15 = .ok (.invokevirtual 110, 3) := by decide +kernel
theorem dX9_holds_18 : decode cX9_holds 18 = .ok (.ifCond .ne 5, 3) := by decide +kernel
theorem dX9_holds_21 : decode cX9_holds 21 = .ok (.iconst (-1), 1) := by decide +kernel
theorem dX9_holds_22 : decode cX9_holds 22 = .ok (.ireturn, 1) := by decide +kernel
theorem dX9_holds_23 : decode cX9_holds 23 = .ok (.aload_n 0, 1) := by decide +kernel
theorem dX9_holds_24 : decode cX9_holds 24 = .ok (.getfield 65, 3) := by decide +kernel
theorem dX9_holds_27 : decode cX9_holds 27 = .ok (.aload_n 3, 1) := by decide +kernel
theorem dX9_holds_28 : decode cX9_holds 28 = .ok (.invokevirtual 179, 3) := by decide +kernel
theorem dX9_holds_31 : decode cX9_holds 31 = .ok (.iload_n 2, 1) := by decide +kernel
theorem dX9_holds_32 : decode cX9_holds 32 = .ok (.ishr, 1) := by decide +kernel
theorem dX9_holds_33 : decode cX9_holds 33 = .ok (.iconst 1, 1) := by decide +kernel
theorem dX9_holds_34 : decode cX9_holds 34 = .ok (.iand, 1) := by decide +kernel
theorem dX9_holds_35 : decode cX9_holds 35 = .ok (.ireturn, 1) := by decide +kernel
theorem dX9_rank_0 : decode cX9_rank 0 = .ok (.aload_n 0, 1) := by decide +kernel
theorem dX9_rank_1 : decode cX9_rank 1 = .ok (.iload_n 1, 1) := by decide +kernel
theorem dX9_rank_2 : decode cX9_rank 2 = .ok (.invokevirtual 165, 3) := by decide +kernel
theorem dX9_rank_5 : decode cX9_rank 5 = .ok (.astore_n 3, 1) := by decide +kernel
theorem dX9_rank_6 : decode cX9_rank 6 = .ok (.aload_n 3, 1) := by decide +kernel
theorem dX9_rank_7 : decode cX9_rank 7 = .ok (.ifnull 14, 3) := by decide +kernel
theorem dX9_rank_10 : decode cX9_rank 10 = .ok (.aload_n 0, 1) := by decide +kernel
theorem dX9_rank_11 : decode cX9_rank 11 = .ok (.getfield 33, 3) := by decide +kernel
theorem dX9_rank_14 : decode cX9_rank 14 = .ok (.iload_n 2, 1) := by decide +kernel
theorem dX9_rank_15 : decode cX9_rank 15 = .ok (.invokevirtual 110, 3) := by decide +kernel
theorem dX9_rank_18 : decode cX9_rank 18 = .ok (.ifCond .ne 5, 3) := by decide +kernel
theorem dX9_rank_21 : decode cX9_rank 21 = .ok (.iconst (-1), 1) := by decide +kernel
theorem dX9_rank_22 : decode cX9_rank 22 = .ok (.ireturn, 1) := by decide +kernel
theorem dX9_rank_23 : decode cX9_rank 23 = .ok (.aload_n 3, 1) := by decide +kernel
theorem dX9_rank_24 : decode cX9_rank 24 = .ok (.invokevirtual 187, 3) := by decide +kernel
theorem dX9_rank_27 : decode cX9_rank 27 = .ok (.bipush 7, 2) := by decide +kernel
theorem dX9_rank_29 : decode cX9_rank 29 = .ok (.if_icmp .eq 15, 3) := by decide +kernel
theorem dX9_rank_32 : decode cX9_rank 32 = .ok (.aload_n 3, 1) := by decide +kernel
theorem dX9_rank_33 : decode cX9_rank 33 = .ok (.invokevirtual 187, 3) := by decide +kernel
theorem dX9_rank_36 : decode cX9_rank 36 = .ok (.bipush 9, 2) := by decide +kernel
theorem dX9_rank_38 : decode cX9_rank 38 = .ok (.if_icmp .eq 6, 3) := by decide +kernel
theorem dX9_rank_41 : decode cX9_rank 41 = .ok (.bipush (-3), 2) := by decide +kernel
theorem dX9_rank_43 : decode cX9_rank 43 = .ok (.ireturn, 1) := by decide +kernel
theorem dX9_rank_44 : decode cX9_rank 44 = .ok (.aload_n 0, 1) := by decide +kernel
theorem dX9_rank_45 : decode cX9_rank 45 = .ok (.getfield 65, 3) := by decide +kernel
theorem dX9_rank_48 : decode cX9_rank 48 = .ok (.aload_n 3, 1) := by decide +kernel
theorem dX9_rank_49 : decode cX9_rank 49 = .ok (.invokevirtual 172, 3) := by decide +kernel
theorem dX9_rank_52 : decode cX9_rank 52 = .ok (.aload_n 0, 1) := by decide +kernel
theorem dX9_rank_53 : decode cX9_rank 53 = .ok (.getfield 65, 3) := by decide +kernel
theorem dX9_rank_56 : decode cX9_rank 56 = .ok (.aload_n 3, 1) := by decide +kernel
theorem dX9_rank_57 : decode cX9_rank 57 = .ok (.aload_n 3, 1) := by decide +kernel
theorem dX9_rank_58 : decode cX9_rank 58 = .ok (.invokevirtual 190, 3) := by decide +kernel
theorem dX9_rank_61 : decode cX9_rank 61 = .ok (.iconst 0, 1) := by decide +kernel
theorem dX9_rank_62 : decode cX9_rank 62 = .ok (.invokevirtual 193, 3) := by decide +kernel
theorem dX9_rank_65 : decode cX9_rank 65 = .ok (.pop, 1) := by decide +kernel
theorem dX9_rank_66 : decode cX9_rank 66 = .ok (.aload_n 0, 1) := by decide +kernel
theorem dX9_rank_67 : decode cX9_rank 67 = .ok (.getfield 65, 3) := by decide +kernel
theorem dX9_rank_70 : decode cX9_rank 70 = .ok (.iload_n 2, 1) := by decide +kernel
theorem dX9_rank_71 : decode cX9_rank 71 = .ok (.invokevirtual 197, 3) := by decide +kernel
theorem dX9_rank_74 : decode cX9_rank 74 = .ok (.istore 4, 2) := by decide +kernel
theorem dX9_rank_76 : decode cX9_rank 76 = .ok (.iload 4, 2) := by decide +kernel
theorem dX9_rank_78 : decode cX9_rank 78 = .ok (.ifCond .ge 8, 3) := by decide +kernel
theorem dX9_rank_81 : decode cX9_rank 81 = .ok (.bipush (-9), 2) := by decide +kernel
theorem dX9_rank_83 : decode cX9_rank 83 = .ok (.goto 5, 3) := by decide +kernel
theorem dX9_rank_86 : decode cX9_rank 86 = .ok (.iload 4, 2) := by decide +kernel
theorem dX9_rank_88 : decode cX9_rank 88 = .ok (.ireturn, 1) := by decide +kernel
theorem dX9_strategy_0 : decode cX9_strategy 0 = .ok (.aload_n 0, 1) := by decide +kernel
theorem dX9_strategy_1 : decode cX9_strategy 1 = .ok (.iload_n 1, 1) := by decide +kernel
theorem dX9_strategy_2 : decode cX9_strategy 2 = .ok (.invokevirtual 165, 3) := by decide +kernel
theorem dX9_strategy_5 : decode cX9_strategy 5 = .ok (.astore_n 3, 1) := by decide +kernel
theorem dX9_strategy_6 : decode cX9_strategy 6 = .ok (.aload_n 3, 1) := by decide +kernel
theorem dX9_strategy_7 : decode cX9_strategy 7 = .ok (.ifnull 14, 3) := by decide +kernel
theorem dX9_strategy_10 : decode cX9_strategy 10 = .ok (.aload_n 0, 1) := by decide +kernel
theorem dX9_strategy_11 : decode cX9_strategy 11 = .ok (.getfield 33, 3) := by decide +kernel
theorem dX9_strategy_14 : decode cX9_strategy 14 = .ok (.iload_n 2, 1) := by decide +kernel
theorem dX9_strategy_15 : decode cX9_strategy 15 = .ok (.invokevirtual 110, 3) := by decide +kernel
theorem dX9_strategy_18 : decode cX9_strategy 18 = .ok (.ifCond .ne 5, 3) := by decide +kernel
theorem dX9_strategy_21 : decode cX9_strategy 21 = .ok (.iconst (-1), 1) := by decide +kernel
theorem dX9_strategy_22 : decode cX9_strategy 22 = .ok (.ireturn, 1) := by decide +kernel
theorem dX9_strategy_23 : decode cX9_strategy 23 = .ok (.aload_n 3, 1) := by decide +kernel
theorem dX9_strategy_24 : decode cX9_strategy 24 = .ok (.invokevirtual 200, 3) := by decide +kernel
theorem dX9_strategy_27 : decode cX9_strategy 27 = .ok (.ifCond .ne 6, 3) := by decide +kernel
theorem dX9_strategy_30 : decode cX9_strategy 30 = .ok (.bipush (-3), 2) := by decide +kernel
theorem dX9_strategy_32 : decode cX9_strategy 32 = .ok (.ireturn, 1) := by decide +kernel
theorem dX9_strategy_33 : decode cX9_strategy 33 = .ok (.aload_n 0, 1) := by decide +kernel
theorem dX9_strategy_34 : decode cX9_strategy 34 = .ok (.getfield 74, 3) := by decide +kernel
theorem dX9_strategy_37 : decode cX9_strategy 37 = .ok (.aload_n 3, 1) := by decide +kernel
theorem dX9_strategy_38 : decode cX9_strategy 38 = .ok (.invokevirtual 204, 3) := by decide +kernel
theorem dX9_strategy_41 : decode cX9_strategy 41 = .ok (.aload_n 0, 1) := by decide +kernel
theorem dX9_strategy_42 : decode cX9_strategy 42 = .ok (.getfield 74, 3) := by decide +kernel
theorem dX9_strategy_45 : decode cX9_strategy 45 = .ok (.aload_n 3, 1) := by decide +kernel
theorem dX9_strategy_46 : decode cX9_strategy 46 = .ok (.iload_n 2, 1) := by decide +kernel
theorem dX9_strategy_47 : decode cX9_strategy 47 = .ok (.invokevirtual 207, 3) := by decide +kernel
theorem dX9_strategy_50 : decode cX9_strategy 50 = .ok (.ireturn, 1) := by decide +kernel
theorem dX9_plan_0 : decode cX9_plan 0 = .ok (.aload_n 0, 1) := by decide +kernel
theorem dX9_plan_1 : decode cX9_plan 1 = .ok (.getfield 33, 3) := by decide +kernel
theorem dX9_plan_4 : decode cX9_plan 4 = .ok (.iload_n 1, 1) := by decide +kernel
theorem dX9_plan_5 : decode cX9_plan 5 = .ok (.iload_n 2, 1) := by decide +kernel
theorem dX9_plan_6 : decode cX9_plan 6 = .ok (.invokevirtual 99, 3) := by decide +kernel
theorem dX9_plan_9 : decode cX9_plan 9 = .ok (.ifCond .eq 12, 3) := by decide +kernel
theorem dX9_plan_12 : decode cX9_plan 12 = .ok (.iload_n 3, 1) := by decide +kernel
theorem dX9_plan_13 : decode cX9_plan 13 = .ok (.ifCond .lt 8, 3) := by decide +kernel
theorem dX9_plan_16 : decode cX9_plan 16 = .ok (.iload_n 3, 1) := by decide +kernel
theorem dX9_plan_17 : decode cX9_plan 17 = .ok (.iconst 3, 1) := by decide +kernel
theorem dX9_plan_18 : decode cX9_plan 18 = .ok (.if_icmp .lt 5, 3) := by decide +kernel
theorem dX9_plan_21 : decode cX9_plan 21 = .ok (.iconst (-1), 1) := by decide +kernel
theorem dX9_plan_22 : decode cX9_plan 22 = .ok (.ireturn, 1) := by decide +kernel
theorem dX9_plan_23 : decode cX9_plan 23 = .ok (.aload_n 0, 1) := by decide +kernel
theorem dX9_plan_24 : decode cX9_plan 24 = .ok (.getfield 40, 3) := by decide +kernel
theorem dX9_plan_27 : decode cX9_plan 27 = .ok (.aload_n 0, 1) := by decide +kernel
theorem dX9_plan_28 : decode cX9_plan 28 = .ok (.getfield 33, 3) := by decide +kernel
theorem dX9_plan_31 : decode cX9_plan 31 = .ok (.invokevirtual 92, 3) := by decide +kernel
theorem dX9_plan_34 : decode cX9_plan 34 = .ok (.aload_n 0, 1) := by decide +kernel
theorem dX9_plan_35 : decode cX9_plan 35 = .ok (.getfield 33, 3) := by decide +kernel
theorem dX9_plan_38 : decode cX9_plan 38 = .ok (.iload_n 1, 1) := by decide +kernel
theorem dX9_plan_39 : decode cX9_plan 39 = .ok (.iload_n 2, 1) := by decide +kernel
theorem dX9_plan_40 : decode cX9_plan 40 = .ok (.invokevirtual 211, 3) := by decide +kernel
theorem dX9_plan_43 : decode cX9_plan 43 = .ok (.istore 4, 2) := by decide +kernel
theorem dX9_plan_45 : decode cX9_plan 45 = .ok (.aload_n 0, 1) := by decide +kernel
theorem dX9_plan_46 : decode cX9_plan 46 = .ok (.getfield 33, 3) := by decide +kernel
theorem dX9_plan_49 : decode cX9_plan 49 = .ok (.iload_n 1, 1) := by decide +kernel
theorem dX9_plan_50 : decode cX9_plan 50 = .ok (.iload_n 2, 1) := by decide +kernel
theorem dX9_plan_51 : decode cX9_plan 51 = .ok (.iload_n 3, 1) := by decide +kernel
theorem dX9_plan_52 : decode cX9_plan 52 = .ok (.invokevirtual 214, 3) := by decide +kernel
theorem dX9_plan_55 : decode cX9_plan 55 = .ok (.iload 4, 2) := by decide +kernel
theorem dX9_plan_57 : decode cX9_plan 57 = .ok (.ireturn, 1) := by decide +kernel
theorem dX9_adopt_0 : decode cX9_adopt 0 = .ok (.aload_n 0, 1) := by decide +kernel
theorem dX9_adopt_1 : decode cX9_adopt 1 = .ok (.iload_n 1, 1) := by decide +kernel
theorem dX9_adopt_2 : decode cX9_adopt 2 = .ok (.invokevirtual 165, 3) := by decide +kernel
theorem dX9_adopt_5 : decode cX9_adopt 5 = .ok (.astore_n 2, 1) := by decide +kernel
theorem dX9_adopt_6 : decode cX9_adopt 6 = .ok (.aload_n 2, 1) := by decide +kernel
theorem dX9_adopt_7 : decode cX9_adopt 7 = .ok (.ifnonnull 5, 3) := by decide +kernel
theorem dX9_adopt_10 : decode cX9_adopt 10 = .ok (.iconst (-1), 1) := by decide +kernel
theorem dX9_adopt_11 : decode cX9_adopt 11 = .ok (.ireturn, 1) := by decide +kernel
theorem dX9_adopt_12 : decode cX9_adopt 12 = .ok (.aload_n 2, 1) := by decide +kernel
theorem dX9_adopt_13 : decode cX9_adopt 13 = .ok (.invokevirtual 200, 3) := by decide +kernel
theorem dX9_adopt_16 : decode cX9_adopt 16 = .ok (.ifCond .ne 6, 3) := by decide +kernel
theorem dX9_adopt_19 : decode cX9_adopt 19 = .ok (.bipush (-3), 2) := by decide +kernel
theorem dX9_adopt_21 : decode cX9_adopt 21 = .ok (.ireturn, 1) := by decide +kernel
theorem dX9_adopt_22 : decode cX9_adopt 22 = .ok (.aload_n 0, 1) := by decide +kernel
theorem dX9_adopt_23 : decode cX9_adopt 23 = .ok (.getfield 40, 3) := by decide +kernel
theorem dX9_adopt_26 : decode cX9_adopt 26 = .ok (.aload_n 0, 1) := by decide +kernel
theorem dX9_adopt_27 : decode cX9_adopt 27 = .ok (.getfield 33, 3) := by decide +kernel
theorem dX9_adopt_30 : decode cX9_adopt 30 = .ok (.invokevirtual 92, 3) := by decide +kernel
theorem dX9_adopt_33 : decode cX9_adopt 33 = .ok (.aload_n 0, 1) := by decide +kernel
theorem dX9_adopt_34 : decode cX9_adopt 34 = .ok (.getfield 74, 3) := by decide +kernel
theorem dX9_adopt_37 : decode cX9_adopt 37 = .ok (.aload_n 2, 1) := by decide +kernel
theorem dX9_adopt_38 : decode cX9_adopt 38 = .ok (.invokevirtual 204, 3) := by decide +kernel
theorem dX9_adopt_41 : decode cX9_adopt 41 = .ok (.aload_n 0, 1) := by decide +kernel
theorem dX9_adopt_42 : decode cX9_adopt 42 = .ok (.getfield 74, 3) := by decide +kernel
theorem dX9_adopt_45 : decode cX9_adopt 45 = .ok (.aload_n 2, 1) := by decide +kernel
theorem dX9_adopt_46 : decode cX9_adopt 46 = .ok (.invokevirtual 217, 3) := by decide +kernel
theorem dX9_adopt_49 : decode cX9_adopt 49 = .ok (.ireturn, 1) := by decide +kernel
theorem dX9_planned_0 : decode cX9_planned 0 = .ok (.aload_n 0, 1) := by decide +kernel
theorem dX9_planned_1 : decode cX9_planned 1 = .ok (.getfield 33, 3) := by decide +kernel
theorem dX9_planned_4 : decode cX9_planned 4 = .ok (.iload_n 1, 1) := by decide +kernel
theorem dX9_planned_5 : decode cX9_planned 5 = .ok (.iload_n 2, 1) := by decide +kernel
theorem dX9_planned_6 : decode cX9_planned 6 = .ok (.invokevirtual 99, 3) := by decide +kernel
theorem dX9_planned_9 : decode cX9_planned 9 = .ok (.ifCond .eq 15, 3) := by decide +kernel
theorem dX9_planned_12 : decode cX9_planned 12 = .ok (.aload_n 0, 1) := by decide +kernel
theorem dX9_planned_13 : decode cX9_planned 13 = .ok (.getfield 33, 3) := by decide +kernel
theorem dX9_planned_16 : decode cX9_planned 16 = .ok (.iload_n 1, 1) := by decide +kernel
theorem dX9_planned_17 : decode cX9_planned 17 = .ok (.iload_n 2, 1) := by decide +kernel
theorem dX9_planned_18 : decode cX9_planned 18 = .ok (.invokevirtual 211, 3) := by decide +kernel
theorem dX9_planned_21 : decode cX9_planned 21 = .ok (.goto 4, 3) := by decide +kernel
theorem dX9_planned_24 : decode cX9_planned 24 = .ok (.iconst (-1), 1) := by decide +kernel
theorem dX9_planned_25 : decode cX9_planned 25 = .ok (.ireturn, 1) := by decide +kernel
theorem dX9_enforced_0 : decode cX9_enforced 0 = .ok (.aload_n 0, 1) := by decide +kernel
theorem dX9_enforced_1 : decode cX9_enforced 1 = .ok (.iload_n 1, 1) := by decide +kernel
theorem dX9_enforced_2 : decode cX9_enforced 2 = .ok (.invokevirtual 165, 3) := by decide +kernel
theorem dX9_enforced_5 : decode cX9_enforced 5 = .ok (.astore_n 2, 1) := by decide +kernel
theorem dX9_enforced_6 : decode cX9_enforced 6 = .ok (.aload_n 2, 1) := by decide +kernel
theorem dX9_enforced_7 : decode cX9_enforced 7 = .ok (.ifnonnull 5, 3) := by decide +kernel
theorem dX9_enforced_10 : decode cX9_enforced 10 = .ok (.iconst (-1), 1) := by decide +kernel
theorem dX9_enforced_11 : decode cX9_enforced 11 = .ok (.ireturn, 1) := by decide +kernel
theorem dX9_enforced_12 : decode cX9_enforced 12 = .ok (.aload_n 2, 1) := by decide +kernel
theorem dX9_enforced_13 : decode cX9_enforced 13 = .ok (.invokevirtual 200, 3) := by decide +kernel
theorem dX9_enforced_16 : decode cX9_enforced 16 = .ok (.ifCond .ne 6, 3) := by decide +kernel
theorem dX9_enforced_19 : decode cX9_enforced 19 = .ok (.bipush (-3), 2) := by decide +kernel
theorem dX9_enforced_21 : decode cX9_enforced 21 = .ok (.ireturn, 1) := by decide +kernel
theorem dX9_enforced_22 : decode cX9_enforced 22 = .ok (.aload_n 0, 1) := by decide +kernel
theorem dX9_enforced_23 : decode cX9_enforced 23 = .ok (.getfield 65, 3) := by decide +kernel
theorem dX9_enforced_26 : decode cX9_enforced 26 = .ok (.aload_n 2, 1) := by decide +kernel
theorem dX9_enforced_27 : decode cX9_enforced 27 = .ok (.invokevirtual 172, 3) := by decide +kernel
theorem dX9_enforced_30 : decode cX9_enforced 30 = .ok (.aload_n 0, 1) := by decide +kernel
theorem dX9_enforced_31 : decode cX9_enforced 31 = .ok (.getfield 65, 3) := by decide +kernel
theorem dX9_enforced_34 : decode cX9_enforced 34 = .ok (.aload_n 2, 1) := by decide +kernel
theorem dX9_enforced_35 : decode cX9_enforced 35 = .ok (.aload_n 2, 1) := by decide +kernel
theorem dX9_enforced_36 : decode cX9_enforced 36 = .ok (.invokevirtual 190, 3) := by decide +kernel
theorem dX9_enforced_39 : decode cX9_enforced 39 = .ok (.iconst 1, 1) := by decide +kernel
theorem dX9_enforced_40 : decode cX9_enforced 40 = .ok (.invokevirtual 193, 3) := by decide +kernel
theorem dX9_enforced_43 : decode cX9_enforced 43 = .ok (.ireturn, 1) := by decide +kernel
theorem dX9_play_0 : decode cX9_play 0 = .ok (.aload_n 0, 1) := by decide +kernel
theorem dX9_play_1 : decode cX9_play 1 = .ok (.iload_n 1, 1) := by decide +kernel
theorem dX9_play_2 : decode cX9_play 2 = .ok (.invokevirtual 165, 3) := by decide +kernel
theorem dX9_play_5 : decode cX9_play 5 = .ok (.astore 5, 2) := by decide +kernel
theorem dX9_play_7 : decode cX9_play 7 = .ok (.aload 5, 2) := by decide +kernel
theorem dX9_play_9 : decode cX9_play 9 = .ok (.ifnull 25, 3) := by decide +kernel
theorem dX9_play_12 : decode cX9_play 12 = .ok (.aload_n 0, 1) := by decide +kernel
theorem dX9_play_13 : decode cX9_play 13 = .ok (.getfield 33, 3) := by decide +kernel
theorem dX9_play_16 : decode cX9_play 16 = .ok (.iload_n 2, 1) := by decide +kernel
theorem dX9_play_17 : decode cX9_play 17 = .ok (.invokevirtual 110, 3) := by decide +kernel
theorem dX9_play_20 : decode cX9_play 20 = .ok (.ifCond .eq 14, 3) := by decide +kernel
theorem dX9_play_23 : decode cX9_play 23 = .ok (.iload_n 3, 1) := by decide +kernel
theorem dX9_play_24 : decode cX9_play 24 = .ok (.ifCond .lt 10, 3) := by decide +kernel
theorem dX9_play_27 : decode cX9_play 27 = .ok (.iload_n 3, 1) := by decide +kernel
theorem dX9_play_28 : decode cX9_play 28 = .ok (.sipush 200, 3) := by decide +kernel
theorem dX9_play_31 : decode cX9_play 31 = .ok (.if_icmp .le 5, 3) := by decide +kernel
theorem dX9_play_34 : decode cX9_play 34 = .ok (.iconst (-1), 1) := by decide +kernel
theorem dX9_play_35 : decode cX9_play 35 = .ok (.ireturn, 1) := by decide +kernel
theorem dX9_play_36 : decode cX9_play 36 = .ok (.aload 5, 2) := by decide +kernel
theorem dX9_play_38 : decode cX9_play 38 = .ok (.invokevirtual 200, 3) := by decide +kernel
theorem dX9_play_41 : decode cX9_play 41 = .ok (.ifCond .ne 6, 3) := by decide +kernel
theorem dX9_play_44 : decode cX9_play 44 = .ok (.bipush (-3), 2) := by decide +kernel
theorem dX9_play_46 : decode cX9_play 46 = .ok (.ireturn, 1) := by decide +kernel
theorem dX9_play_47 : decode cX9_play 47 = .ok (.aload_n 0, 1) := by decide +kernel
theorem dX9_play_48 : decode cX9_play 48 = .ok (.getfield 74, 3) := by decide +kernel
theorem dX9_play_51 : decode cX9_play 51 = .ok (.aload 5, 2) := by decide +kernel
theorem dX9_play_53 : decode cX9_play 53 = .ok (.invokevirtual 190, 3) := by decide +kernel
theorem dX9_play_56 : decode cX9_play 56 = .ok (.iload_n 2, 1) := by decide +kernel
theorem dX9_play_57 : decode cX9_play 57 = .ok (.iload_n 3, 1) := by decide +kernel
theorem dX9_play_58 : decode cX9_play 58 = .ok (.iload 4, 2) := by decide +kernel
theorem dX9_play_60 : decode cX9_play 60 = .ok (.invokevirtual 220, 3) := by decide +kernel
theorem dX9_play_63 : decode cX9_play 63 = .ok (.ireturn, 1) := by decide +kernel
theorem dX9_smallest_0 : decode cX9_smallest 0 = .ok (.aload_n 0, 1) := by decide +kernel
theorem dX9_smallest_1 : decode cX9_smallest 1 = .ok (.iload_n 1, 1) := by decide +kernel
theorem dX9_smallest_2 : decode cX9_smallest 2 = .ok (.invokevirtual 165, 3) := by decide +kernel
theorem dX9_smallest_5 : decode cX9_smallest 5 = .ok (.astore_n 3, 1) := by decide +kernel
theorem dX9_smallest_6 : decode cX9_smallest 6 = .ok (.aload_n 3, 1) := by decide +kernel
theorem dX9_smallest_7 : decode cX9_smallest 7 = .ok (.ifnull 14, 3) := by decide +kernel
theorem dX9_smallest_10 : decode cX9_smallest 10 = .ok (.aload_n 0, 1) := by decide +kernel
theorem dX9_smallest_11 : decode cX9_smallest 11 = .ok (.getfield 33, 3) := by decide +kernel
theorem dX9_smallest_14 : decode cX9_smallest 14 = .ok (.iload_n 2, 1) := by decide +kernel
theorem dX9_smallest_15 : decode cX9_smallest 15 = .ok (.invokevirtual 110, 3) := by decide +kernel
theorem dX9_smallest_18 : decode cX9_smallest 18 = .ok (.ifCond .ne 5, 3) := by decide +kernel
theorem dX9_smallest_21 : decode cX9_smallest 21 = .ok (.iconst (-1), 1) := by decide +kernel
theorem dX9_smallest_22 : decode cX9_smallest 22 = .ok (.ireturn, 1) := by decide +kernel
theorem dX9_smallest_23 : decode cX9_smallest 23 = .ok (.aload_n 3, 1) := by decide +kernel
theorem dX9_smallest_24 : decode cX9_smallest 24 = .ok (.invokevirtual 200, 3) := by decide +kernel
theorem dX9_smallest_27 : decode cX9_smallest 27 = .ok (.ifCond .ne 6, 3) := by decide +kernel
theorem dX9_smallest_30 : decode cX9_smallest 30 = .ok (.bipush (-3), 2) := by decide +kernel
theorem dX9_smallest_32 : decode cX9_smallest 32 = .ok (.ireturn, 1) := by decide +kernel
theorem dX9_smallest_33 : decode cX9_smallest 33 = .ok (.aload_n 0, 1) := by decide +kernel
theorem dX9_smallest_34 : decode cX9_smallest 34 = .ok (.getfield 74, 3) := by decide +kernel
theorem dX9_smallest_37 : decode cX9_smallest 37 = .ok (.aload_n 3, 1) := by decide +kernel
theorem dX9_smallest_38 : decode cX9_smallest 38 = .ok (.iload_n 2, 1) := by decide +kernel
theorem dX9_smallest_39 : decode cX9_smallest 39 = .ok (.invokevirtual 223, 3) := by decide +kernel
theorem dX9_smallest_42 : decode cX9_smallest 42 = .ok (.ireturn, 1) := by decide +kernel
theorem dX9_classes_0 : decode cX9_classes 0 = .ok (.aload_n 0, 1) := by decide +kernel
theorem dX9_classes_1 : decode cX9_classes 1 = .ok (.getfield 81, 3) := by decide +kernel
theorem dX9_classes_4 : decode cX9_classes 4 = .ok (.invokevirtual 226, 3) := by decide +kernel
theorem dX9_classes_7 : decode cX9_classes 7 = .ok (.ireturn, 1) := by decide +kernel
theorem dX9_classOf_0 : decode cX9_classOf 0 = .ok (.aload_n 0, 1) := by decide +kernel
theorem dX9_classOf_1 : decode cX9_classOf 1 = .ok (.getfield 33, 3) := by decide +kernel
theorem dX9_classOf_4 : decode cX9_classOf 4 = .ok (.iload_n 1, 1) := by decide +kernel
theorem dX9_classOf_5 : decode cX9_classOf 5 = .ok (.invokevirtual 110, 3) := by decide +kernel
theorem dX9_classOf_8 : decode cX9_classOf 8 = .ok (.ifCond .ne 5, 3) := by decide +kernel
theorem dX9_classOf_11 : decode cX9_classOf 11 = .ok (.iconst (-1), 1) := by decide +kernel
theorem dX9_classOf_12 : decode cX9_classOf 12 = .ok (.ireturn, 1) := by decide +kernel
theorem dX9_classOf_13 : decode cX9_classOf 13 = .ok (.aload_n 0, 1) := by decide +kernel
theorem dX9_classOf_14 : decode cX9_classOf 14 = .ok (.getfield 81, 3) := by decide +kernel
theorem dX9_classOf_17 : decode cX9_classOf 17 = .ok (.invokevirtual 226, 3) := by decide +kernel
theorem dX9_classOf_20 : decode cX9_classOf 20 = .ok (.pop, 1) := by decide +kernel
theorem dX9_classOf_21 : decode cX9_classOf 21 = .ok (.aload_n 0, 1) := by decide +kernel
theorem dX9_classOf_22 : decode cX9_classOf 22 = .ok (.getfield 81, 3) := by decide +kernel
theorem dX9_classOf_25 : decode cX9_classOf 25 = .ok (.iload_n 1, 1) := by decide +kernel
theorem dX9_classOf_26 : decode cX9_classOf 26 = .ok (.invokevirtual 229, 3) := by decide +kernel
theorem dX9_classOf_29 : decode cX9_classOf 29 = .ok (.ireturn, 1) := by decide +kernel
theorem dX9_undo_0 : decode cX9_undo 0 = .ok (.aload_n 0, 1) := by decide +kernel
theorem dX9_undo_1 : decode cX9_undo 1 = .ok (.getfield 40, 3) := by decide +kernel
theorem dX9_undo_4 : decode cX9_undo 4 = .ok (.aload_n 0, 1) := by decide +kernel
theorem dX9_undo_5 : decode cX9_undo 5 = .ok (.getfield 33, 3) := by decide +kernel
theorem dX9_undo_8 : decode cX9_undo 8 = .ok (.invokevirtual 232, 3) := by decide +kernel
theorem dX9_undo_11 : decode cX9_undo 11 = .ok (.ifCond .eq 13, 3) := by decide +kernel
theorem dX9_undo_14 : decode cX9_undo 14 = .ok (.aload_n 0, 1) := by decide +kernel
theorem dX9_undo_15 : decode cX9_undo 15 = .ok (.getfield 40, 3) := by decide +kernel
theorem dX9_undo_18 : decode cX9_undo 18 = .ok (.getfield 236, 3) := by decide +kernel
theorem dX9_undo_21 : decode cX9_undo 21 = .ok (.goto 5, 3) := by decide +kernel
theorem dX9_undo_24 : decode cX9_undo 24 = .ok (.bipush (-9), 2) := by decide +kernel
theorem dX9_undo_26 : decode cX9_undo 26 = .ok (.ireturn, 1) := by decide +kernel
theorem dX9_fingerprint_0 : decode cX9_fingerprint 0 = .ok (.aload_n 0, 1) := by decide +kernel
theorem dX9_fingerprint_1 : decode cX9_fingerprint 1 = .ok (.getfield 33, 3) := by decide +kernel
theorem dX9_fingerprint_4 : decode cX9_fingerprint 4 = .ok (.ldc2_w 237, 3) := by decide +kernel
theorem dX9_fingerprint_7 : decode cX9_fingerprint 7 = .ok (.invokevirtual 239, 3) := by decide +kernel
theorem dX9_fingerprint_10 : decode cX9_fingerprint 10 = .ok (.ldc2_w 243, 3) := by decide +kernel
theorem dX9_fingerprint_13 : decode cX9_fingerprint 13 = .ok (.lmul, 1) := by decide +kernel
theorem dX9_fingerprint_14 : decode cX9_fingerprint 14 = .ok (.aload_n 0, 1) := by decide +kernel
theorem dX9_fingerprint_15 : decode cX9_fingerprint 15 = .ok (.getfield 15, 3) := by decide +kernel
theorem dX9_fingerprint_18 : decode cX9_fingerprint 18 = .ok (.i2l, 1) := by decide +kernel
theorem dX9_fingerprint_19 : decode cX9_fingerprint 19 = .ok (.ladd, 1) := by decide +kernel
theorem dX9_fingerprint_20 : decode cX9_fingerprint 20 = .ok (.lreturn, 1) := by decide +kernel
theorem dX9_isQuestion_0 : decode cX9_isQuestion 0 = .ok (.aload_n 0, 1) := by decide +kernel
theorem dX9_isQuestion_1 : decode cX9_isQuestion 1 = .ok (.getfield 33, 3) := by decide +kernel
theorem dX9_isQuestion_4 : decode cX9_isQuestion 4 = .ok (.iload_n 1, 1) := by decide +kernel
theorem dX9_isQuestion_5 : decode cX9_isQuestion 5 = .ok (.invokevirtual 245, 3) := by decide +kernel
theorem dX9_isQuestion_8 : decode cX9_isQuestion 8 = .ok (.ifCond .eq 18, 3) := by decide +kernel
theorem dX9_isQuestion_11 : decode cX9_isQuestion 11 = .ok (.aload_n 0, 1) := by decide +kernel
theorem dX9_isQuestion_12 : decode cX9_isQuestion 12 = .ok (.getfield 33, 3) := by decide +kernel
theorem dX9_isQuestion_15 : decode cX9_isQuestion 15 = .ok (.iload_n 2, 1) := by decide +kernel
theorem dX9_isQuestion_16 : decode cX9_isQuestion 16 = .ok (.invokevirtual 110, 3) := by decide +kernel
theorem dX9_isQuestion_19 : decode cX9_isQuestion 19 = .ok (.ifCond .eq 7, 3) := by decide +kernel
theorem dX9_isQuestion_22 : decode cX9_isQuestion 22 = .ok (.iconst 1, 1) := by decide +kernel
theorem dX9_isQuestion_23 : decode cX9_isQuestion 23 = .ok (.goto 4, 3) := by decide +kernel
theorem dX9_isQuestion_26 : decode cX9_isQuestion 26 = .ok (.iconst 0, 1) := by decide +kernel
theorem dX9_isQuestion_27 : decode cX9_isQuestion 27 = .ok (.ireturn, 1) := by decide +kernel
theorem dX9_formulaOf_0 : decode cX9_formulaOf 0 = .ok (.iload_n 1, 1) := by decide +kernel
theorem dX9_formulaOf_1 : decode cX9_formulaOf 1 = .ok (.ifCond .lt 20, 3) := by decide +kernel
theorem dX9_formulaOf_4 : decode cX9_formulaOf 4 = .ok (.iload_n 1, 1) := by decide +kernel
theorem dX9_formulaOf_5 : decode cX9_formulaOf 5 = .ok (.aload_n 0, 1) := by decide +kernel
theorem dX9_formulaOf_6 : decode cX9_formulaOf 6 = .ok (.getfield 15, 3) := by decide +kernel
theorem dX9_formulaOf_9 : decode cX9_formulaOf 9 = .ok (.if_icmp .ge 12, 3) := by decide +kernel
theorem dX9_formulaOf_12 : decode cX9_formulaOf 12 = .ok (.iload_n 1, 1) := by decide +kernel
theorem dX9_formulaOf_13 : decode cX9_formulaOf 13 = .ok (.aload_n 0, 1) := by decide +kernel
theorem dX9_formulaOf_14 : decode cX9_formulaOf 14 = .ok (.getfield 11, 3) := by decide +kernel
theorem dX9_formulaOf_17 : decode cX9_formulaOf 17 = .ok (.arraylength, 1) := by decide +kernel
theorem dX9_formulaOf_18 : decode cX9_formulaOf 18 = .ok (.if_icmp .lt 5, 3) := by decide +kernel
theorem dX9_formulaOf_21 : decode cX9_formulaOf 21 = .ok (.aconst_null, 1) := by decide +kernel
theorem dX9_formulaOf_22 : decode cX9_formulaOf 22 = .ok (.areturn, 1) := by decide +kernel
theorem dX9_formulaOf_23 : decode cX9_formulaOf 23 = .ok (.aload_n 0, 1) := by decide +kernel
theorem dX9_formulaOf_24 : decode cX9_formulaOf 24 = .ok (.getfield 11, 3) := by decide +kernel
theorem dX9_formulaOf_27 : decode cX9_formulaOf 27 = .ok (.iload_n 1, 1) := by decide +kernel
theorem dX9_formulaOf_28 : decode cX9_formulaOf 28 = .ok (.aaload, 1) := by decide +kernel
theorem dX9_formulaOf_29 : decode cX9_formulaOf 29 = .ok (.areturn, 1) := by decide +kernel
theorem dJ6_bitCount_0f7a4_0 : decode cJ6_bitCount_0f7a4 0 = .ok (.iload_n 0, 1) := by decide +kernel
theorem dJ6_bitCount_0f7a4_1 : decode cJ6_bitCount_0f7a4 1 = .ok (.iload_n 0, 1) := by decide +kernel
theorem dJ6_bitCount_0f7a4_2 : decode cJ6_bitCount_0f7a4 2 = .ok (.iconst 1, 1) := by decide +kernel
theorem dJ6_bitCount_0f7a4_3 : decode cJ6_bitCount_0f7a4 3 = .ok (.iushr, 1) := by decide +kernel
theorem dJ6_bitCount_0f7a4_4 : decode cJ6_bitCount_0f7a4 4 = .ok (.ldc_w 265, 3) := by decide +kernel
theorem dJ6_bitCount_0f7a4_7 : decode cJ6_bitCount_0f7a4 7 = .ok (.iand, 1) := by decide +kernel
theorem dJ6_bitCount_0f7a4_8 : decode cJ6_bitCount_0f7a4 8 = .ok (.isub, 1) := by decide +kernel
theorem dJ6_bitCount_0f7a4_9 : decode cJ6_bitCount_0f7a4 9 = .ok (.istore_n 0, 1) := by decide +kernel
theorem dJ6_bitCount_0f7a4_10 : decode cJ6_bitCount_0f7a4 10 = .ok (.iload_n 0, 1) := by decide +kernel
theorem dJ6_bitCount_0f7a4_11 : decode cJ6_bitCount_0f7a4 11 = .ok (.ldc_w 266, 3) := by decide +kernel
theorem dJ6_bitCount_0f7a4_14 : decode cJ6_bitCount_0f7a4 14 = .ok (.iand, 1) := by decide +kernel
theorem dJ6_bitCount_0f7a4_15 : decode cJ6_bitCount_0f7a4 15 = .ok (.iload_n 0, 1) := by decide +kernel
theorem dJ6_bitCount_0f7a4_16 : decode cJ6_bitCount_0f7a4 16 = .ok (.iconst 2, 1) := by decide +kernel
theorem dJ6_bitCount_0f7a4_17 : decode cJ6_bitCount_0f7a4 17 = .ok (.iushr, 1) := by decide +kernel
theorem dJ6_bitCount_0f7a4_18 : decode cJ6_bitCount_0f7a4 18 = .ok (.ldc_w 266, 3) := by decide +kernel
theorem dJ6_bitCount_0f7a4_21 : decode cJ6_bitCount_0f7a4 21 = .ok (.iand, 1) := by decide +kernel
theorem dJ6_bitCount_0f7a4_22 : decode cJ6_bitCount_0f7a4 22 = .ok (.iadd, 1) := by decide +kernel
theorem dJ6_bitCount_0f7a4_23 : decode cJ6_bitCount_0f7a4 23 = .ok (.istore_n 0, 1) := by decide +kernel
theorem dJ6_bitCount_0f7a4_24 : decode cJ6_bitCount_0f7a4 24 = .ok (.iload_n 0, 1) := by decide +kernel
theorem dJ6_bitCount_0f7a4_25 : decode cJ6_bitCount_0f7a4 25 = .ok (.iload_n 0, 1) := by decide +kernel
theorem dJ6_bitCount_0f7a4_26 : decode cJ6_bitCount_0f7a4 26 = .ok (.iconst 4, 1) := by decide +kernel
theorem dJ6_bitCount_0f7a4_27 : decode cJ6_bitCount_0f7a4 27 = .ok (.iushr, 1) := by decide +kernel
theorem dJ6_bitCount_0f7a4_28 : decode cJ6_bitCount_0f7a4 28 = .ok (.iadd, 1) := by decide +kernel
theorem dJ6_bitCount_0f7a4_29 : decode cJ6_bitCount_0f7a4 29 = .ok (.ldc_w 267, 3) := by decide +kernel
theorem dJ6_bitCount_0f7a4_32 : decode cJ6_bitCount_0f7a4 32 = .ok (.iand, 1) := by decide +kernel
theorem dJ6_bitCount_0f7a4_33 : decode cJ6_bitCount_0f7a4 33 = .ok (.istore_n 0, 1) := by decide +kernel
theorem dJ6_bitCount_0f7a4_34 : decode cJ6_bitCount_0f7a4 34 = .ok (.iload_n 0, 1) := by decide +kernel
theorem dJ6_bitCount_0f7a4_35 : decode cJ6_bitCount_0f7a4 35 = .ok (.iload_n 0, 1) := by decide +kernel
theorem dJ6_bitCount_0f7a4_36 : decode cJ6_bitCount_0f7a4 36 = .ok (.bipush 8, 2) := by decide +kernel
theorem dJ6_bitCount_0f7a4_38 : decode cJ6_bitCount_0f7a4 38 = .ok (.iushr, 1) := by decide +kernel
theorem dJ6_bitCount_0f7a4_39 : decode cJ6_bitCount_0f7a4 39 = .ok (.iadd, 1) := by decide +kernel
theorem dJ6_bitCount_0f7a4_40 : decode cJ6_bitCount_0f7a4 40 = .ok (.istore_n 0, 1) := by decide +kernel
theorem dJ6_bitCount_0f7a4_41 : decode cJ6_bitCount_0f7a4 41 = .ok (.iload_n 0, 1) := by decide +kernel
theorem dJ6_bitCount_0f7a4_42 : decode cJ6_bitCount_0f7a4 42 = .ok (.iload_n 0, 1) := by decide +kernel
theorem dJ6_bitCount_0f7a4_43 : decode cJ6_bitCount_0f7a4 43 = .ok (.bipush 16, 2) := by decide +kernel
theorem dJ6_bitCount_0f7a4_45 : decode cJ6_bitCount_0f7a4 45 = .ok (.iushr, 1) := by decide +kernel
theorem dJ6_bitCount_0f7a4_46 : decode cJ6_bitCount_0f7a4 46 = .ok (.iadd, 1) := by decide +kernel
theorem dJ6_bitCount_0f7a4_47 : decode cJ6_bitCount_0f7a4 47 = .ok (.istore_n 0, 1) := by decide +kernel
theorem dJ6_bitCount_0f7a4_48 : decode cJ6_bitCount_0f7a4 48 = .ok (.iload_n 0, 1) := by decide +kernel
theorem dJ6_bitCount_0f7a4_49 : decode cJ6_bitCount_0f7a4 49 = .ok (.bipush 63, 2) := by decide +kernel
theorem dJ6_bitCount_0f7a4_51 : decode cJ6_bitCount_0f7a4 51 = .ok (.iand, 1) := by decide +kernel
theorem dJ6_bitCount_0f7a4_52 : decode cJ6_bitCount_0f7a4 52 = .ok (.ireturn, 1) := by decide +kernel
