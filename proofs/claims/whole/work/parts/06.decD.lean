theorem dX10_plannedAction_26 : decode cX10_plannedAction 26 = .ok (.iadd, 1) := by decide +kernel
theorem dX10_plannedAction_27 : decode cX10_plannedAction 27 = .ok (.iaload, 1) := by decide +kernel
theorem dX10_plannedAction_28 : decode cX10_plannedAction 28 = .ok (.if_icmp .ge 7, 3) := by decide +kernel
theorem dX10_plannedAction_31 : decode cX10_plannedAction 31 = .ok (.iload_n 3, 1) := by decide +kernel
theorem dX10_plannedAction_32 : decode cX10_plannedAction 32 = .ok (.goto 4, 3) := by decide +kernel
theorem dX10_plannedAction_35 : decode cX10_plannedAction 35 = .ok (.iconst 0, 1) := by decide +kernel
theorem dX10_plannedAction_36 : decode cX10_plannedAction 36 = .ok (.ireturn, 1) := by decide +kernel
theorem dX10_plannedJoint_0 : decode cX10_plannedJoint 0 = .ok (.iconst 0, 1) := by decide +kernel
theorem dX10_plannedJoint_1 : decode cX10_plannedJoint 1 = .ok (.istore_n 3, 1) := by decide +kernel
theorem dX10_plannedJoint_2 : decode cX10_plannedJoint 2 = .ok (.iconst 0, 1) := by decide +kernel
theorem dX10_plannedJoint_3 : decode cX10_plannedJoint 3 = .ok (.istore 4, 2) := by decide +kernel
theorem dX10_plannedJoint_5 : decode cX10_plannedJoint 5 = .ok (.iload 4, 2) := by decide +kernel
theorem dX10_plannedJoint_7 : decode cX10_plannedJoint 7 = .ok (.aload_n 0, 1) := by decide +kernel
theorem dX10_plannedJoint_8 : decode cX10_plannedJoint 8 = .ok (.getfield 82, 3) := by decide +kernel
theorem dX10_plannedJoint_11 : decode cX10_plannedJoint 11 = .ok (.if_icmp .ge 39, 3) := by decide +kernel
theorem dX10_plannedJoint_14 : decode cX10_plannedJoint 14 = .ok (.iload_n 3, 1) := by decide +kernel
theorem dX10_plannedJoint_15 : decode cX10_plannedJoint 15 = .ok (.iload_n 1, 1) := by decide +kernel
theorem dX10_plannedJoint_16 : decode cX10_plannedJoint 16 = .ok (.iload 4, 2) := by decide +kernel
theorem dX10_plannedJoint_18 : decode cX10_plannedJoint 18 = .ok (.ishr, 1) := by decide +kernel
theorem dX10_plannedJoint_19 : decode cX10_plannedJoint 19 = .ok (.iconst 1, 1) := by decide +kernel
theorem dX10_plannedJoint_20 : decode cX10_plannedJoint 20 = .ok (.iand, 1) := by decide +kernel
theorem dX10_plannedJoint_21 : decode cX10_plannedJoint 21 = .ok (.iconst 1, 1) := by decide +kernel
theorem dX10_plannedJoint_22 : decode cX10_plannedJoint 22 = .ok (.if_icmp .ne 19, 3) := by decide +kernel
theorem dX10_plannedJoint_25 : decode cX10_plannedJoint 25 = .ok (.iload 4, 2) := by decide +kernel
theorem dX10_plannedJoint_27 : decode cX10_plannedJoint 27 = .ok (.invokestatic 97, 3) := by decide +kernel
theorem dX10_plannedJoint_30 : decode cX10_plannedJoint 30 = .ok (.aload_n 0, 1) := by decide +kernel
theorem dX10_plannedJoint_31 : decode cX10_plannedJoint 31 = .ok (.iload_n 2, 1) := by decide +kernel
theorem dX10_plannedJoint_32 : decode cX10_plannedJoint 32 = .ok (.iload 4, 2) := by decide +kernel
theorem dX10_plannedJoint_34 : decode cX10_plannedJoint 34 = .ok (.invokevirtual 206, 3) := by decide +kernel
theorem dX10_plannedJoint_37 : decode cX10_plannedJoint 37 = .ok (.imul, 1) := by decide +kernel
theorem dX10_plannedJoint_38 : decode cX10_plannedJoint 38 = .ok (.goto 4, 3) := by decide +kernel
theorem dX10_plannedJoint_41 : decode cX10_plannedJoint 41 = .ok (.iconst 0, 1) := by decide +kernel
theorem dX10_plannedJoint_42 : decode cX10_plannedJoint 42 = .ok (.iadd, 1) := by decide +kernel
theorem dX10_plannedJoint_43 : decode cX10_plannedJoint 43 = .ok (.istore_n 3, 1) := by decide +kernel
theorem dX10_plannedJoint_44 : decode cX10_plannedJoint 44 = .ok (.iinc 4 1, 3) := by decide +kernel
theorem dX10_plannedJoint_47 : decode cX10_plannedJoint 47 = .ok (.goto (-42), 3) := by decide +kernel
theorem dX10_plannedJoint_50 : decode cX10_plannedJoint 50 = .ok (.iload_n 3, 1) := by decide +kernel
theorem dX10_plannedJoint_51 : decode cX10_plannedJoint 51 = .ok (.ireturn, 1) := by decide +kernel
theorem dX10_forces_0 : decode cX10_forces 0 = .ok (.aload_n 0, 1) := by decide +kernel
theorem dX10_forces_1 : decode cX10_forces 1 = .ok (.getfield 209, 3) := by decide +kernel
theorem dX10_forces_4 : decode cX10_forces 4 = .ok (.ifCond .eq 28, 3) := by decide +kernel
theorem dX10_forces_7 : decode cX10_forces 7 = .ok (.aload_n 0, 1) := by decide +kernel
theorem dX10_forces_8 : decode cX10_forces 8 = .ok (.iload_n 1, 1) := by decide +kernel
theorem dX10_forces_9 : decode cX10_forces 9 = .ok (.iload_n 2, 1) := by decide +kernel
theorem dX10_forces_10 : decode cX10_forces 10 = .ok (.aload_n 0, 1) := by decide +kernel
theorem dX10_forces_11 : decode cX10_forces 11 = .ok (.iload_n 1, 1) := by decide +kernel
theorem dX10_forces_12 : decode cX10_forces 12 = .ok (.iload_n 2, 1) := by decide +kernel
theorem dX10_forces_13 : decode cX10_forces 13 = .ok (.invokevirtual 212, 3) := by decide +kernel
theorem dX10_forces_16 : decode cX10_forces 16 = .ok (.invokevirtual 119, 3) := by decide +kernel
theorem dX10_forces_19 : decode cX10_forces 19 = .ok (.iload_n 3, 1) := by decide +kernel
theorem dX10_forces_20 : decode cX10_forces 20 = .ok (.iconst (-1), 1) := by decide +kernel
theorem dX10_forces_21 : decode cX10_forces 21 = .ok (.ixor, 1) := by decide +kernel
theorem dX10_forces_22 : decode cX10_forces 22 = .ok (.iand, 1) := by decide +kernel
theorem dX10_forces_23 : decode cX10_forces 23 = .ok (.ifCond .ne 7, 3) := by decide +kernel
theorem dX10_forces_26 : decode cX10_forces 26 = .ok (.iconst 1, 1) := by decide +kernel
theorem dX10_forces_27 : decode cX10_forces 27 = .ok (.goto 4, 3) := by decide +kernel
theorem dX10_forces_30 : decode cX10_forces 30 = .ok (.iconst 0, 1) := by decide +kernel
theorem dX10_forces_31 : decode cX10_forces 31 = .ok (.ireturn, 1) := by decide +kernel
theorem dX10_forces_32 : decode cX10_forces 32 = .ok (.aload_n 0, 1) := by decide +kernel
theorem dX10_forces_33 : decode cX10_forces 33 = .ok (.iload_n 1, 1) := by decide +kernel
theorem dX10_forces_34 : decode cX10_forces 34 = .ok (.iload_n 2, 1) := by decide +kernel
theorem dX10_forces_35 : decode cX10_forces 35 = .ok (.iload_n 3, 1) := by decide +kernel
theorem dX10_forces_36 : decode cX10_forces 36 = .ok (.invokevirtual 142, 3) := by decide +kernel
theorem dX10_forces_39 : decode cX10_forces 39 = .ok (.bipush (-9), 2) := by decide +kernel
theorem dX10_forces_41 : decode cX10_forces 41 = .ok (.if_icmp .eq 7, 3) := by decide +kernel
theorem dX10_forces_44 : decode cX10_forces 44 = .ok (.iconst 1, 1) := by decide +kernel
theorem dX10_forces_45 : decode cX10_forces 45 = .ok (.goto 4, 3) := by decide +kernel
theorem dX10_forces_48 : decode cX10_forces 48 = .ok (.iconst 0, 1) := by decide +kernel
theorem dX10_forces_49 : decode cX10_forces 49 = .ok (.ireturn, 1) := by decide +kernel
theorem dX10_forcers_0 : decode cX10_forcers 0 = .ok (.iconst 0, 1) := by decide +kernel
theorem dX10_forcers_1 : decode cX10_forcers 1 = .ok (.istore_n 3, 1) := by decide +kernel
theorem dX10_forcers_2 : decode cX10_forcers 2 = .ok (.iconst 0, 1) := by decide +kernel
theorem dX10_forcers_3 : decode cX10_forcers 3 = .ok (.istore 4, 2) := by decide +kernel
theorem dX10_forcers_5 : decode cX10_forcers 5 = .ok (.iload 4, 2) := by decide +kernel
theorem dX10_forcers_7 : decode cX10_forcers 7 = .ok (.aload_n 0, 1) := by decide +kernel
theorem dX10_forcers_8 : decode cX10_forcers 8 = .ok (.getfield 7, 3) := by decide +kernel
theorem dX10_forcers_11 : decode cX10_forcers 11 = .ok (.sipush 1200, 3) := by decide +kernel
theorem dX10_forcers_14 : decode cX10_forcers 14 = .ok (.iaload, 1) := by decide +kernel
theorem dX10_forcers_15 : decode cX10_forcers 15 = .ok (.if_icmp .ge 31, 3) := by decide +kernel
theorem dX10_forcers_18 : decode cX10_forcers 18 = .ok (.iload_n 3, 1) := by decide +kernel
theorem dX10_forcers_19 : decode cX10_forcers 19 = .ok (.aload_n 0, 1) := by decide +kernel
theorem dX10_forcers_20 : decode cX10_forcers 20 = .ok (.iload_n 1, 1) := by decide +kernel
theorem dX10_forcers_21 : decode cX10_forcers 21 = .ok (.iload 4, 2) := by decide +kernel
theorem dX10_forcers_23 : decode cX10_forcers 23 = .ok (.iload_n 2, 1) := by decide +kernel
theorem dX10_forcers_24 : decode cX10_forcers 24 = .ok (.invokevirtual 215, 3) := by decide +kernel
theorem dX10_forcers_27 : decode cX10_forcers 27 = .ok (.ifCond .eq 10, 3) := by decide +kernel
theorem dX10_forcers_30 : decode cX10_forcers 30 = .ok (.iconst 1, 1) := by decide +kernel
theorem dX10_forcers_31 : decode cX10_forcers 31 = .ok (.iload 4, 2) := by decide +kernel
theorem dX10_forcers_33 : decode cX10_forcers 33 = .ok (.ishl, 1) := by decide +kernel
theorem dX10_forcers_34 : decode cX10_forcers 34 = .ok (.goto 4, 3) := by decide +kernel
theorem dX10_forcers_37 : decode cX10_forcers 37 = .ok (.iconst 0, 1) := by decide +kernel
theorem dX10_forcers_38 : decode cX10_forcers 38 = .ok (.ior, 1) := by decide +kernel
theorem dX10_forcers_39 : decode cX10_forcers 39 = .ok (.istore_n 3, 1) := by decide +kernel
theorem dX10_forcers_40 : decode cX10_forcers 40 = .ok (.iinc 4 1, 3) := by decide +kernel
theorem dX10_forcers_43 : decode cX10_forcers 43 = .ok (.goto (-38), 3) := by decide +kernel
theorem dX10_forcers_46 : decode cX10_forcers 46 = .ok (.iload_n 3, 1) := by decide +kernel
theorem dX10_forcers_47 : decode cX10_forcers 47 = .ok (.ireturn, 1) := by decide +kernel
theorem dX10_reaches_0 : decode cX10_reaches 0 = .ok (.iload_n 3, 1) := by decide +kernel
theorem dX10_reaches_1 : decode cX10_reaches 1 = .ok (.istore 4, 2) := by decide +kernel
theorem dX10_reaches_3 : decode cX10_reaches 3 = .ok (.iconst 0, 1) := by decide +kernel
theorem dX10_reaches_4 : decode cX10_reaches 4 = .ok (.istore 5, 2) := by decide +kernel
theorem dX10_reaches_6 : decode cX10_reaches 6 = .ok (.iload 5, 2) := by decide +kernel
theorem dX10_reaches_8 : decode cX10_reaches 8 = .ok (.bipush 12, 2) := by decide +kernel
theorem dX10_reaches_10 : decode cX10_reaches 10 = .ok (.if_icmp .ge 32, 3) := by decide +kernel
theorem dX10_reaches_13 : decode cX10_reaches 13 = .ok (.aload_n 0, 1) := by decide +kernel
theorem dX10_reaches_14 : decode cX10_reaches 14 = .ok (.getfield 67, 3) := by decide +kernel
theorem dX10_reaches_17 : decode cX10_reaches 17 = .ok (.iload 5, 2) := by decide +kernel
theorem dX10_reaches_19 : decode cX10_reaches 19 = .ok (.iload_n 3, 1) := by decide +kernel
theorem dX10_reaches_20 : decode cX10_reaches 20 = .ok (.iload 5, 2) := by decide +kernel
theorem dX10_reaches_22 : decode cX10_reaches 22 = .ok (.ishr, 1) := by decide +kernel
theorem dX10_reaches_23 : decode cX10_reaches 23 = .ok (.iconst 1, 1) := by decide +kernel
theorem dX10_reaches_24 : decode cX10_reaches 24 = .ok (.iand, 1) := by decide +kernel
theorem dX10_reaches_25 : decode cX10_reaches 25 = .ok (.iconst 1, 1) := by decide +kernel
theorem dX10_reaches_26 : decode cX10_reaches 26 = .ok (.if_icmp .ne 7, 3) := by decide +kernel
theorem dX10_reaches_29 : decode cX10_reaches 29 = .ok (.iconst 0, 1) := by decide +kernel
theorem dX10_reaches_30 : decode cX10_reaches 30 = .ok (.goto 5, 3) := by decide +kernel
theorem dX10_reaches_33 : decode cX10_reaches 33 = .ok (.bipush (-9), 2) := by decide +kernel
theorem dX10_reaches_35 : decode cX10_reaches 35 = .ok (.iastore, 1) := by decide +kernel
theorem dX10_reaches_36 : decode cX10_reaches 36 = .ok (.iinc 5 1, 3) := by decide +kernel
theorem dX10_reaches_39 : decode cX10_reaches 39 = .ok (.goto (-33), 3) := by decide +kernel
theorem dX10_reaches_42 : decode cX10_reaches 42 = .ok (.iload 4, 2) := by decide +kernel
theorem dX10_reaches_44 : decode cX10_reaches 44 = .ok (.istore 5, 2) := by decide +kernel
theorem dX10_reaches_46 : decode cX10_reaches 46 = .ok (.iconst 1, 1) := by decide +kernel
theorem dX10_reaches_47 : decode cX10_reaches 47 = .ok (.istore 6, 2) := by decide +kernel
theorem dX10_reaches_49 : decode cX10_reaches 49 = .ok (.iload 5, 2) := by decide +kernel
theorem dX10_reaches_51 : decode cX10_reaches 51 = .ok (.ifCond .eq 86, 3) := by decide +kernel
theorem dX10_reaches_54 : decode cX10_reaches 54 = .ok (.aload_n 0, 1) := by decide +kernel
theorem dX10_reaches_55 : decode cX10_reaches 55 = .ok (.iload_n 1, 1) := by decide +kernel
theorem dX10_reaches_56 : decode cX10_reaches 56 = .ok (.iload 4, 2) := by decide +kernel
theorem dX10_reaches_58 : decode cX10_reaches 58 = .ok (.invokevirtual 218, 3) := by decide +kernel
theorem dX10_reaches_61 : decode cX10_reaches 61 = .ok (.iload_n 2, 1) := by decide +kernel
theorem dX10_reaches_62 : decode cX10_reaches 62 = .ok (.iand, 1) := by decide +kernel
theorem dX10_reaches_63 : decode cX10_reaches 63 = .ok (.iload 4, 2) := by decide +kernel
theorem dX10_reaches_65 : decode cX10_reaches 65 = .ok (.iconst (-1), 1) := by decide +kernel
theorem dX10_reaches_66 : decode cX10_reaches 66 = .ok (.ixor, 1) := by decide +kernel
theorem dX10_reaches_67 : decode cX10_reaches 67 = .ok (.iand, 1) := by decide +kernel
theorem dX10_reaches_68 : decode cX10_reaches 68 = .ok (.istore 5, 2) := by decide +kernel
theorem dX10_reaches_70 : decode cX10_reaches 70 = .ok (.iconst 0, 1) := by decide +kernel
theorem dX10_reaches_71 : decode cX10_reaches 71 = .ok (.istore 7, 2) := by decide +kernel
theorem dX10_reaches_73 : decode cX10_reaches 73 = .ok (.iload 7, 2) := by decide +kernel
theorem dX10_reaches_75 : decode cX10_reaches 75 = .ok (.bipush 12, 2) := by decide +kernel
theorem dX10_reaches_77 : decode cX10_reaches 77 = .ok (.if_icmp .ge 39, 3) := by decide +kernel
theorem dX10_reaches_80 : decode cX10_reaches 80 = .ok (.aload_n 0, 1) := by decide +kernel
theorem dX10_reaches_81 : decode cX10_reaches 81 = .ok (.getfield 67, 3) := by decide +kernel
theorem dX10_reaches_84 : decode cX10_reaches 84 = .ok (.iload 7, 2) := by decide +kernel
theorem dX10_reaches_86 : decode cX10_reaches 86 = .ok (.iload 5, 2) := by decide +kernel
theorem dX10_reaches_88 : decode cX10_reaches 88 = .ok (.iload 7, 2) := by decide +kernel
theorem dX10_reaches_90 : decode cX10_reaches 90 = .ok (.ishr, 1) := by decide +kernel
theorem dX10_reaches_91 : decode cX10_reaches 91 = .ok (.iconst 1, 1) := by decide +kernel
theorem dX10_reaches_92 : decode cX10_reaches 92 = .ok (.iand, 1) := by decide +kernel
theorem dX10_reaches_93 : decode cX10_reaches 93 = .ok (.iconst 1, 1) := by decide +kernel
theorem dX10_reaches_94 : decode cX10_reaches 94 = .ok (.if_icmp .ne 8, 3) := by decide +kernel
theorem dX10_reaches_97 : decode cX10_reaches 97 = .ok (.iload 6, 2) := by decide +kernel
theorem dX10_reaches_99 : decode cX10_reaches 99 = .ok (.goto 10, 3) := by decide +kernel
theorem dX10_reaches_102 : decode cX10_reaches 102 = .ok (.aload_n 0, 1) := by decide +kernel
theorem dX10_reaches_103 : decode cX10_reaches 103 = .ok (.getfield 67, 3) := by decide +kernel
theorem dX10_reaches_106 : decode cX10_reaches 106 = .ok (.iload 7, 2) := by decide +kernel
theorem dX10_reaches_108 : decode cX10_reaches 108 = .ok (.iaload, 1) := by decide +kernel
theorem dX10_reaches_109 : decode cX10_reaches 109 = .ok (.iastore, 1) := by decide +kernel
theorem dX10_reaches_110 : decode cX10_reaches 110 = .ok (.iinc 7 1, 3) := by decide +kernel
theorem dX10_reaches_113 : decode cX10_reaches 113 = .ok (.goto (-40), 3) := by decide +kernel
theorem dX10_reaches_116 : decode cX10_reaches 116 = .ok (.iload 4, 2) := by decide +kernel
theorem dX10_reaches_118 : decode cX10_reaches 118 = .ok (.iload 5, 2) := by decide +kernel
theorem dX10_reaches_120 : decode cX10_reaches 120 = .ok (.ior, 1) := by decide +kernel
theorem dX10_reaches_121 : decode cX10_reaches 121 = .ok (.istore 4, 2) := by decide +kernel
theorem dX10_reaches_123 : decode cX10_reaches 123 = .ok (.iload 5, 2) := by decide +kernel
theorem dX10_reaches_125 : decode cX10_reaches 125 = .ok (.ifCond .ne 6, 3) := by decide +kernel
theorem dX10_reaches_128 : decode cX10_reaches 128 = .ok (.iload 4, 2) := by decide +kernel
theorem dX10_reaches_130 : decode cX10_reaches 130 = .ok (.ireturn, 1) := by decide +kernel
theorem dX10_reaches_131 : decode cX10_reaches 131 = .ok (.iinc 6 1, 3) := by decide +kernel
theorem dX10_reaches_134 : decode cX10_reaches 134 = .ok (.goto (-85), 3) := by decide +kernel
theorem dX10_reaches_137 : decode cX10_reaches 137 = .ok (.iload 4, 2) := by decide +kernel
theorem dX10_reaches_139 : decode cX10_reaches 139 = .ok (.ireturn, 1) := by decide +kernel
theorem dX10_stays_0 : decode cX10_stays 0 = .ok (.iload_n 2, 1) := by decide +kernel
theorem dX10_stays_1 : decode cX10_stays 1 = .ok (.istore_n 3, 1) := by decide +kernel
theorem dX10_stays_2 : decode cX10_stays 2 = .ok (.iload_n 3, 1) := by decide +kernel
theorem dX10_stays_3 : decode cX10_stays 3 = .ok (.aload_n 0, 1) := by decide +kernel
theorem dX10_stays_4 : decode cX10_stays 4 = .ok (.iload_n 1, 1) := by decide +kernel
theorem dX10_stays_5 : decode cX10_stays 5 = .ok (.iload_n 3, 1) := by decide +kernel
theorem dX10_stays_6 : decode cX10_stays 6 = .ok (.invokevirtual 218, 3) := by decide +kernel
theorem dX10_stays_9 : decode cX10_stays 9 = .ok (.iand, 1) := by decide +kernel
theorem dX10_stays_10 : decode cX10_stays 10 = .ok (.istore 4, 2) := by decide +kernel
theorem dX10_stays_12 : decode cX10_stays 12 = .ok (.iload 4, 2) := by decide +kernel
theorem dX10_stays_14 : decode cX10_stays 14 = .ok (.iload_n 3, 1) := by decide +kernel
theorem dX10_stays_15 : decode cX10_stays 15 = .ok (.if_icmp .eq 19, 3) := by decide +kernel
theorem dX10_stays_18 : decode cX10_stays 18 = .ok (.iload 4, 2) := by decide +kernel
theorem dX10_stays_20 : decode cX10_stays 20 = .ok (.istore_n 3, 1) := by decide +kernel
theorem dX10_stays_21 : decode cX10_stays 21 = .ok (.iload_n 3, 1) := by decide +kernel
theorem dX10_stays_22 : decode cX10_stays 22 = .ok (.aload_n 0, 1) := by decide +kernel
theorem dX10_stays_23 : decode cX10_stays 23 = .ok (.iload_n 1, 1) := by decide +kernel
theorem dX10_stays_24 : decode cX10_stays 24 = .ok (.iload_n 3, 1) := by decide +kernel
theorem dX10_stays_25 : decode cX10_stays 25 = .ok (.invokevirtual 218, 3) := by decide +kernel
theorem dX10_stays_28 : decode cX10_stays 28 = .ok (.iand, 1) := by decide +kernel
theorem dX10_stays_29 : decode cX10_stays 29 = .ok (.istore 4, 2) := by decide +kernel
theorem dX10_stays_31 : decode cX10_stays 31 = .ok (.goto (-19), 3) := by decide +kernel
theorem dX10_stays_34 : decode cX10_stays 34 = .ok (.iload_n 3, 1) := by decide +kernel
theorem dX10_stays_35 : decode cX10_stays 35 = .ok (.ireturn, 1) := by decide +kernel
theorem dX10_cannotAvoid_0 : decode cX10_cannotAvoid 0 = .ok (.iload_n 3, 1) := by decide +kernel
theorem dX10_cannotAvoid_1 : decode cX10_cannotAvoid 1 = .ok (.istore 4, 2) := by decide +kernel
theorem dX10_cannotAvoid_3 : decode cX10_cannotAvoid 3 = .ok (.iload_n 3, 1) := by decide +kernel
theorem dX10_cannotAvoid_4 : decode cX10_cannotAvoid 4 = .ok (.iload_n 2, 1) := by decide +kernel
theorem dX10_cannotAvoid_5 : decode cX10_cannotAvoid 5 = .ok (.aload_n 0, 1) := by decide +kernel
theorem dX10_cannotAvoid_6 : decode cX10_cannotAvoid 6 = .ok (.iload_n 1, 1) := by decide +kernel
theorem dX10_cannotAvoid_7 : decode cX10_cannotAvoid 7 = .ok (.aload_n 0, 1) := by decide +kernel
theorem dX10_cannotAvoid_8 : decode cX10_cannotAvoid 8 = .ok (.invokevirtual 221, 3) := by decide +kernel
theorem dX10_cannotAvoid_11 : decode cX10_cannotAvoid 11 = .ok (.iload 4, 2) := by decide +kernel
theorem dX10_cannotAvoid_13 : decode cX10_cannotAvoid 13 = .ok (.iconst (-1), 1) := by decide +kernel
theorem dX10_cannotAvoid_14 : decode cX10_cannotAvoid 14 = .ok (.ixor, 1) := by decide +kernel
theorem dX10_cannotAvoid_15 : decode cX10_cannotAvoid 15 = .ok (.iand, 1) := by decide +kernel
theorem dX10_cannotAvoid_16 : decode cX10_cannotAvoid 16 = .ok (.invokevirtual 218, 3) := by decide +kernel
theorem dX10_cannotAvoid_19 : decode cX10_cannotAvoid 19 = .ok (.iconst (-1), 1) := by decide +kernel
theorem dX10_cannotAvoid_20 : decode cX10_cannotAvoid 20 = .ok (.ixor, 1) := by decide +kernel
theorem dX10_cannotAvoid_21 : decode cX10_cannotAvoid 21 = .ok (.iand, 1) := by decide +kernel
theorem dX10_cannotAvoid_22 : decode cX10_cannotAvoid 22 = .ok (.ior, 1) := by decide +kernel
theorem dX10_cannotAvoid_23 : decode cX10_cannotAvoid 23 = .ok (.istore 5, 2) := by decide +kernel
theorem dX10_cannotAvoid_25 : decode cX10_cannotAvoid 25 = .ok (.iload 5, 2) := by decide +kernel
theorem dX10_cannotAvoid_27 : decode cX10_cannotAvoid 27 = .ok (.iload 4, 2) := by decide +kernel
theorem dX10_cannotAvoid_29 : decode cX10_cannotAvoid 29 = .ok (.if_icmp .eq 37, 3) := by decide +kernel
theorem dX10_cannotAvoid_32 : decode cX10_cannotAvoid 32 = .ok (.iload 5, 2) := by decide +kernel
theorem dX10_cannotAvoid_34 : decode cX10_cannotAvoid 34 = .ok (.istore 4, 2) := by decide +kernel
theorem dX10_cannotAvoid_36 : decode cX10_cannotAvoid 36 = .ok (.iload_n 3, 1) := by decide +kernel
theorem dX10_cannotAvoid_37 : decode cX10_cannotAvoid 37 = .ok (.iload_n 2, 1) := by decide +kernel
theorem dX10_cannotAvoid_38 : decode cX10_cannotAvoid 38 = .ok (.aload_n 0, 1) := by decide +kernel
theorem dX10_cannotAvoid_39 : decode cX10_cannotAvoid 39 = .ok (.invokevirtual 221, 3) := by decide +kernel
theorem dX10_cannotAvoid_42 : decode cX10_cannotAvoid 42 = .ok (.iand, 1) := by decide +kernel
theorem dX10_cannotAvoid_43 : decode cX10_cannotAvoid 43 = .ok (.aload_n 0, 1) := by decide +kernel
theorem dX10_cannotAvoid_44 : decode cX10_cannotAvoid 44 = .ok (.iload_n 1, 1) := by decide +kernel
theorem dX10_cannotAvoid_45 : decode cX10_cannotAvoid 45 = .ok (.aload_n 0, 1) := by decide +kernel
theorem dX10_cannotAvoid_46 : decode cX10_cannotAvoid 46 = .ok (.invokevirtual 221, 3) := by decide +kernel
theorem dX10_cannotAvoid_49 : decode cX10_cannotAvoid 49 = .ok (.iload 4, 2) := by decide +kernel
theorem dX10_cannotAvoid_51 : decode cX10_cannotAvoid 51 = .ok (.iconst (-1), 1) := by decide +kernel
theorem dX10_cannotAvoid_52 : decode cX10_cannotAvoid 52 = .ok (.ixor, 1) := by decide +kernel
theorem dX10_cannotAvoid_53 : decode cX10_cannotAvoid 53 = .ok (.iand, 1) := by decide +kernel
theorem dX10_cannotAvoid_54 : decode cX10_cannotAvoid 54 = .ok (.invokevirtual 218, 3) := by decide +kernel
theorem dX10_cannotAvoid_57 : decode cX10_cannotAvoid 57 = .ok (.iconst (-1), 1) := by decide +kernel
theorem dX10_cannotAvoid_58 : decode cX10_cannotAvoid 58 = .ok (.ixor, 1) := by decide +kernel
theorem dX10_cannotAvoid_59 : decode cX10_cannotAvoid 59 = .ok (.iand, 1) := by decide +kernel
theorem dX10_cannotAvoid_60 : decode cX10_cannotAvoid 60 = .ok (.ior, 1) := by decide +kernel
theorem dX10_cannotAvoid_61 : decode cX10_cannotAvoid 61 = .ok (.istore 5, 2) := by decide +kernel
theorem dX10_cannotAvoid_63 : decode cX10_cannotAvoid 63 = .ok (.goto (-38), 3) := by decide +kernel
theorem dX10_cannotAvoid_66 : decode cX10_cannotAvoid 66 = .ok (.iload 4, 2) := by decide +kernel
theorem dX10_cannotAvoid_68 : decode cX10_cannotAvoid 68 = .ok (.ireturn, 1) := by decide +kernel
theorem dX10_goalSet_0 : decode cX10_goalSet 0 = .ok (.iload_n 1, 1) := by decide +kernel
theorem dX10_goalSet_1 : decode cX10_goalSet 1 = .ok (.tableswitch 144 6 12 #[43, 50, 61, 68, 77, 98, 119], 43) := by decide +kernel
theorem dX10_goalSet_44 : decode cX10_goalSet 44 = .ok (.aload_n 0, 1) := by decide +kernel
theorem dX10_goalSet_45 : decode cX10_goalSet 45 = .ok (.iload_n 2, 1) := by decide +kernel
theorem dX10_goalSet_46 : decode cX10_goalSet 46 = .ok (.iload_n 3, 1) := by decide +kernel
theorem dX10_goalSet_47 : decode cX10_goalSet 47 = .ok (.invokevirtual 218, 3) := by decide +kernel
theorem dX10_goalSet_50 : decode cX10_goalSet 50 = .ok (.ireturn, 1) := by decide +kernel
theorem dX10_goalSet_51 : decode cX10_goalSet 51 = .ok (.aload_n 0, 1) := by decide +kernel
theorem dX10_goalSet_52 : decode cX10_goalSet 52 = .ok (.iload_n 2, 1) := by decide +kernel
theorem dX10_goalSet_53 : decode cX10_goalSet 53 = .ok (.aload_n 0, 1) := by decide +kernel
theorem dX10_goalSet_54 : decode cX10_goalSet 54 = .ok (.invokevirtual 221, 3) := by decide +kernel
theorem dX10_goalSet_57 : decode cX10_goalSet 57 = .ok (.iload_n 3, 1) := by decide +kernel
theorem dX10_goalSet_58 : decode cX10_goalSet 58 = .ok (.invokevirtual 224, 3) := by decide +kernel
theorem dX10_goalSet_61 : decode cX10_goalSet 61 = .ok (.ireturn, 1) := by decide +kernel
theorem dX10_goalSet_62 : decode cX10_goalSet 62 = .ok (.aload_n 0, 1) := by decide +kernel
theorem dX10_goalSet_63 : decode cX10_goalSet 63 = .ok (.iload_n 2, 1) := by decide +kernel
theorem dX10_goalSet_64 : decode cX10_goalSet 64 = .ok (.iload_n 3, 1) := by decide +kernel
theorem dX10_goalSet_65 : decode cX10_goalSet 65 = .ok (.invokevirtual 227, 3) := by decide +kernel
theorem dX10_goalSet_68 : decode cX10_goalSet 68 = .ok (.ireturn, 1) := by decide +kernel
theorem dX10_goalSet_69 : decode cX10_goalSet 69 = .ok (.aload_n 0, 1) := by decide +kernel
theorem dX10_goalSet_70 : decode cX10_goalSet 70 = .ok (.iload_n 2, 1) := by decide +kernel
theorem dX10_goalSet_71 : decode cX10_goalSet 71 = .ok (.iload_n 3, 1) := by decide +kernel
theorem dX10_goalSet_72 : decode cX10_goalSet 72 = .ok (.iload 4, 2) := by decide +kernel
theorem dX10_goalSet_74 : decode cX10_goalSet 74 = .ok (.invokevirtual 224, 3) := by decide +kernel
theorem dX10_goalSet_77 : decode cX10_goalSet 77 = .ok (.ireturn, 1) := by decide +kernel
theorem dX10_goalSet_78 : decode cX10_goalSet 78 = .ok (.aload_n 0, 1) := by decide +kernel
theorem dX10_goalSet_79 : decode cX10_goalSet 79 = .ok (.invokevirtual 221, 3) := by decide +kernel
theorem dX10_goalSet_82 : decode cX10_goalSet 82 = .ok (.aload_n 0, 1) := by decide +kernel
theorem dX10_goalSet_83 : decode cX10_goalSet 83 = .ok (.iload_n 2, 1) := by decide +kernel
theorem dX10_goalSet_84 : decode cX10_goalSet 84 = .ok (.aload_n 0, 1) := by decide +kernel
theorem dX10_goalSet_85 : decode cX10_goalSet 85 = .ok (.invokevirtual 221, 3) := by decide +kernel
theorem dX10_goalSet_88 : decode cX10_goalSet 88 = .ok (.iload_n 3, 1) := by decide +kernel
theorem dX10_goalSet_89 : decode cX10_goalSet 89 = .ok (.iconst (-1), 1) := by decide +kernel
theorem dX10_goalSet_90 : decode cX10_goalSet 90 = .ok (.ixor, 1) := by decide +kernel
theorem dX10_goalSet_91 : decode cX10_goalSet 91 = .ok (.iand, 1) := by decide +kernel
theorem dX10_goalSet_92 : decode cX10_goalSet 92 = .ok (.invokevirtual 218, 3) := by decide +kernel
theorem dX10_goalSet_95 : decode cX10_goalSet 95 = .ok (.iconst (-1), 1) := by decide +kernel
theorem dX10_goalSet_96 : decode cX10_goalSet 96 = .ok (.ixor, 1) := by decide +kernel
theorem dX10_goalSet_97 : decode cX10_goalSet 97 = .ok (.iand, 1) := by decide +kernel
theorem dX10_goalSet_98 : decode cX10_goalSet 98 = .ok (.ireturn, 1) := by decide +kernel
theorem dX10_goalSet_99 : decode cX10_goalSet 99 = .ok (.aload_n 0, 1) := by decide +kernel
theorem dX10_goalSet_100 : decode cX10_goalSet 100 = .ok (.invokevirtual 221, 3) := by decide +kernel
theorem dX10_goalSet_103 : decode cX10_goalSet 103 = .ok (.aload_n 0, 1) := by decide +kernel
theorem dX10_goalSet_104 : decode cX10_goalSet 104 = .ok (.iload_n 2, 1) := by decide +kernel
theorem dX10_goalSet_105 : decode cX10_goalSet 105 = .ok (.aload_n 0, 1) := by decide +kernel
theorem dX10_goalSet_106 : decode cX10_goalSet 106 = .ok (.invokevirtual 221, 3) := by decide +kernel
theorem dX10_goalSet_109 : decode cX10_goalSet 109 = .ok (.iload_n 3, 1) := by decide +kernel
theorem dX10_goalSet_110 : decode cX10_goalSet 110 = .ok (.iconst (-1), 1) := by decide +kernel
theorem dX10_goalSet_111 : decode cX10_goalSet 111 = .ok (.ixor, 1) := by decide +kernel
theorem dX10_goalSet_112 : decode cX10_goalSet 112 = .ok (.iand, 1) := by decide +kernel
theorem dX10_goalSet_113 : decode cX10_goalSet 113 = .ok (.invokevirtual 227, 3) := by decide +kernel
theorem dX10_goalSet_116 : decode cX10_goalSet 116 = .ok (.iconst (-1), 1) := by decide +kernel
theorem dX10_goalSet_117 : decode cX10_goalSet 117 = .ok (.ixor, 1) := by decide +kernel
theorem dX10_goalSet_118 : decode cX10_goalSet 118 = .ok (.iand, 1) := by decide +kernel
theorem dX10_goalSet_119 : decode cX10_goalSet 119 = .ok (.ireturn, 1) := by decide +kernel
theorem dX10_goalSet_120 : decode cX10_goalSet 120 = .ok (.aload_n 0, 1) := by decide +kernel
theorem dX10_goalSet_121 : decode cX10_goalSet 121 = .ok (.invokevirtual 221, 3) := by decide +kernel
theorem dX10_goalSet_124 : decode cX10_goalSet 124 = .ok (.aload_n 0, 1) := by decide +kernel
theorem dX10_goalSet_125 : decode cX10_goalSet 125 = .ok (.iload_n 2, 1) := by decide +kernel
theorem dX10_goalSet_126 : decode cX10_goalSet 126 = .ok (.aload_n 0, 1) := by decide +kernel
theorem dX10_goalSet_127 : decode cX10_goalSet 127 = .ok (.invokevirtual 221, 3) := by decide +kernel
theorem dX10_goalSet_130 : decode cX10_goalSet 130 = .ok (.aload_n 0, 1) := by decide +kernel
theorem dX10_goalSet_131 : decode cX10_goalSet 131 = .ok (.invokevirtual 221, 3) := by decide +kernel
theorem dX10_goalSet_134 : decode cX10_goalSet 134 = .ok (.iload_n 3, 1) := by decide +kernel
theorem dX10_goalSet_135 : decode cX10_goalSet 135 = .ok (.iconst (-1), 1) := by decide +kernel
theorem dX10_goalSet_136 : decode cX10_goalSet 136 = .ok (.ixor, 1) := by decide +kernel
theorem dX10_goalSet_137 : decode cX10_goalSet 137 = .ok (.iand, 1) := by decide +kernel
theorem dX10_goalSet_138 : decode cX10_goalSet 138 = .ok (.invokevirtual 224, 3) := by decide +kernel
theorem dX10_goalSet_141 : decode cX10_goalSet 141 = .ok (.iconst (-1), 1) := by decide +kernel
theorem dX10_goalSet_142 : decode cX10_goalSet 142 = .ok (.ixor, 1) := by decide +kernel
theorem dX10_goalSet_143 : decode cX10_goalSet 143 = .ok (.iand, 1) := by decide +kernel
theorem dX10_goalSet_144 : decode cX10_goalSet 144 = .ok (.ireturn, 1) := by decide +kernel
theorem dX10_goalSet_145 : decode cX10_goalSet 145 = .ok (.aload_n 0, 1) := by decide +kernel
theorem dX10_goalSet_146 : decode cX10_goalSet 146 = .ok (.iload_n 2, 1) := by decide +kernel
theorem dX10_goalSet_147 : decode cX10_goalSet 147 = .ok (.iload_n 3, 1) := by decide +kernel
theorem dX10_goalSet_148 : decode cX10_goalSet 148 = .ok (.aload_n 0, 1) := by decide +kernel
theorem dX10_goalSet_149 : decode cX10_goalSet 149 = .ok (.invokevirtual 221, 3) := by decide +kernel
theorem dX10_goalSet_152 : decode cX10_goalSet 152 = .ok (.iand, 1) := by decide +kernel
theorem dX10_goalSet_153 : decode cX10_goalSet 153 = .ok (.iload 4, 2) := by decide +kernel
theorem dX10_goalSet_155 : decode cX10_goalSet 155 = .ok (.invokevirtual 230, 3) := by decide +kernel
theorem dX10_goalSet_158 : decode cX10_goalSet 158 = .ok (.ireturn, 1) := by decide +kernel
theorem dX10_labelled_0 : decode cX10_labelled 0 = .ok (.iconst 0, 1) := by decide +kernel
theorem dX10_labelled_1 : decode cX10_labelled 1 = .ok (.istore_n 2, 1) := by decide +kernel
theorem dX10_labelled_2 : decode cX10_labelled 2 = .ok (.iconst 0, 1) := by decide +kernel
theorem dX10_labelled_3 : decode cX10_labelled 3 = .ok (.istore_n 3, 1) := by decide +kernel
theorem dX10_labelled_4 : decode cX10_labelled 4 = .ok (.iload_n 3, 1) := by decide +kernel
theorem dX10_labelled_5 : decode cX10_labelled 5 = .ok (.aload_n 0, 1) := by decide +kernel
theorem dX10_labelled_6 : decode cX10_labelled 6 = .ok (.getfield 7, 3) := by decide +kernel
theorem dX10_labelled_9 : decode cX10_labelled 9 = .ok (.sipush 1200, 3) := by decide +kernel
theorem dX10_labelled_12 : decode cX10_labelled 12 = .ok (.iaload, 1) := by decide +kernel
theorem dX10_labelled_13 : decode cX10_labelled 13 = .ok (.if_icmp .ge 29, 3) := by decide +kernel
theorem dX10_labelled_16 : decode cX10_labelled 16 = .ok (.iload_n 2, 1) := by decide +kernel
theorem dX10_labelled_17 : decode cX10_labelled 17 = .ok (.aload_n 0, 1) := by decide +kernel
theorem dX10_labelled_18 : decode cX10_labelled 18 = .ok (.getfield 7, 3) := by decide +kernel
theorem dX10_labelled_21 : decode cX10_labelled 21 = .ok (.bipush 100, 2) := by decide +kernel
theorem dX10_labelled_23 : decode cX10_labelled 23 = .ok (.iload_n 3, 1) := by decide +kernel
theorem dX10_labelled_24 : decode cX10_labelled 24 = .ok (.imul, 1) := by decide +kernel
theorem dX10_labelled_25 : decode cX10_labelled 25 = .ok (.iconst 0, 1) := by decide +kernel
theorem dX10_labelled_26 : decode cX10_labelled 26 = .ok (.iadd, 1) := by decide +kernel
theorem dX10_labelled_27 : decode cX10_labelled 27 = .ok (.iaload, 1) := by decide +kernel
theorem dX10_labelled_28 : decode cX10_labelled 28 = .ok (.iload_n 1, 1) := by decide +kernel
theorem dX10_labelled_29 : decode cX10_labelled 29 = .ok (.ishr, 1) := by decide +kernel
theorem dX10_labelled_30 : decode cX10_labelled 30 = .ok (.iconst 1, 1) := by decide +kernel
theorem dX10_labelled_31 : decode cX10_labelled 31 = .ok (.iand, 1) := by decide +kernel
theorem dX10_labelled_32 : decode cX10_labelled 32 = .ok (.iload_n 3, 1) := by decide +kernel
theorem dX10_labelled_33 : decode cX10_labelled 33 = .ok (.ishl, 1) := by decide +kernel
theorem dX10_labelled_34 : decode cX10_labelled 34 = .ok (.ior, 1) := by decide +kernel
theorem dX10_labelled_35 : decode cX10_labelled 35 = .ok (.istore_n 2, 1) := by decide +kernel
theorem dX10_labelled_36 : decode cX10_labelled 36 = .ok (.iinc 3 1, 3) := by decide +kernel
theorem dX10_labelled_39 : decode cX10_labelled 39 = .ok (.goto (-35), 3) := by decide +kernel
theorem dX10_labelled_42 : decode cX10_labelled 42 = .ok (.iload_n 2, 1) := by decide +kernel
theorem dX10_labelled_43 : decode cX10_labelled 43 = .ok (.ireturn, 1) := by decide +kernel
theorem dX10_setOf_0 : decode cX10_setOf 0 = .ok (.bipush 60, 2) := by decide +kernel
theorem dX10_setOf_2 : decode cX10_setOf 2 = .ok (.iload_n 1, 1) := by decide +kernel
theorem dX10_setOf_3 : decode cX10_setOf 3 = .ok (.imul, 1) := by decide +kernel
theorem dX10_setOf_4 : decode cX10_setOf 4 = .ok (.iload_n 2, 1) := by decide +kernel
theorem dX10_setOf_5 : decode cX10_setOf 5 = .ok (.iadd, 1) := by decide +kernel
theorem dX10_setOf_6 : decode cX10_setOf 6 = .ok (.istore_n 3, 1) := by decide +kernel
theorem dX10_setOf_7 : decode cX10_setOf 7 = .ok (.aload_n 0, 1) := by decide +kernel
theorem dX10_setOf_8 : decode cX10_setOf 8 = .ok (.getfield 25, 3) := by decide +kernel
theorem dX10_setOf_11 : decode cX10_setOf 11 = .ok (.iload_n 3, 1) := by decide +kernel
theorem dX10_setOf_12 : decode cX10_setOf 12 = .ok (.iaload, 1) := by decide +kernel
theorem dX10_setOf_13 : decode cX10_setOf 13 = .ok (.iconst 3, 1) := by decide +kernel
theorem dX10_setOf_14 : decode cX10_setOf 14 = .ok (.if_icmp .lt 17, 3) := by decide +kernel
theorem dX10_setOf_17 : decode cX10_setOf 17 = .ok (.aload_n 0, 1) := by decide +kernel
theorem dX10_setOf_18 : decode cX10_setOf 18 = .ok (.getfield 70, 3) := by decide +kernel
theorem dX10_setOf_21 : decode cX10_setOf 21 = .ok (.aload_n 0, 1) := by decide +kernel
theorem dX10_setOf_22 : decode cX10_setOf 22 = .ok (.getfield 28, 3) := by decide +kernel
theorem dX10_setOf_25 : decode cX10_setOf 25 = .ok (.iload_n 3, 1) := by decide +kernel
theorem dX10_setOf_26 : decode cX10_setOf 26 = .ok (.iaload, 1) := by decide +kernel
theorem dX10_setOf_27 : decode cX10_setOf 27 = .ok (.iaload, 1) := by decide +kernel
theorem dX10_setOf_28 : decode cX10_setOf 28 = .ok (.goto 4, 3) := by decide +kernel
theorem dX10_setOf_31 : decode cX10_setOf 31 = .ok (.iconst 0, 1) := by decide +kernel
theorem dX10_setOf_32 : decode cX10_setOf 32 = .ok (.istore 4, 2) := by decide +kernel
theorem dX10_setOf_34 : decode cX10_setOf 34 = .ok (.aload_n 0, 1) := by decide +kernel
theorem dX10_setOf_35 : decode cX10_setOf 35 = .ok (.getfield 25, 3) := by decide +kernel
theorem dX10_setOf_38 : decode cX10_setOf 38 = .ok (.iload_n 3, 1) := by decide +kernel
theorem dX10_setOf_39 : decode cX10_setOf 39 = .ok (.iaload, 1) := by decide +kernel
theorem dX10_setOf_40 : decode cX10_setOf 40 = .ok (.iconst 4, 1) := by decide +kernel
theorem dX10_setOf_41 : decode cX10_setOf 41 = .ok (.if_icmp .eq 35, 3) := by decide +kernel
theorem dX10_setOf_44 : decode cX10_setOf 44 = .ok (.aload_n 0, 1) := by decide +kernel
theorem dX10_setOf_45 : decode cX10_setOf 45 = .ok (.getfield 25, 3) := by decide +kernel
theorem dX10_setOf_48 : decode cX10_setOf 48 = .ok (.iload_n 3, 1) := by decide +kernel
theorem dX10_setOf_49 : decode cX10_setOf 49 = .ok (.iaload, 1) := by decide +kernel
theorem dX10_setOf_50 : decode cX10_setOf 50 = .ok (.iconst 5, 1) := by decide +kernel
theorem dX10_setOf_51 : decode cX10_setOf 51 = .ok (.if_icmp .eq 25, 3) := by decide +kernel
theorem dX10_setOf_54 : decode cX10_setOf 54 = .ok (.aload_n 0, 1) := by decide +kernel
theorem dX10_setOf_55 : decode cX10_setOf 55 = .ok (.getfield 25, 3) := by decide +kernel
theorem dX10_setOf_58 : decode cX10_setOf 58 = .ok (.iload_n 3, 1) := by decide +kernel
theorem dX10_setOf_59 : decode cX10_setOf 59 = .ok (.iaload, 1) := by decide +kernel
theorem dX10_setOf_60 : decode cX10_setOf 60 = .ok (.bipush 9, 2) := by decide +kernel
theorem dX10_setOf_62 : decode cX10_setOf 62 = .ok (.if_icmp .eq 14, 3) := by decide +kernel
theorem dX10_setOf_65 : decode cX10_setOf 65 = .ok (.aload_n 0, 1) := by decide +kernel
theorem dX10_setOf_66 : decode cX10_setOf 66 = .ok (.getfield 25, 3) := by decide +kernel
theorem dX10_setOf_69 : decode cX10_setOf 69 = .ok (.iload_n 3, 1) := by decide +kernel
theorem dX10_setOf_70 : decode cX10_setOf 70 = .ok (.iaload, 1) := by decide +kernel
theorem dX10_setOf_71 : decode cX10_setOf 71 = .ok (.bipush 13, 2) := by decide +kernel
theorem dX10_setOf_73 : decode cX10_setOf 73 = .ok (.if_icmp .ne 17, 3) := by decide +kernel
theorem dX10_setOf_76 : decode cX10_setOf 76 = .ok (.aload_n 0, 1) := by decide +kernel
theorem dX10_setOf_77 : decode cX10_setOf 77 = .ok (.getfield 70, 3) := by decide +kernel
theorem dX10_setOf_80 : decode cX10_setOf 80 = .ok (.aload_n 0, 1) := by decide +kernel
theorem dX10_setOf_81 : decode cX10_setOf 81 = .ok (.getfield 31, 3) := by decide +kernel
theorem dX10_setOf_84 : decode cX10_setOf 84 = .ok (.iload_n 3, 1) := by decide +kernel
theorem dX10_setOf_85 : decode cX10_setOf 85 = .ok (.iaload, 1) := by decide +kernel
theorem dX10_setOf_86 : decode cX10_setOf 86 = .ok (.iaload, 1) := by decide +kernel
theorem dX10_setOf_87 : decode cX10_setOf 87 = .ok (.goto 4, 3) := by decide +kernel
theorem dX10_setOf_90 : decode cX10_setOf 90 = .ok (.iconst 0, 1) := by decide +kernel
theorem dX10_setOf_91 : decode cX10_setOf 91 = .ok (.istore 5, 2) := by decide +kernel
theorem dX10_setOf_93 : decode cX10_setOf 93 = .ok (.aload_n 0, 1) := by decide +kernel
theorem dX10_setOf_94 : decode cX10_setOf 94 = .ok (.getfield 25, 3) := by decide +kernel
theorem dX10_setOf_97 : decode cX10_setOf 97 = .ok (.iload_n 3, 1) := by decide +kernel
theorem dX10_setOf_98 : decode cX10_setOf 98 = .ok (.iaload, 1) := by decide +kernel
theorem dX10_setOf_99 : decode cX10_setOf 99 = .ok (.tableswitch 77 0 5 #[37, 39, 44, 55, 65, 71], 37) := by decide +kernel
theorem dX10_setOf_136 : decode cX10_setOf 136 = .ok (.iconst 0, 1) := by decide +kernel
theorem dX10_setOf_137 : decode cX10_setOf 137 = .ok (.ireturn, 1) := by decide +kernel
theorem dX10_setOf_138 : decode cX10_setOf 138 = .ok (.aload_n 0, 1) := by decide +kernel
theorem dX10_setOf_139 : decode cX10_setOf 139 = .ok (.invokevirtual 221, 3) := by decide +kernel
theorem dX10_setOf_142 : decode cX10_setOf 142 = .ok (.ireturn, 1) := by decide +kernel
theorem dX10_setOf_143 : decode cX10_setOf 143 = .ok (.aload_n 0, 1) := by decide +kernel
theorem dX10_setOf_144 : decode cX10_setOf 144 = .ok (.aload_n 0, 1) := by decide +kernel
theorem dX10_setOf_145 : decode cX10_setOf 145 = .ok (.getfield 28, 3) := by decide +kernel
theorem dX10_setOf_148 : decode cX10_setOf 148 = .ok (.iload_n 3, 1) := by decide +kernel
theorem dX10_setOf_149 : decode cX10_setOf 149 = .ok (.iaload, 1) := by decide +kernel
theorem dX10_setOf_150 : decode cX10_setOf 150 = .ok (.invokevirtual 233, 3) := by decide +kernel
theorem dX10_setOf_153 : decode cX10_setOf 153 = .ok (.ireturn, 1) := by decide +kernel
theorem dX10_setOf_154 : decode cX10_setOf 154 = .ok (.aload_n 0, 1) := by decide +kernel
theorem dX10_setOf_155 : decode cX10_setOf 155 = .ok (.invokevirtual 221, 3) := by decide +kernel
theorem dX10_setOf_158 : decode cX10_setOf 158 = .ok (.iload 4, 2) := by decide +kernel
theorem dX10_setOf_160 : decode cX10_setOf 160 = .ok (.iconst (-1), 1) := by decide +kernel
theorem dX10_setOf_161 : decode cX10_setOf 161 = .ok (.ixor, 1) := by decide +kernel
theorem dX10_setOf_162 : decode cX10_setOf 162 = .ok (.iand, 1) := by decide +kernel
theorem dX10_setOf_163 : decode cX10_setOf 163 = .ok (.ireturn, 1) := by decide +kernel
theorem dX10_setOf_164 : decode cX10_setOf 164 = .ok (.iload 4, 2) := by decide +kernel
theorem dX10_setOf_166 : decode cX10_setOf 166 = .ok (.iload 5, 2) := by decide +kernel
theorem dX10_setOf_168 : decode cX10_setOf 168 = .ok (.iand, 1) := by decide +kernel
theorem dX10_setOf_169 : decode cX10_setOf 169 = .ok (.ireturn, 1) := by decide +kernel
theorem dX10_setOf_170 : decode cX10_setOf 170 = .ok (.iload 4, 2) := by decide +kernel
theorem dX10_setOf_172 : decode cX10_setOf 172 = .ok (.iload 5, 2) := by decide +kernel
theorem dX10_setOf_174 : decode cX10_setOf 174 = .ok (.ior, 1) := by decide +kernel
theorem dX10_setOf_175 : decode cX10_setOf 175 = .ok (.ireturn, 1) := by decide +kernel
theorem dX10_setOf_176 : decode cX10_setOf 176 = .ok (.aload_n 0, 1) := by decide +kernel
theorem dX10_setOf_177 : decode cX10_setOf 177 = .ok (.aload_n 0, 1) := by decide +kernel
theorem dX10_setOf_178 : decode cX10_setOf 178 = .ok (.getfield 25, 3) := by decide +kernel
theorem dX10_setOf_181 : decode cX10_setOf 181 = .ok (.iload_n 3, 1) := by decide +kernel
theorem dX10_setOf_182 : decode cX10_setOf 182 = .ok (.iaload, 1) := by decide +kernel
theorem dX10_setOf_183 : decode cX10_setOf 183 = .ok (.aload_n 0, 1) := by decide +kernel
theorem dX10_setOf_184 : decode cX10_setOf 184 = .ok (.getfield 34, 3) := by decide +kernel
theorem dX10_setOf_187 : decode cX10_setOf 187 = .ok (.iload_n 3, 1) := by decide +kernel
theorem dX10_setOf_188 : decode cX10_setOf 188 = .ok (.iaload, 1) := by decide +kernel
theorem dX10_setOf_189 : decode cX10_setOf 189 = .ok (.iload 4, 2) := by decide +kernel
theorem dX10_setOf_191 : decode cX10_setOf 191 = .ok (.iload 5, 2) := by decide +kernel
theorem dX10_setOf_193 : decode cX10_setOf 193 = .ok (.invokevirtual 236, 3) := by decide +kernel
theorem dX10_setOf_196 : decode cX10_setOf 196 = .ok (.ireturn, 1) := by decide +kernel
theorem dX10_works_0 : decode cX10_works 0 = .ok (.aload_n 0, 1) := by decide +kernel
theorem dX10_works_1 : decode cX10_works 1 = .ok (.iconst 0, 1) := by decide +kernel
theorem dX10_works_2 : decode cX10_works 2 = .ok (.putfield 209, 3) := by decide +kernel
theorem dX10_works_5 : decode cX10_works 5 = .ok (.iconst 0, 1) := by decide +kernel
theorem dX10_works_6 : decode cX10_works 6 = .ok (.istore_n 2, 1) := by decide +kernel
theorem dX10_works_7 : decode cX10_works 7 = .ok (.iload_n 2, 1) := by decide +kernel
theorem dX10_works_8 : decode cX10_works 8 = .ok (.aload_n 0, 1) := by decide +kernel
theorem dX10_works_9 : decode cX10_works 9 = .ok (.getfield 37, 3) := by decide +kernel
theorem dX10_works_12 : decode cX10_works 12 = .ok (.iload_n 1, 1) := by decide +kernel
theorem dX10_works_13 : decode cX10_works 13 = .ok (.iaload, 1) := by decide +kernel
theorem dX10_works_14 : decode cX10_works 14 = .ok (.if_icmp .ge 21, 3) := by decide +kernel
theorem dX10_works_17 : decode cX10_works 17 = .ok (.aload_n 0, 1) := by decide +kernel
theorem dX10_works_18 : decode cX10_works 18 = .ok (.getfield 70, 3) := by decide +kernel
theorem dX10_works_21 : decode cX10_works 21 = .ok (.iload_n 2, 1) := by decide +kernel
theorem dX10_works_22 : decode cX10_works 22 = .ok (.aload_n 0, 1) := by decide +kernel
theorem dX10_works_23 : decode cX10_works 23 = .ok (.iload_n 1, 1) := by decide +kernel
theorem dX10_works_24 : decode cX10_works 24 = .ok (.iload_n 2, 1) := by decide +kernel
theorem dX10_works_25 : decode cX10_works 25 = .ok (.invokevirtual 239, 3) := by decide +kernel
theorem dX10_works_28 : decode cX10_works 28 = .ok (.iastore, 1) := by decide +kernel
theorem dX10_works_29 : decode cX10_works 29 = .ok (.iinc 2 1, 3) := by decide +kernel
theorem dX10_works_32 : decode cX10_works 32 = .ok (.goto (-25), 3) := by decide +kernel
theorem dX10_works_35 : decode cX10_works 35 = .ok (.return_, 1) := by decide +kernel
theorem dX10_whole_0 : decode cX10_whole 0 = .ok (.aload_n 0, 1) := by decide +kernel
theorem dX10_whole_1 : decode cX10_whole 1 = .ok (.iload_n 1, 1) := by decide +kernel
theorem dX10_whole_2 : decode cX10_whole 2 = .ok (.invokevirtual 242, 3) := by decide +kernel
theorem dX10_whole_5 : decode cX10_whole 5 = .ok (.aload_n 0, 1) := by decide +kernel
theorem dX10_whole_6 : decode cX10_whole 6 = .ok (.getfield 70, 3) := by decide +kernel
theorem dX10_whole_9 : decode cX10_whole 9 = .ok (.aload_n 0, 1) := by decide +kernel
theorem dX10_whole_10 : decode cX10_whole 10 = .ok (.getfield 37, 3) := by decide +kernel
theorem dX10_whole_13 : decode cX10_whole 13 = .ok (.iload_n 1, 1) := by decide +kernel
theorem dX10_whole_14 : decode cX10_whole 14 = .ok (.iaload, 1) := by decide +kernel
theorem dX10_whole_15 : decode cX10_whole 15 = .ok (.iconst 1, 1) := by decide +kernel
theorem dX10_whole_16 : decode cX10_whole 16 = .ok (.isub, 1) := by decide +kernel
theorem dX10_whole_17 : decode cX10_whole 17 = .ok (.iaload, 1) := by decide +kernel
theorem dX10_whole_18 : decode cX10_whole 18 = .ok (.ireturn, 1) := by decide +kernel
theorem dX10_where_0 : decode cX10_where 0 = .ok (.aload_n 0, 1) := by decide +kernel
theorem dX10_where_1 : decode cX10_where 1 = .ok (.iload_n 1, 1) := by decide +kernel
theorem dX10_where_2 : decode cX10_where 2 = .ok (.invokevirtual 203, 3) := by decide +kernel
theorem dX10_where_5 : decode cX10_where 5 = .ok (.ifCond .eq 19, 3) := by decide +kernel
theorem dX10_where_8 : decode cX10_where 8 = .ok (.iload_n 2, 1) := by decide +kernel
theorem dX10_where_9 : decode cX10_where 9 = .ok (.iconst 0, 1) := by decide +kernel
theorem dX10_where_10 : decode cX10_where 10 = .ok (.aload_n 0, 1) := by decide +kernel
theorem dX10_where_11 : decode cX10_where 11 = .ok (.getfield 37, 3) := by decide +kernel
theorem dX10_where_14 : decode cX10_where 14 = .ok (.iload_n 1, 1) := by decide +kernel
theorem dX10_where_15 : decode cX10_where 15 = .ok (.iaload, 1) := by decide +kernel
theorem dX10_where_16 : decode cX10_where 16 = .ok (.iconst 1, 1) := by decide +kernel
theorem dX10_where_17 : decode cX10_where 17 = .ok (.isub, 1) := by decide +kernel
theorem dX10_where_18 : decode cX10_where 18 = .ok (.invokestatic 93, 3) := by decide +kernel
theorem dX10_where_21 : decode cX10_where 21 = .ok (.ifCond .ne 5, 3) := by decide +kernel
theorem dX10_where_24 : decode cX10_where 24 = .ok (.iconst (-1), 1) := by decide +kernel
theorem dX10_where_25 : decode cX10_where 25 = .ok (.ireturn, 1) := by decide +kernel
theorem dX10_where_26 : decode cX10_where 26 = .ok (.aload_n 0, 1) := by decide +kernel
theorem dX10_where_27 : decode cX10_where 27 = .ok (.iload_n 1, 1) := by decide +kernel
theorem dX10_where_28 : decode cX10_where 28 = .ok (.invokevirtual 242, 3) := by decide +kernel
theorem dX10_where_31 : decode cX10_where 31 = .ok (.aload_n 0, 1) := by decide +kernel
theorem dX10_where_32 : decode cX10_where 32 = .ok (.getfield 70, 3) := by decide +kernel
theorem dX10_where_35 : decode cX10_where 35 = .ok (.iload_n 2, 1) := by decide +kernel
theorem dX10_where_36 : decode cX10_where 36 = .ok (.iaload, 1) := by decide +kernel
theorem dX10_where_37 : decode cX10_where 37 = .ok (.ireturn, 1) := by decide +kernel
theorem dX10_holds_0 : decode cX10_holds 0 = .ok (.aload_n 0, 1) := by decide +kernel
theorem dX10_holds_1 : decode cX10_holds 1 = .ok (.iload_n 1, 1) := by decide +kernel
theorem dX10_holds_2 : decode cX10_holds 2 = .ok (.invokevirtual 203, 3) := by decide +kernel
theorem dX10_holds_5 : decode cX10_holds 5 = .ok (.ifCond .eq 23, 3) := by decide +kernel
theorem dX10_holds_8 : decode cX10_holds 8 = .ok (.aload_n 0, 1) := by decide +kernel
theorem dX10_holds_9 : decode cX10_holds 9 = .ok (.iload_n 2, 1) := by decide +kernel
theorem dX10_holds_10 : decode cX10_holds 10 = .ok (.invokevirtual 129, 3) := by decide +kernel
theorem dX10_holds_13 : decode cX10_holds 13 = .ok (.ifCond .eq 15, 3) := by decide +kernel
theorem dX10_holds_16 : decode cX10_holds 16 = .ok (.aload_n 0, 1) := by decide +kernel
theorem dX10_holds_17 : decode cX10_holds 17 = .ok (.iload_n 1, 1) := by decide +kernel
theorem dX10_holds_18 : decode cX10_holds 18 = .ok (.invokevirtual 245, 3) := by decide +kernel
theorem dX10_holds_21 : decode cX10_holds 21 = .ok (.iload_n 2, 1) := by decide +kernel
theorem dX10_holds_22 : decode cX10_holds 22 = .ok (.ishr, 1) := by decide +kernel
theorem dX10_holds_23 : decode cX10_holds 23 = .ok (.iconst 1, 1) := by decide +kernel
theorem dX10_holds_24 : decode cX10_holds 24 = .ok (.iand, 1) := by decide +kernel
theorem dX10_holds_25 : decode cX10_holds 25 = .ok (.goto 4, 3) := by decide +kernel
theorem dX10_holds_28 : decode cX10_holds 28 = .ok (.iconst (-1), 1) := by decide +kernel
theorem dX10_holds_29 : decode cX10_holds 29 = .ok (.ireturn, 1) := by decide +kernel
theorem dX10_counterexample_0 : decode cX10_counterexample 0 = .ok (.aload_n 0, 1) := by decide +kernel
theorem dX10_counterexample_1 : decode cX10_counterexample 1 = .ok (.iload_n 1, 1) := by decide +kernel
theorem dX10_counterexample_2 : decode cX10_counterexample 2 = .ok (.invokevirtual 203, 3) := by decide +kernel
theorem dX10_counterexample_5 : decode cX10_counterexample 5 = .ok (.ifCond .eq 11, 3) := by decide +kernel
theorem dX10_counterexample_8 : decode cX10_counterexample 8 = .ok (.aload_n 0, 1) := by decide +kernel
theorem dX10_counterexample_9 : decode cX10_counterexample 9 = .ok (.iload_n 2, 1) := by decide +kernel
theorem dX10_counterexample_10 : decode cX10_counterexample 10 = .ok (.invokevirtual 203, 3) := by decide +kernel
theorem dX10_counterexample_13 : decode cX10_counterexample 13 = .ok (.ifCond .ne 5, 3) := by decide +kernel
theorem dX10_counterexample_16 : decode cX10_counterexample 16 = .ok (.iconst (-1), 1) := by decide +kernel
theorem dX10_counterexample_17 : decode cX10_counterexample 17 = .ok (.ireturn, 1) := by decide +kernel
theorem dX10_counterexample_18 : decode cX10_counterexample 18 = .ok (.aload_n 0, 1) := by decide +kernel
theorem dX10_counterexample_19 : decode cX10_counterexample 19 = .ok (.iload_n 1, 1) := by decide +kernel
theorem dX10_counterexample_20 : decode cX10_counterexample 20 = .ok (.invokevirtual 245, 3) := by decide +kernel
theorem dX10_counterexample_23 : decode cX10_counterexample 23 = .ok (.istore_n 3, 1) := by decide +kernel
theorem dX10_counterexample_24 : decode cX10_counterexample 24 = .ok (.iload_n 3, 1) := by decide +kernel
theorem dX10_counterexample_25 : decode cX10_counterexample 25 = .ok (.aload_n 0, 1) := by decide +kernel
theorem dX10_counterexample_26 : decode cX10_counterexample 26 = .ok (.iload_n 2, 1) := by decide +kernel
theorem dX10_counterexample_27 : decode cX10_counterexample 27 = .ok (.invokevirtual 245, 3) := by decide +kernel
theorem dX10_counterexample_30 : decode cX10_counterexample 30 = .ok (.iconst (-1), 1) := by decide +kernel
theorem dX10_counterexample_31 : decode cX10_counterexample 31 = .ok (.ixor, 1) := by decide +kernel
theorem dX10_counterexample_32 : decode cX10_counterexample 32 = .ok (.iand, 1) := by decide +kernel
theorem dX10_counterexample_33 : decode cX10_counterexample 33 = .ok (.istore_n 3, 1) := by decide +kernel
theorem dX10_counterexample_34 : decode cX10_counterexample 34 = .ok (.iconst 0, 1) := by decide +kernel
theorem dX10_counterexample_35 : decode cX10_counterexample 35 = .ok (.istore 4, 2) := by decide +kernel
theorem dX10_counterexample_37 : decode cX10_counterexample 37 = .ok (.iload 4, 2) := by decide +kernel
theorem dX10_counterexample_39 : decode cX10_counterexample 39 = .ok (.aload_n 0, 1) := by decide +kernel
theorem dX10_counterexample_40 : decode cX10_counterexample 40 = .ok (.getfield 7, 3) := by decide +kernel
theorem dX10_counterexample_43 : decode cX10_counterexample 43 = .ok (.sipush 1200, 3) := by decide +kernel
theorem dX10_counterexample_46 : decode cX10_counterexample 46 = .ok (.iaload, 1) := by decide +kernel
theorem dX10_counterexample_47 : decode cX10_counterexample 47 = .ok (.if_icmp .ge 22, 3) := by decide +kernel
theorem dX10_counterexample_50 : decode cX10_counterexample 50 = .ok (.iload_n 3, 1) := by decide +kernel
theorem dX10_counterexample_51 : decode cX10_counterexample 51 = .ok (.iload 4, 2) := by decide +kernel
theorem dX10_counterexample_53 : decode cX10_counterexample 53 = .ok (.ishr, 1) := by decide +kernel
theorem dX10_counterexample_54 : decode cX10_counterexample 54 = .ok (.iconst 1, 1) := by decide +kernel
theorem dX10_counterexample_55 : decode cX10_counterexample 55 = .ok (.iand, 1) := by decide +kernel
theorem dX10_counterexample_56 : decode cX10_counterexample 56 = .ok (.iconst 1, 1) := by decide +kernel
theorem dX10_counterexample_57 : decode cX10_counterexample 57 = .ok (.if_icmp .ne 6, 3) := by decide +kernel
theorem dX10_counterexample_60 : decode cX10_counterexample 60 = .ok (.iload 4, 2) := by decide +kernel
theorem dX10_counterexample_62 : decode cX10_counterexample 62 = .ok (.ireturn, 1) := by decide +kernel
theorem dX10_counterexample_63 : decode cX10_counterexample 63 = .ok (.iinc 4 1, 3) := by decide +kernel
theorem dX10_counterexample_66 : decode cX10_counterexample 66 = .ok (.goto (-29), 3) := by decide +kernel
theorem dX10_counterexample_69 : decode cX10_counterexample 69 = .ok (.bipush (-9), 2) := by decide +kernel
theorem dX10_counterexample_71 : decode cX10_counterexample 71 = .ok (.ireturn, 1) := by decide +kernel
theorem dX10_top_0 : decode cX10_top 0 = .ok (.bipush 60, 2) := by decide +kernel
theorem dX10_top_2 : decode cX10_top 2 = .ok (.iload_n 1, 1) := by decide +kernel
theorem dX10_top_3 : decode cX10_top 3 = .ok (.imul, 1) := by decide +kernel
theorem dX10_top_4 : decode cX10_top 4 = .ok (.aload_n 0, 1) := by decide +kernel
theorem dX10_top_5 : decode cX10_top 5 = .ok (.getfield 37, 3) := by decide +kernel
theorem dX10_top_8 : decode cX10_top 8 = .ok (.iload_n 1, 1) := by decide +kernel
theorem dX10_top_9 : decode cX10_top 9 = .ok (.iaload, 1) := by decide +kernel
theorem dX10_top_10 : decode cX10_top 10 = .ok (.iadd, 1) := by decide +kernel
theorem dX10_top_11 : decode cX10_top 11 = .ok (.iconst 1, 1) := by decide +kernel
theorem dX10_top_12 : decode cX10_top 12 = .ok (.isub, 1) := by decide +kernel
theorem dX10_top_13 : decode cX10_top 13 = .ok (.ireturn, 1) := by decide +kernel
theorem dX10_isGoal_0 : decode cX10_isGoal 0 = .ok (.aload_n 0, 1) := by decide +kernel
theorem dX10_isGoal_1 : decode cX10_isGoal 1 = .ok (.getfield 25, 3) := by decide +kernel
theorem dX10_isGoal_4 : decode cX10_isGoal 4 = .ok (.aload_n 0, 1) := by decide +kernel
theorem dX10_isGoal_5 : decode cX10_isGoal 5 = .ok (.iload_n 1, 1) := by decide +kernel
theorem dX10_isGoal_6 : decode cX10_isGoal 6 = .ok (.invokevirtual 248, 3) := by decide +kernel
theorem dX10_isGoal_9 : decode cX10_isGoal 9 = .ok (.iaload, 1) := by decide +kernel
theorem dX10_isGoal_10 : decode cX10_isGoal 10 = .ok (.bipush 6, 2) := by decide +kernel
theorem dX10_isGoal_12 : decode cX10_isGoal 12 = .ok (.bipush 9, 2) := by decide +kernel
theorem dX10_isGoal_14 : decode cX10_isGoal 14 = .ok (.invokestatic 93, 3) := by decide +kernel
theorem dX10_isGoal_17 : decode cX10_isGoal 17 = .ok (.ireturn, 1) := by decide +kernel
theorem dX10_operand_0 : decode cX10_operand 0 = .ok (.aload_n 0, 1) := by decide +kernel
theorem dX10_operand_1 : decode cX10_operand 1 = .ok (.iload_n 1, 1) := by decide +kernel
theorem dX10_operand_2 : decode cX10_operand 2 = .ok (.invokevirtual 248, 3) := by decide +kernel
theorem dX10_operand_5 : decode cX10_operand 5 = .ok (.istore_n 3, 1) := by decide +kernel
theorem dX10_operand_6 : decode cX10_operand 6 = .ok (.aload_n 0, 1) := by decide +kernel
theorem dX10_operand_7 : decode cX10_operand 7 = .ok (.getfield 70, 3) := by decide +kernel
theorem dX10_operand_10 : decode cX10_operand 10 = .ok (.iload_n 2, 1) := by decide +kernel
theorem dX10_operand_11 : decode cX10_operand 11 = .ok (.ifCond .eq 12, 3) := by decide +kernel
theorem dX10_operand_14 : decode cX10_operand 14 = .ok (.aload_n 0, 1) := by decide +kernel
theorem dX10_operand_15 : decode cX10_operand 15 = .ok (.getfield 31, 3) := by decide +kernel
theorem dX10_operand_18 : decode cX10_operand 18 = .ok (.iload_n 3, 1) := by decide +kernel
theorem dX10_operand_19 : decode cX10_operand 19 = .ok (.iaload, 1) := by decide +kernel
theorem dX10_operand_20 : decode cX10_operand 20 = .ok (.goto 9, 3) := by decide +kernel
theorem dX10_operand_23 : decode cX10_operand 23 = .ok (.aload_n 0, 1) := by decide +kernel
theorem dX10_operand_24 : decode cX10_operand 24 = .ok (.getfield 28, 3) := by decide +kernel
theorem dX10_operand_27 : decode cX10_operand 27 = .ok (.iload_n 3, 1) := by decide +kernel
theorem dX10_operand_28 : decode cX10_operand 28 = .ok (.iaload, 1) := by decide +kernel
theorem dX10_operand_29 : decode cX10_operand 29 = .ok (.iaload, 1) := by decide +kernel
theorem dX10_operand_30 : decode cX10_operand 30 = .ok (.ireturn, 1) := by decide +kernel
theorem dX10_ranksOf_0 : decode cX10_ranksOf 0 = .ok (.aload_n 0, 1) := by decide +kernel
theorem dX10_ranksOf_1 : decode cX10_ranksOf 1 = .ok (.iload_n 1, 1) := by decide +kernel
theorem dX10_ranksOf_2 : decode cX10_ranksOf 2 = .ok (.invokevirtual 242, 3) := by decide +kernel
theorem dX10_ranksOf_5 : decode cX10_ranksOf 5 = .ok (.aload_n 0, 1) := by decide +kernel
theorem dX10_ranksOf_6 : decode cX10_ranksOf 6 = .ok (.getfield 25, 3) := by decide +kernel
theorem dX10_ranksOf_9 : decode cX10_ranksOf 9 = .ok (.aload_n 0, 1) := by decide +kernel
theorem dX10_ranksOf_10 : decode cX10_ranksOf 10 = .ok (.iload_n 1, 1) := by decide +kernel
theorem dX10_ranksOf_11 : decode cX10_ranksOf 11 = .ok (.invokevirtual 248, 3) := by decide +kernel
theorem dX10_ranksOf_14 : decode cX10_ranksOf 14 = .ok (.iaload, 1) := by decide +kernel
theorem dX10_ranksOf_15 : decode cX10_ranksOf 15 = .ok (.bipush 9, 2) := by decide +kernel
theorem dX10_ranksOf_17 : decode cX10_ranksOf 17 = .ok (.if_icmp .ne 7, 3) := by decide +kernel
theorem dX10_ranksOf_20 : decode cX10_ranksOf 20 = .ok (.iconst 1, 1) := by decide +kernel
theorem dX10_ranksOf_21 : decode cX10_ranksOf 21 = .ok (.goto 4, 3) := by decide +kernel
theorem dX10_ranksOf_24 : decode cX10_ranksOf 24 = .ok (.iconst 0, 1) := by decide +kernel
theorem dX10_ranksOf_25 : decode cX10_ranksOf 25 = .ok (.istore_n 2, 1) := by decide +kernel
theorem dX10_ranksOf_26 : decode cX10_ranksOf 26 = .ok (.aload_n 0, 1) := by decide +kernel
theorem dX10_ranksOf_27 : decode cX10_ranksOf 27 = .ok (.aload_n 0, 1) := by decide +kernel
theorem dX10_ranksOf_28 : decode cX10_ranksOf 28 = .ok (.getfield 34, 3) := by decide +kernel
theorem dX10_ranksOf_31 : decode cX10_ranksOf 31 = .ok (.aload_n 0, 1) := by decide +kernel
theorem dX10_ranksOf_32 : decode cX10_ranksOf 32 = .ok (.iload_n 1, 1) := by decide +kernel
theorem dX10_ranksOf_33 : decode cX10_ranksOf 33 = .ok (.invokevirtual 248, 3) := by decide +kernel
theorem dX10_ranksOf_36 : decode cX10_ranksOf 36 = .ok (.iaload, 1) := by decide +kernel
theorem dX10_ranksOf_37 : decode cX10_ranksOf 37 = .ok (.iload_n 2, 1) := by decide +kernel
theorem dX10_ranksOf_38 : decode cX10_ranksOf 38 = .ok (.ifCond .eq 12, 3) := by decide +kernel
theorem dX10_ranksOf_41 : decode cX10_ranksOf 41 = .ok (.aload_n 0, 1) := by decide +kernel
theorem dX10_ranksOf_42 : decode cX10_ranksOf 42 = .ok (.iload_n 1, 1) := by decide +kernel
theorem dX10_ranksOf_43 : decode cX10_ranksOf 43 = .ok (.iconst 0, 1) := by decide +kernel
theorem dX10_ranksOf_44 : decode cX10_ranksOf 44 = .ok (.invokevirtual 251, 3) := by decide +kernel
theorem dX10_ranksOf_47 : decode cX10_ranksOf 47 = .ok (.goto 7, 3) := by decide +kernel
theorem dX10_ranksOf_50 : decode cX10_ranksOf 50 = .ok (.aload_n 0, 1) := by decide +kernel
theorem dX10_ranksOf_51 : decode cX10_ranksOf 51 = .ok (.invokevirtual 221, 3) := by decide +kernel
theorem dX10_ranksOf_54 : decode cX10_ranksOf 54 = .ok (.aload_n 0, 1) := by decide +kernel
theorem dX10_ranksOf_55 : decode cX10_ranksOf 55 = .ok (.iload_n 1, 1) := by decide +kernel
theorem dX10_ranksOf_56 : decode cX10_ranksOf 56 = .ok (.iload_n 2, 1) := by decide +kernel
theorem dX10_ranksOf_57 : decode cX10_ranksOf 57 = .ok (.invokevirtual 251, 3) := by decide +kernel
theorem dX10_ranksOf_60 : decode cX10_ranksOf 60 = .ok (.invokevirtual 224, 3) := by decide +kernel
theorem dX10_ranksOf_63 : decode cX10_ranksOf 63 = .ok (.istore_n 3, 1) := by decide +kernel
theorem dX10_ranksOf_64 : decode cX10_ranksOf 64 = .ok (.return_, 1) := by decide +kernel
theorem dX10_rank_0 : decode cX10_rank 0 = .ok (.aload_n 0, 1) := by decide +kernel
theorem dX10_rank_1 : decode cX10_rank 1 = .ok (.iload_n 1, 1) := by decide +kernel
theorem dX10_rank_2 : decode cX10_rank 2 = .ok (.invokevirtual 203, 3) := by decide +kernel
theorem dX10_rank_5 : decode cX10_rank 5 = .ok (.ifCond .eq 11, 3) := by decide +kernel
theorem dX10_rank_8 : decode cX10_rank 8 = .ok (.aload_n 0, 1) := by decide +kernel
theorem dX10_rank_9 : decode cX10_rank 9 = .ok (.iload_n 2, 1) := by decide +kernel
theorem dX10_rank_10 : decode cX10_rank 10 = .ok (.invokevirtual 129, 3) := by decide +kernel
theorem dX10_rank_13 : decode cX10_rank 13 = .ok (.ifCond .ne 5, 3) := by decide +kernel
theorem dX10_rank_16 : decode cX10_rank 16 = .ok (.iconst (-1), 1) := by decide +kernel
theorem dX10_rank_17 : decode cX10_rank 17 = .ok (.ireturn, 1) := by decide +kernel
theorem dX10_rank_18 : decode cX10_rank 18 = .ok (.aload_n 0, 1) := by decide +kernel
theorem dX10_rank_19 : decode cX10_rank 19 = .ok (.getfield 25, 3) := by decide +kernel
theorem dX10_rank_22 : decode cX10_rank 22 = .ok (.aload_n 0, 1) := by decide +kernel
theorem dX10_rank_23 : decode cX10_rank 23 = .ok (.iload_n 1, 1) := by decide +kernel
theorem dX10_rank_24 : decode cX10_rank 24 = .ok (.invokevirtual 248, 3) := by decide +kernel
theorem dX10_rank_27 : decode cX10_rank 27 = .ok (.iaload, 1) := by decide +kernel
theorem dX10_rank_28 : decode cX10_rank 28 = .ok (.bipush 7, 2) := by decide +kernel
theorem dX10_rank_30 : decode cX10_rank 30 = .ok (.if_icmp .eq 21, 3) := by decide +kernel
theorem dX10_rank_33 : decode cX10_rank 33 = .ok (.aload_n 0, 1) := by decide +kernel
theorem dX10_rank_34 : decode cX10_rank 34 = .ok (.getfield 25, 3) := by decide +kernel
theorem dX10_rank_37 : decode cX10_rank 37 = .ok (.aload_n 0, 1) := by decide +kernel
theorem dX10_rank_38 : decode cX10_rank 38 = .ok (.iload_n 1, 1) := by decide +kernel
theorem dX10_rank_39 : decode cX10_rank 39 = .ok (.invokevirtual 248, 3) := by decide +kernel
theorem dX10_rank_42 : decode cX10_rank 42 = .ok (.iaload, 1) := by decide +kernel
theorem dX10_rank_43 : decode cX10_rank 43 = .ok (.bipush 9, 2) := by decide +kernel
theorem dX10_rank_45 : decode cX10_rank 45 = .ok (.if_icmp .eq 6, 3) := by decide +kernel
theorem dX10_rank_48 : decode cX10_rank 48 = .ok (.bipush (-3), 2) := by decide +kernel
theorem dX10_rank_50 : decode cX10_rank 50 = .ok (.ireturn, 1) := by decide +kernel
theorem dX10_rank_51 : decode cX10_rank 51 = .ok (.aload_n 0, 1) := by decide +kernel
theorem dX10_rank_52 : decode cX10_rank 52 = .ok (.iload_n 1, 1) := by decide +kernel
theorem dX10_rank_53 : decode cX10_rank 53 = .ok (.invokevirtual 255, 3) := by decide +kernel
theorem dX10_rank_56 : decode cX10_rank 56 = .ok (.aload_n 0, 1) := by decide +kernel
theorem dX10_rank_57 : decode cX10_rank 57 = .ok (.getfield 67, 3) := by decide +kernel
theorem dX10_rank_60 : decode cX10_rank 60 = .ok (.iload_n 2, 1) := by decide +kernel
theorem dX10_rank_61 : decode cX10_rank 61 = .ok (.iaload, 1) := by decide +kernel
theorem dX10_rank_62 : decode cX10_rank 62 = .ok (.ireturn, 1) := by decide +kernel
theorem dX10_levelBelow_0 : decode cX10_levelBelow 0 = .ok (.iconst 0, 1) := by decide +kernel
theorem dX10_levelBelow_1 : decode cX10_levelBelow 1 = .ok (.istore_n 2, 1) := by decide +kernel
theorem dX10_levelBelow_2 : decode cX10_levelBelow 2 = .ok (.iconst 0, 1) := by decide +kernel
theorem dX10_levelBelow_3 : decode cX10_levelBelow 3 = .ok (.istore_n 3, 1) := by decide +kernel
theorem dX10_levelBelow_4 : decode cX10_levelBelow 4 = .ok (.iload_n 3, 1) := by decide +kernel
theorem dX10_levelBelow_5 : decode cX10_levelBelow 5 = .ok (.aload_n 0, 1) := by decide +kernel
theorem dX10_levelBelow_6 : decode cX10_levelBelow 6 = .ok (.getfield 7, 3) := by decide +kernel
theorem dX10_levelBelow_9 : decode cX10_levelBelow 9 = .ok (.sipush 1200, 3) := by decide +kernel
theorem dX10_levelBelow_12 : decode cX10_levelBelow 12 = .ok (.iaload, 1) := by decide +kernel
theorem dX10_levelBelow_13 : decode cX10_levelBelow 13 = .ok (.if_icmp .ge 40, 3) := by decide +kernel
theorem dX10_levelBelow_16 : decode cX10_levelBelow 16 = .ok (.iload_n 2, 1) := by decide +kernel
theorem dX10_levelBelow_17 : decode cX10_levelBelow 17 = .ok (.aload_n 0, 1) := by decide +kernel
theorem dX10_levelBelow_18 : decode cX10_levelBelow 18 = .ok (.getfield 67, 3) := by decide +kernel
theorem dX10_levelBelow_21 : decode cX10_levelBelow 21 = .ok (.iload_n 3, 1) := by decide +kernel
theorem dX10_levelBelow_22 : decode cX10_levelBelow 22 = .ok (.iaload, 1) := by decide +kernel
theorem dX10_levelBelow_23 : decode cX10_levelBelow 23 = .ok (.bipush (-9), 2) := by decide +kernel
theorem dX10_levelBelow_25 : decode cX10_levelBelow 25 = .ok (.if_icmp .eq 19, 3) := by decide +kernel
theorem dX10_levelBelow_28 : decode cX10_levelBelow 28 = .ok (.aload_n 0, 1) := by decide +kernel
theorem dX10_levelBelow_29 : decode cX10_levelBelow 29 = .ok (.getfield 67, 3) := by decide +kernel
theorem dX10_levelBelow_32 : decode cX10_levelBelow 32 = .ok (.iload_n 3, 1) := by decide +kernel
theorem dX10_levelBelow_33 : decode cX10_levelBelow 33 = .ok (.iaload, 1) := by decide +kernel
theorem dX10_levelBelow_34 : decode cX10_levelBelow 34 = .ok (.iload_n 1, 1) := by decide +kernel
theorem dX10_levelBelow_35 : decode cX10_levelBelow 35 = .ok (.if_icmp .ge 9, 3) := by decide +kernel
theorem dX10_levelBelow_38 : decode cX10_levelBelow 38 = .ok (.iconst 1, 1) := by decide +kernel
theorem dX10_levelBelow_39 : decode cX10_levelBelow 39 = .ok (.iload_n 3, 1) := by decide +kernel
theorem dX10_levelBelow_40 : decode cX10_levelBelow 40 = .ok (.ishl, 1) := by decide +kernel
theorem dX10_levelBelow_41 : decode cX10_levelBelow 41 = .ok (.goto 4, 3) := by decide +kernel
theorem dX10_levelBelow_44 : decode cX10_levelBelow 44 = .ok (.iconst 0, 1) := by decide +kernel
theorem dX10_levelBelow_45 : decode cX10_levelBelow 45 = .ok (.ior, 1) := by decide +kernel
theorem dX10_levelBelow_46 : decode cX10_levelBelow 46 = .ok (.istore_n 2, 1) := by decide +kernel
theorem dX10_levelBelow_47 : decode cX10_levelBelow 47 = .ok (.iinc 3 1, 3) := by decide +kernel
theorem dX10_levelBelow_50 : decode cX10_levelBelow 50 = .ok (.goto (-46), 3) := by decide +kernel
theorem dX10_levelBelow_53 : decode cX10_levelBelow 53 = .ok (.iload_n 2, 1) := by decide +kernel
theorem dX10_levelBelow_54 : decode cX10_levelBelow 54 = .ok (.ireturn, 1) := by decide +kernel
theorem dX10_strategyOf_0 : decode cX10_strategyOf 0 = .ok (.aload_n 0, 1) := by decide +kernel
theorem dX10_strategyOf_1 : decode cX10_strategyOf 1 = .ok (.getfield 34, 3) := by decide +kernel
theorem dX10_strategyOf_4 : decode cX10_strategyOf 4 = .ok (.aload_n 0, 1) := by decide +kernel
theorem dX10_strategyOf_5 : decode cX10_strategyOf 5 = .ok (.iload_n 1, 1) := by decide +kernel
theorem dX10_strategyOf_6 : decode cX10_strategyOf 6 = .ok (.invokevirtual 248, 3) := by decide +kernel
theorem dX10_strategyOf_9 : decode cX10_strategyOf 9 = .ok (.iaload, 1) := by decide +kernel
theorem dX10_strategyOf_10 : decode cX10_strategyOf 10 = .ok (.istore_n 3, 1) := by decide +kernel
theorem dX10_strategyOf_11 : decode cX10_strategyOf 11 = .ok (.aload_n 0, 1) := by decide +kernel
theorem dX10_strategyOf_12 : decode cX10_strategyOf 12 = .ok (.getfield 25, 3) := by decide +kernel
theorem dX10_strategyOf_15 : decode cX10_strategyOf 15 = .ok (.aload_n 0, 1) := by decide +kernel
theorem dX10_strategyOf_16 : decode cX10_strategyOf 16 = .ok (.iload_n 1, 1) := by decide +kernel
theorem dX10_strategyOf_17 : decode cX10_strategyOf 17 = .ok (.invokevirtual 248, 3) := by decide +kernel
theorem dX10_strategyOf_20 : decode cX10_strategyOf 20 = .ok (.iaload, 1) := by decide +kernel
theorem dX10_strategyOf_21 : decode cX10_strategyOf 21 = .ok (.istore 4, 2) := by decide +kernel
theorem dX10_strategyOf_23 : decode cX10_strategyOf 23 = .ok (.aload_n 0, 1) := by decide +kernel
theorem dX10_strategyOf_24 : decode cX10_strategyOf 24 = .ok (.iload_n 1, 1) := by decide +kernel
theorem dX10_strategyOf_25 : decode cX10_strategyOf 25 = .ok (.invokevirtual 242, 3) := by decide +kernel
theorem dX10_strategyOf_28 : decode cX10_strategyOf 28 = .ok (.aload_n 0, 1) := by decide +kernel
theorem dX10_strategyOf_29 : decode cX10_strategyOf 29 = .ok (.getfield 70, 3) := by decide +kernel
theorem dX10_strategyOf_32 : decode cX10_strategyOf 32 = .ok (.aload_n 0, 1) := by decide +kernel
theorem dX10_strategyOf_33 : decode cX10_strategyOf 33 = .ok (.getfield 37, 3) := by decide +kernel
theorem dX10_strategyOf_36 : decode cX10_strategyOf 36 = .ok (.iload_n 1, 1) := by decide +kernel
theorem dX10_strategyOf_37 : decode cX10_strategyOf 37 = .ok (.iaload, 1) := by decide +kernel
theorem dX10_strategyOf_38 : decode cX10_strategyOf 38 = .ok (.iconst 1, 1) := by decide +kernel
theorem dX10_strategyOf_39 : decode cX10_strategyOf 39 = .ok (.isub, 1) := by decide +kernel
theorem dX10_strategyOf_40 : decode cX10_strategyOf 40 = .ok (.iaload, 1) := by decide +kernel
theorem dX10_strategyOf_41 : decode cX10_strategyOf 41 = .ok (.istore 5, 2) := by decide +kernel
theorem dX10_strategyOf_43 : decode cX10_strategyOf 43 = .ok (.iload 5, 2) := by decide +kernel
theorem dX10_strategyOf_45 : decode cX10_strategyOf 45 = .ok (.iload_n 2, 1) := by decide +kernel
theorem dX10_strategyOf_46 : decode cX10_strategyOf 46 = .ok (.ishr, 1) := by decide +kernel
theorem dX10_strategyOf_47 : decode cX10_strategyOf 47 = .ok (.iconst 1, 1) := by decide +kernel
theorem dX10_strategyOf_48 : decode cX10_strategyOf 48 = .ok (.iand, 1) := by decide +kernel
theorem dX10_strategyOf_49 : decode cX10_strategyOf 49 = .ok (.ifCond .ne 5, 3) := by decide +kernel
theorem dX10_strategyOf_52 : decode cX10_strategyOf 52 = .ok (.iconst 0, 1) := by decide +kernel
theorem dX10_strategyOf_53 : decode cX10_strategyOf 53 = .ok (.ireturn, 1) := by decide +kernel
theorem dX10_strategyOf_54 : decode cX10_strategyOf 54 = .ok (.iload 4, 2) := by decide +kernel
theorem dX10_strategyOf_56 : decode cX10_strategyOf 56 = .ok (.bipush 6, 2) := by decide +kernel
theorem dX10_strategyOf_58 : decode cX10_strategyOf 58 = .ok (.if_icmp .ne 16, 3) := by decide +kernel
theorem dX10_strategyOf_61 : decode cX10_strategyOf 61 = .ok (.aload_n 0, 1) := by decide +kernel
theorem dX10_strategyOf_62 : decode cX10_strategyOf 62 = .ok (.iload_n 3, 1) := by decide +kernel
theorem dX10_strategyOf_63 : decode cX10_strategyOf 63 = .ok (.iload_n 2, 1) := by decide +kernel
theorem dX10_strategyOf_64 : decode cX10_strategyOf 64 = .ok (.aload_n 0, 1) := by decide +kernel
theorem dX10_strategyOf_65 : decode cX10_strategyOf 65 = .ok (.iload_n 1, 1) := by decide +kernel
theorem dX10_strategyOf_66 : decode cX10_strategyOf 66 = .ok (.iconst 0, 1) := by decide +kernel
theorem dX10_strategyOf_67 : decode cX10_strategyOf 67 = .ok (.invokevirtual 251, 3) := by decide +kernel
theorem dX10_strategyOf_70 : decode cX10_strategyOf 70 = .ok (.invokevirtual 142, 3) := by decide +kernel
theorem dX10_strategyOf_73 : decode cX10_strategyOf 73 = .ok (.ireturn, 1) := by decide +kernel
theorem dX10_strategyOf_74 : decode cX10_strategyOf 74 = .ok (.iload 4, 2) := by decide +kernel
theorem dX10_strategyOf_76 : decode cX10_strategyOf 76 = .ok (.bipush 8, 2) := by decide +kernel
theorem dX10_strategyOf_78 : decode cX10_strategyOf 78 = .ok (.if_icmp .ne 12, 3) := by decide +kernel
theorem dX10_strategyOf_81 : decode cX10_strategyOf 81 = .ok (.aload_n 0, 1) := by decide +kernel
theorem dX10_strategyOf_82 : decode cX10_strategyOf 82 = .ok (.iload_n 3, 1) := by decide +kernel
theorem dX10_strategyOf_83 : decode cX10_strategyOf 83 = .ok (.iload_n 2, 1) := by decide +kernel
theorem dX10_strategyOf_84 : decode cX10_strategyOf 84 = .ok (.iload 5, 2) := by decide +kernel
theorem dX10_strategyOf_86 : decode cX10_strategyOf 86 = .ok (.invokevirtual 142, 3) := by decide +kernel
theorem dX10_strategyOf_89 : decode cX10_strategyOf 89 = .ok (.ireturn, 1) := by decide +kernel
theorem dX10_strategyOf_90 : decode cX10_strategyOf 90 = .ok (.aload_n 0, 1) := by decide +kernel
theorem dX10_strategyOf_91 : decode cX10_strategyOf 91 = .ok (.iload_n 1, 1) := by decide +kernel
theorem dX10_strategyOf_92 : decode cX10_strategyOf 92 = .ok (.invokevirtual 255, 3) := by decide +kernel
theorem dX10_strategyOf_95 : decode cX10_strategyOf 95 = .ok (.aload_n 0, 1) := by decide +kernel
theorem dX10_strategyOf_96 : decode cX10_strategyOf 96 = .ok (.getfield 67, 3) := by decide +kernel
theorem dX10_strategyOf_99 : decode cX10_strategyOf 99 = .ok (.iload_n 2, 1) := by decide +kernel
theorem dX10_strategyOf_100 : decode cX10_strategyOf 100 = .ok (.iaload, 1) := by decide +kernel
theorem dX10_strategyOf_101 : decode cX10_strategyOf 101 = .ok (.ifCond .ne 7, 3) := by decide +kernel
theorem dX10_strategyOf_104 : decode cX10_strategyOf 104 = .ok (.iconst 0, 1) := by decide +kernel
theorem dX10_strategyOf_105 : decode cX10_strategyOf 105 = .ok (.goto 19, 3) := by decide +kernel
theorem dX10_strategyOf_108 : decode cX10_strategyOf 108 = .ok (.aload_n 0, 1) := by decide +kernel
theorem dX10_strategyOf_109 : decode cX10_strategyOf 109 = .ok (.iload_n 3, 1) := by decide +kernel
theorem dX10_strategyOf_110 : decode cX10_strategyOf 110 = .ok (.iload_n 2, 1) := by decide +kernel
theorem dX10_strategyOf_111 : decode cX10_strategyOf 111 = .ok (.aload_n 0, 1) := by decide +kernel
theorem dX10_strategyOf_112 : decode cX10_strategyOf 112 = .ok (.aload_n 0, 1) := by decide +kernel
theorem dX10_strategyOf_113 : decode cX10_strategyOf 113 = .ok (.getfield 67, 3) := by decide +kernel
theorem dX10_strategyOf_116 : decode cX10_strategyOf 116 = .ok (.iload_n 2, 1) := by decide +kernel
theorem dX10_strategyOf_117 : decode cX10_strategyOf 117 = .ok (.iaload, 1) := by decide +kernel
theorem dX10_strategyOf_118 : decode cX10_strategyOf 118 = .ok (.invokevirtual 258, 3) := by decide +kernel
theorem dX10_strategyOf_121 : decode cX10_strategyOf 121 = .ok (.invokevirtual 142, 3) := by decide +kernel
theorem dX10_strategyOf_124 : decode cX10_strategyOf 124 = .ok (.ireturn, 1) := by decide +kernel
theorem dX10_strategy_0 : decode cX10_strategy 0 = .ok (.aload_n 0, 1) := by decide +kernel
theorem dX10_strategy_1 : decode cX10_strategy 1 = .ok (.iload_n 1, 1) := by decide +kernel
theorem dX10_strategy_2 : decode cX10_strategy 2 = .ok (.invokevirtual 203, 3) := by decide +kernel
theorem dX10_strategy_5 : decode cX10_strategy 5 = .ok (.ifCond .eq 11, 3) := by decide +kernel
theorem dX10_strategy_8 : decode cX10_strategy 8 = .ok (.aload_n 0, 1) := by decide +kernel
theorem dX10_strategy_9 : decode cX10_strategy 9 = .ok (.iload_n 2, 1) := by decide +kernel
theorem dX10_strategy_10 : decode cX10_strategy 10 = .ok (.invokevirtual 129, 3) := by decide +kernel
theorem dX10_strategy_13 : decode cX10_strategy 13 = .ok (.ifCond .ne 7, 3) := by decide +kernel
theorem dX10_strategy_16 : decode cX10_strategy 16 = .ok (.iconst (-1), 1) := by decide +kernel
theorem dX10_strategy_17 : decode cX10_strategy 17 = .ok (.goto 22, 3) := by decide +kernel
theorem dX10_strategy_20 : decode cX10_strategy 20 = .ok (.aload_n 0, 1) := by decide +kernel
theorem dX10_strategy_21 : decode cX10_strategy 21 = .ok (.iload_n 1, 1) := by decide +kernel
theorem dX10_strategy_22 : decode cX10_strategy 22 = .ok (.invokevirtual 261, 3) := by decide +kernel
theorem dX10_strategy_25 : decode cX10_strategy 25 = .ok (.ifCond .ne 8, 3) := by decide +kernel
theorem dX10_strategy_28 : decode cX10_strategy 28 = .ok (.bipush (-3), 2) := by decide +kernel
theorem dX10_strategy_30 : decode cX10_strategy 30 = .ok (.goto 9, 3) := by decide +kernel
theorem dX10_strategy_33 : decode cX10_strategy 33 = .ok (.aload_n 0, 1) := by decide +kernel
theorem dX10_strategy_34 : decode cX10_strategy 34 = .ok (.iload_n 1, 1) := by decide +kernel
theorem dX10_strategy_35 : decode cX10_strategy 35 = .ok (.iload_n 2, 1) := by decide +kernel
theorem dX10_strategy_36 : decode cX10_strategy 36 = .ok (.invokevirtual 264, 3) := by decide +kernel
theorem dX10_strategy_39 : decode cX10_strategy 39 = .ok (.ireturn, 1) := by decide +kernel
theorem dX10_plan_0 : decode cX10_plan 0 = .ok (.aload_n 0, 1) := by decide +kernel
theorem dX10_plan_1 : decode cX10_plan 1 = .ok (.iload_n 1, 1) := by decide +kernel
theorem dX10_plan_2 : decode cX10_plan 2 = .ok (.invokevirtual 129, 3) := by decide +kernel
theorem dX10_plan_5 : decode cX10_plan 5 = .ok (.ifCond .eq 20, 3) := by decide +kernel
theorem dX10_plan_8 : decode cX10_plan 8 = .ok (.aload_n 0, 1) := by decide +kernel
theorem dX10_plan_9 : decode cX10_plan 9 = .ok (.iload_n 2, 1) := by decide +kernel
theorem dX10_plan_10 : decode cX10_plan 10 = .ok (.invokevirtual 133, 3) := by decide +kernel
theorem dX10_plan_13 : decode cX10_plan 13 = .ok (.ifCond .eq 12, 3) := by decide +kernel
theorem dX10_plan_16 : decode cX10_plan 16 = .ok (.iload_n 3, 1) := by decide +kernel
theorem dX10_plan_17 : decode cX10_plan 17 = .ok (.iconst 0, 1) := by decide +kernel
theorem dX10_plan_18 : decode cX10_plan 18 = .ok (.iconst 2, 1) := by decide +kernel
theorem dX10_plan_19 : decode cX10_plan 19 = .ok (.invokestatic 93, 3) := by decide +kernel
theorem dX10_plan_22 : decode cX10_plan 22 = .ok (.ifCond .ne 5, 3) := by decide +kernel
theorem dX10_plan_25 : decode cX10_plan 25 = .ok (.iconst (-1), 1) := by decide +kernel
theorem dX10_plan_26 : decode cX10_plan 26 = .ok (.ireturn, 1) := by decide +kernel
theorem dX10_plan_27 : decode cX10_plan 27 = .ok (.aload_n 0, 1) := by decide +kernel
theorem dX10_plan_28 : decode cX10_plan 28 = .ok (.invokevirtual 122, 3) := by decide +kernel
theorem dX10_plan_31 : decode cX10_plan 31 = .ok (.aload_n 0, 1) := by decide +kernel
theorem dX10_plan_32 : decode cX10_plan 32 = .ok (.getfield 7, 3) := by decide +kernel
theorem dX10_plan_35 : decode cX10_plan 35 = .ok (.bipush 100, 2) := by decide +kernel
theorem dX10_plan_37 : decode cX10_plan 37 = .ok (.iload_n 1, 1) := by decide +kernel
theorem dX10_plan_38 : decode cX10_plan 38 = .ok (.imul, 1) := by decide +kernel
theorem dX10_plan_39 : decode cX10_plan 39 = .ok (.iconst 5, 1) := by decide +kernel
theorem dX10_plan_40 : decode cX10_plan 40 = .ok (.iadd, 1) := by decide +kernel
theorem dX10_plan_41 : decode cX10_plan 41 = .ok (.iload_n 2, 1) := by decide +kernel
theorem dX10_plan_42 : decode cX10_plan 42 = .ok (.iadd, 1) := by decide +kernel
theorem dX10_plan_43 : decode cX10_plan 43 = .ok (.iaload, 1) := by decide +kernel
theorem dX10_plan_44 : decode cX10_plan 44 = .ok (.istore 4, 2) := by decide +kernel
theorem dX10_plan_46 : decode cX10_plan 46 = .ok (.aload_n 0, 1) := by decide +kernel
theorem dX10_plan_47 : decode cX10_plan 47 = .ok (.getfield 7, 3) := by decide +kernel
theorem dX10_plan_50 : decode cX10_plan 50 = .ok (.bipush 100, 2) := by decide +kernel
theorem dX10_plan_52 : decode cX10_plan 52 = .ok (.iload_n 1, 1) := by decide +kernel
theorem dX10_plan_53 : decode cX10_plan 53 = .ok (.imul, 1) := by decide +kernel
theorem dX10_plan_54 : decode cX10_plan 54 = .ok (.iconst 5, 1) := by decide +kernel
theorem dX10_plan_55 : decode cX10_plan 55 = .ok (.iadd, 1) := by decide +kernel
theorem dX10_plan_56 : decode cX10_plan 56 = .ok (.iload_n 2, 1) := by decide +kernel
theorem dX10_plan_57 : decode cX10_plan 57 = .ok (.iadd, 1) := by decide +kernel
theorem dX10_plan_58 : decode cX10_plan 58 = .ok (.iload_n 3, 1) := by decide +kernel
theorem dX10_plan_59 : decode cX10_plan 59 = .ok (.iastore, 1) := by decide +kernel
theorem dX10_plan_60 : decode cX10_plan 60 = .ok (.iload 4, 2) := by decide +kernel
theorem dX10_plan_62 : decode cX10_plan 62 = .ok (.ireturn, 1) := by decide +kernel
theorem dX10_adopt_0 : decode cX10_adopt 0 = .ok (.aload_n 0, 1) := by decide +kernel
theorem dX10_adopt_1 : decode cX10_adopt 1 = .ok (.iload_n 1, 1) := by decide +kernel
theorem dX10_adopt_2 : decode cX10_adopt 2 = .ok (.invokevirtual 203, 3) := by decide +kernel
theorem dX10_adopt_5 : decode cX10_adopt 5 = .ok (.ifCond .ne 5, 3) := by decide +kernel
theorem dX10_adopt_8 : decode cX10_adopt 8 = .ok (.iconst (-1), 1) := by decide +kernel
theorem dX10_adopt_9 : decode cX10_adopt 9 = .ok (.ireturn, 1) := by decide +kernel
theorem dX10_adopt_10 : decode cX10_adopt 10 = .ok (.aload_n 0, 1) := by decide +kernel
theorem dX10_adopt_11 : decode cX10_adopt 11 = .ok (.iload_n 1, 1) := by decide +kernel
theorem dX10_adopt_12 : decode cX10_adopt 12 = .ok (.invokevirtual 261, 3) := by decide +kernel
theorem dX10_adopt_15 : decode cX10_adopt 15 = .ok (.ifCond .ne 6, 3) := by decide +kernel
theorem dX10_adopt_18 : decode cX10_adopt 18 = .ok (.bipush (-3), 2) := by decide +kernel
theorem dX10_adopt_20 : decode cX10_adopt 20 = .ok (.ireturn, 1) := by decide +kernel
theorem dX10_adopt_21 : decode cX10_adopt 21 = .ok (.aload_n 0, 1) := by decide +kernel
theorem dX10_adopt_22 : decode cX10_adopt 22 = .ok (.invokevirtual 122, 3) := by decide +kernel
theorem dX10_adopt_25 : decode cX10_adopt 25 = .ok (.iconst 0, 1) := by decide +kernel
theorem dX10_adopt_26 : decode cX10_adopt 26 = .ok (.istore_n 2, 1) := by decide +kernel
theorem dX10_adopt_27 : decode cX10_adopt 27 = .ok (.iconst 0, 1) := by decide +kernel
theorem dX10_adopt_28 : decode cX10_adopt 28 = .ok (.istore_n 3, 1) := by decide +kernel
theorem dX10_adopt_29 : decode cX10_adopt 29 = .ok (.iload_n 3, 1) := by decide +kernel
theorem dX10_adopt_30 : decode cX10_adopt 30 = .ok (.aload_n 0, 1) := by decide +kernel
theorem dX10_adopt_31 : decode cX10_adopt 31 = .ok (.getfield 7, 3) := by decide +kernel
theorem dX10_adopt_34 : decode cX10_adopt 34 = .ok (.sipush 1200, 3) := by decide +kernel
theorem dX10_adopt_37 : decode cX10_adopt 37 = .ok (.iaload, 1) := by decide +kernel
theorem dX10_adopt_38 : decode cX10_adopt 38 = .ok (.if_icmp .ge 141, 3) := by decide +kernel
theorem dX10_adopt_41 : decode cX10_adopt 41 = .ok (.aload_n 0, 1) := by decide +kernel
theorem dX10_adopt_42 : decode cX10_adopt 42 = .ok (.iload_n 1, 1) := by decide +kernel
theorem dX10_adopt_43 : decode cX10_adopt 43 = .ok (.iload_n 3, 1) := by decide +kernel
theorem dX10_adopt_44 : decode cX10_adopt 44 = .ok (.invokevirtual 264, 3) := by decide +kernel
theorem dX10_adopt_47 : decode cX10_adopt 47 = .ok (.istore 4, 2) := by decide +kernel
theorem dX10_adopt_49 : decode cX10_adopt 49 = .ok (.iconst 0, 1) := by decide +kernel
theorem dX10_adopt_50 : decode cX10_adopt 50 = .ok (.istore 5, 2) := by decide +kernel
theorem dX10_adopt_52 : decode cX10_adopt 52 = .ok (.iload 5, 2) := by decide +kernel
theorem dX10_adopt_54 : decode cX10_adopt 54 = .ok (.aload_n 0, 1) := by decide +kernel
theorem dX10_adopt_55 : decode cX10_adopt 55 = .ok (.getfield 82, 3) := by decide +kernel
theorem dX10_adopt_58 : decode cX10_adopt 58 = .ok (.if_icmp .ge 115, 3) := by decide +kernel
theorem dX10_adopt_61 : decode cX10_adopt 61 = .ok (.aload_n 0, 1) := by decide +kernel
theorem dX10_adopt_62 : decode cX10_adopt 62 = .ok (.getfield 34, 3) := by decide +kernel
theorem dX10_adopt_65 : decode cX10_adopt 65 = .ok (.aload_n 0, 1) := by decide +kernel
theorem dX10_adopt_66 : decode cX10_adopt 66 = .ok (.iload_n 1, 1) := by decide +kernel
theorem dX10_adopt_67 : decode cX10_adopt 67 = .ok (.invokevirtual 248, 3) := by decide +kernel
theorem dX10_adopt_70 : decode cX10_adopt 70 = .ok (.iaload, 1) := by decide +kernel
theorem dX10_adopt_71 : decode cX10_adopt 71 = .ok (.iload 5, 2) := by decide +kernel
theorem dX10_adopt_73 : decode cX10_adopt 73 = .ok (.ishr, 1) := by decide +kernel
theorem dX10_adopt_74 : decode cX10_adopt 74 = .ok (.iconst 1, 1) := by decide +kernel
theorem dX10_adopt_75 : decode cX10_adopt 75 = .ok (.iand, 1) := by decide +kernel
theorem dX10_adopt_76 : decode cX10_adopt 76 = .ok (.iconst 1, 1) := by decide +kernel
theorem dX10_adopt_77 : decode cX10_adopt 77 = .ok (.if_icmp .ne 7, 3) := by decide +kernel
theorem dX10_adopt_80 : decode cX10_adopt 80 = .ok (.iconst 1, 1) := by decide +kernel
theorem dX10_adopt_81 : decode cX10_adopt 81 = .ok (.goto 4, 3) := by decide +kernel
theorem dX10_adopt_84 : decode cX10_adopt 84 = .ok (.iconst 0, 1) := by decide +kernel
theorem dX10_adopt_85 : decode cX10_adopt 85 = .ok (.istore 6, 2) := by decide +kernel
theorem dX10_adopt_87 : decode cX10_adopt 87 = .ok (.iload_n 2, 1) := by decide +kernel
theorem dX10_adopt_88 : decode cX10_adopt 88 = .ok (.iload 6, 2) := by decide +kernel
theorem dX10_adopt_90 : decode cX10_adopt 90 = .ok (.ifCond .eq 31, 3) := by decide +kernel
theorem dX10_adopt_93 : decode cX10_adopt 93 = .ok (.aload_n 0, 1) := by decide +kernel
theorem dX10_adopt_94 : decode cX10_adopt 94 = .ok (.getfield 7, 3) := by decide +kernel
theorem dX10_adopt_97 : decode cX10_adopt 97 = .ok (.bipush 100, 2) := by decide +kernel
theorem dX10_adopt_99 : decode cX10_adopt 99 = .ok (.iload_n 3, 1) := by decide +kernel
theorem dX10_adopt_100 : decode cX10_adopt 100 = .ok (.imul, 1) := by decide +kernel
theorem dX10_adopt_101 : decode cX10_adopt 101 = .ok (.iconst 5, 1) := by decide +kernel
theorem dX10_adopt_102 : decode cX10_adopt 102 = .ok (.iadd, 1) := by decide +kernel
theorem dX10_adopt_103 : decode cX10_adopt 103 = .ok (.iload 5, 2) := by decide +kernel
theorem dX10_adopt_105 : decode cX10_adopt 105 = .ok (.iadd, 1) := by decide +kernel
theorem dX10_adopt_106 : decode cX10_adopt 106 = .ok (.iaload, 1) := by decide +kernel
theorem dX10_adopt_107 : decode cX10_adopt 107 = .ok (.iload 4, 2) := by decide +kernel
theorem dX10_adopt_109 : decode cX10_adopt 109 = .ok (.iload 5, 2) := by decide +kernel
theorem dX10_adopt_111 : decode cX10_adopt 111 = .ok (.invokestatic 101, 3) := by decide +kernel
theorem dX10_adopt_114 : decode cX10_adopt 114 = .ok (.if_icmp .eq 7, 3) := by decide +kernel
theorem dX10_adopt_117 : decode cX10_adopt 117 = .ok (.iconst 1, 1) := by decide +kernel
theorem dX10_adopt_118 : decode cX10_adopt 118 = .ok (.goto 4, 3) := by decide +kernel
theorem dX10_adopt_121 : decode cX10_adopt 121 = .ok (.iconst 0, 1) := by decide +kernel
theorem dX10_adopt_122 : decode cX10_adopt 122 = .ok (.iadd, 1) := by decide +kernel
theorem dX10_adopt_123 : decode cX10_adopt 123 = .ok (.istore_n 2, 1) := by decide +kernel
theorem dX10_adopt_124 : decode cX10_adopt 124 = .ok (.aload_n 0, 1) := by decide +kernel
theorem dX10_adopt_125 : decode cX10_adopt 125 = .ok (.getfield 7, 3) := by decide +kernel
theorem dX10_adopt_128 : decode cX10_adopt 128 = .ok (.bipush 100, 2) := by decide +kernel
theorem dX10_adopt_130 : decode cX10_adopt 130 = .ok (.iload_n 3, 1) := by decide +kernel
theorem dX10_adopt_131 : decode cX10_adopt 131 = .ok (.imul, 1) := by decide +kernel
theorem dX10_adopt_132 : decode cX10_adopt 132 = .ok (.iconst 5, 1) := by decide +kernel
theorem dX10_adopt_133 : decode cX10_adopt 133 = .ok (.iadd, 1) := by decide +kernel
theorem dX10_adopt_134 : decode cX10_adopt 134 = .ok (.iload 5, 2) := by decide +kernel
theorem dX10_adopt_136 : decode cX10_adopt 136 = .ok (.iadd, 1) := by decide +kernel
theorem dX10_adopt_137 : decode cX10_adopt 137 = .ok (.iload 6, 2) := by decide +kernel
theorem dX10_adopt_139 : decode cX10_adopt 139 = .ok (.ifCond .eq 13, 3) := by decide +kernel
theorem dX10_adopt_142 : decode cX10_adopt 142 = .ok (.iload 4, 2) := by decide +kernel
theorem dX10_adopt_144 : decode cX10_adopt 144 = .ok (.iload 5, 2) := by decide +kernel
theorem dX10_adopt_146 : decode cX10_adopt 146 = .ok (.invokestatic 101, 3) := by decide +kernel
theorem dX10_adopt_149 : decode cX10_adopt 149 = .ok (.goto 17, 3) := by decide +kernel
theorem dX10_adopt_152 : decode cX10_adopt 152 = .ok (.aload_n 0, 1) := by decide +kernel
theorem dX10_adopt_153 : decode cX10_adopt 153 = .ok (.getfield 7, 3) := by decide +kernel
theorem dX10_adopt_156 : decode cX10_adopt 156 = .ok (.bipush 100, 2) := by decide +kernel
theorem dX10_adopt_158 : decode cX10_adopt 158 = .ok (.iload_n 3, 1) := by decide +kernel
theorem dX10_adopt_159 : decode cX10_adopt 159 = .ok (.imul, 1) := by decide +kernel
theorem dX10_adopt_160 : decode cX10_adopt 160 = .ok (.iconst 5, 1) := by decide +kernel
theorem dX10_adopt_161 : decode cX10_adopt 161 = .ok (.iadd, 1) := by decide +kernel
theorem dX10_adopt_162 : decode cX10_adopt 162 = .ok (.iload 5, 2) := by decide +kernel
theorem dX10_adopt_164 : decode cX10_adopt 164 = .ok (.iadd, 1) := by decide +kernel
theorem dX10_adopt_165 : decode cX10_adopt 165 = .ok (.iaload, 1) := by decide +kernel
theorem dX10_adopt_166 : decode cX10_adopt 166 = .ok (.iastore, 1) := by decide +kernel
theorem dX10_adopt_167 : decode cX10_adopt 167 = .ok (.iinc 5 1, 3) := by decide +kernel
theorem dX10_adopt_170 : decode cX10_adopt 170 = .ok (.goto (-118), 3) := by decide +kernel
theorem dX10_adopt_173 : decode cX10_adopt 173 = .ok (.iinc 3 1, 3) := by decide +kernel
theorem dX10_adopt_176 : decode cX10_adopt 176 = .ok (.goto (-147), 3) := by decide +kernel
theorem dX10_adopt_179 : decode cX10_adopt 179 = .ok (.iload_n 2, 1) := by decide +kernel
theorem dX10_adopt_180 : decode cX10_adopt 180 = .ok (.ireturn, 1) := by decide +kernel
theorem dX10_planned_0 : decode cX10_planned 0 = .ok (.aload_n 0, 1) := by decide +kernel
theorem dX10_planned_1 : decode cX10_planned 1 = .ok (.iload_n 1, 1) := by decide +kernel
theorem dX10_planned_2 : decode cX10_planned 2 = .ok (.invokevirtual 129, 3) := by decide +kernel
theorem dX10_planned_5 : decode cX10_planned 5 = .ok (.ifCond .eq 27, 3) := by decide +kernel
theorem dX10_planned_8 : decode cX10_planned 8 = .ok (.aload_n 0, 1) := by decide +kernel
theorem dX10_planned_9 : decode cX10_planned 9 = .ok (.iload_n 2, 1) := by decide +kernel
theorem dX10_planned_10 : decode cX10_planned 10 = .ok (.invokevirtual 133, 3) := by decide +kernel
theorem dX10_planned_13 : decode cX10_planned 13 = .ok (.ifCond .eq 19, 3) := by decide +kernel
theorem dX10_planned_16 : decode cX10_planned 16 = .ok (.aload_n 0, 1) := by decide +kernel
theorem dX10_planned_17 : decode cX10_planned 17 = .ok (.getfield 7, 3) := by decide +kernel
theorem dX10_planned_20 : decode cX10_planned 20 = .ok (.bipush 100, 2) := by decide +kernel
theorem dX10_planned_22 : decode cX10_planned 22 = .ok (.iload_n 1, 1) := by decide +kernel
theorem dX10_planned_23 : decode cX10_planned 23 = .ok (.imul, 1) := by decide +kernel
theorem dX10_planned_24 : decode cX10_planned 24 = .ok (.iconst 5, 1) := by decide +kernel
theorem dX10_planned_25 : decode cX10_planned 25 = .ok (.iadd, 1) := by decide +kernel
theorem dX10_planned_26 : decode cX10_planned 26 = .ok (.iload_n 2, 1) := by decide +kernel
theorem dX10_planned_27 : decode cX10_planned 27 = .ok (.iadd, 1) := by decide +kernel
theorem dX10_planned_28 : decode cX10_planned 28 = .ok (.iaload, 1) := by decide +kernel
theorem dX10_planned_29 : decode cX10_planned 29 = .ok (.goto 4, 3) := by decide +kernel
theorem dX10_planned_32 : decode cX10_planned 32 = .ok (.iconst (-1), 1) := by decide +kernel
theorem dX10_planned_33 : decode cX10_planned 33 = .ok (.ireturn, 1) := by decide +kernel
theorem dX10_enforced_0 : decode cX10_enforced 0 = .ok (.aload_n 0, 1) := by decide +kernel
theorem dX10_enforced_1 : decode cX10_enforced 1 = .ok (.iload_n 1, 1) := by decide +kernel
theorem dX10_enforced_2 : decode cX10_enforced 2 = .ok (.invokevirtual 203, 3) := by decide +kernel
theorem dX10_enforced_5 : decode cX10_enforced 5 = .ok (.ifCond .ne 5, 3) := by decide +kernel
theorem dX10_enforced_8 : decode cX10_enforced 8 = .ok (.iconst (-1), 1) := by decide +kernel
theorem dX10_enforced_9 : decode cX10_enforced 9 = .ok (.ireturn, 1) := by decide +kernel
theorem dX10_enforced_10 : decode cX10_enforced 10 = .ok (.aload_n 0, 1) := by decide +kernel
theorem dX10_enforced_11 : decode cX10_enforced 11 = .ok (.iload_n 1, 1) := by decide +kernel
theorem dX10_enforced_12 : decode cX10_enforced 12 = .ok (.invokevirtual 261, 3) := by decide +kernel
theorem dX10_enforced_15 : decode cX10_enforced 15 = .ok (.ifCond .ne 6, 3) := by decide +kernel
theorem dX10_enforced_18 : decode cX10_enforced 18 = .ok (.bipush (-3), 2) := by decide +kernel
theorem dX10_enforced_20 : decode cX10_enforced 20 = .ok (.ireturn, 1) := by decide +kernel
theorem dX10_enforced_21 : decode cX10_enforced 21 = .ok (.aload_n 0, 1) := by decide +kernel
theorem dX10_enforced_22 : decode cX10_enforced 22 = .ok (.iload_n 1, 1) := by decide +kernel
theorem dX10_enforced_23 : decode cX10_enforced 23 = .ok (.invokevirtual 242, 3) := by decide +kernel
theorem dX10_enforced_26 : decode cX10_enforced 26 = .ok (.aload_n 0, 1) := by decide +kernel
theorem dX10_enforced_27 : decode cX10_enforced 27 = .ok (.iload_n 1, 1) := by decide +kernel
theorem dX10_enforced_28 : decode cX10_enforced 28 = .ok (.invokevirtual 248, 3) := by decide +kernel
theorem dX10_enforced_31 : decode cX10_enforced 31 = .ok (.istore_n 2, 1) := by decide +kernel
theorem dX10_enforced_32 : decode cX10_enforced 32 = .ok (.aload_n 0, 1) := by decide +kernel
theorem dX10_enforced_33 : decode cX10_enforced 33 = .ok (.getfield 25, 3) := by decide +kernel
theorem dX10_enforced_36 : decode cX10_enforced 36 = .ok (.iload_n 2, 1) := by decide +kernel
theorem dX10_enforced_37 : decode cX10_enforced 37 = .ok (.iaload, 1) := by decide +kernel
theorem dX10_enforced_38 : decode cX10_enforced 38 = .ok (.bipush 9, 2) := by decide +kernel
theorem dX10_enforced_40 : decode cX10_enforced 40 = .ok (.if_icmp .ne 12, 3) := by decide +kernel
theorem dX10_enforced_43 : decode cX10_enforced 43 = .ok (.aload_n 0, 1) := by decide +kernel
theorem dX10_enforced_44 : decode cX10_enforced 44 = .ok (.iload_n 1, 1) := by decide +kernel
theorem dX10_enforced_45 : decode cX10_enforced 45 = .ok (.iconst 1, 1) := by decide +kernel
theorem dX10_enforced_46 : decode cX10_enforced 46 = .ok (.invokevirtual 251, 3) := by decide +kernel
theorem dX10_enforced_49 : decode cX10_enforced 49 = .ok (.goto 4, 3) := by decide +kernel
theorem dX10_enforced_52 : decode cX10_enforced 52 = .ok (.iconst 0, 1) := by decide +kernel
theorem dX10_enforced_53 : decode cX10_enforced 53 = .ok (.istore_n 3, 1) := by decide +kernel
theorem dX10_enforced_54 : decode cX10_enforced 54 = .ok (.aload_n 0, 1) := by decide +kernel
theorem dX10_enforced_55 : decode cX10_enforced 55 = .ok (.iconst 1, 1) := by decide +kernel
theorem dX10_enforced_56 : decode cX10_enforced 56 = .ok (.putfield 209, 3) := by decide +kernel
theorem dX10_enforced_59 : decode cX10_enforced 59 = .ok (.aload_n 0, 1) := by decide +kernel
theorem dX10_enforced_60 : decode cX10_enforced 60 = .ok (.aload_n 0, 1) := by decide +kernel
theorem dX10_enforced_61 : decode cX10_enforced 61 = .ok (.getfield 25, 3) := by decide +kernel
theorem dX10_enforced_64 : decode cX10_enforced 64 = .ok (.iload_n 2, 1) := by decide +kernel
theorem dX10_enforced_65 : decode cX10_enforced 65 = .ok (.iaload, 1) := by decide +kernel
theorem dX10_enforced_66 : decode cX10_enforced 66 = .ok (.aload_n 0, 1) := by decide +kernel
theorem dX10_enforced_67 : decode cX10_enforced 67 = .ok (.getfield 34, 3) := by decide +kernel
theorem dX10_enforced_70 : decode cX10_enforced 70 = .ok (.iload_n 2, 1) := by decide +kernel
theorem dX10_enforced_71 : decode cX10_enforced 71 = .ok (.iaload, 1) := by decide +kernel
theorem dX10_enforced_72 : decode cX10_enforced 72 = .ok (.aload_n 0, 1) := by decide +kernel
theorem dX10_enforced_73 : decode cX10_enforced 73 = .ok (.iload_n 1, 1) := by decide +kernel
theorem dX10_enforced_74 : decode cX10_enforced 74 = .ok (.iconst 0, 1) := by decide +kernel
theorem dX10_enforced_75 : decode cX10_enforced 75 = .ok (.invokevirtual 251, 3) := by decide +kernel
theorem dX10_enforced_78 : decode cX10_enforced 78 = .ok (.iload_n 3, 1) := by decide +kernel
theorem dX10_enforced_79 : decode cX10_enforced 79 = .ok (.invokevirtual 236, 3) := by decide +kernel
theorem dX10_enforced_82 : decode cX10_enforced 82 = .ok (.istore 4, 2) := by decide +kernel
theorem dX10_enforced_84 : decode cX10_enforced 84 = .ok (.aload_n 0, 1) := by decide +kernel
theorem dX10_enforced_85 : decode cX10_enforced 85 = .ok (.iconst 0, 1) := by decide +kernel
theorem dX10_enforced_86 : decode cX10_enforced 86 = .ok (.putfield 209, 3) := by decide +kernel
theorem dX10_enforced_89 : decode cX10_enforced 89 = .ok (.iload 4, 2) := by decide +kernel
theorem dX10_enforced_91 : decode cX10_enforced 91 = .ok (.ireturn, 1) := by decide +kernel
theorem dX10_stirred_0 : decode cX10_stirred 0 = .ok (.ldc_w 267, 3) := by decide +kernel
theorem dX10_stirred_3 : decode cX10_stirred 3 = .ok (.iload_n 0, 1) := by decide +kernel
theorem dX10_stirred_4 : decode cX10_stirred 4 = .ok (.imul, 1) := by decide +kernel
theorem dX10_stirred_5 : decode cX10_stirred 5 = .ok (.sipush 12345, 3) := by decide +kernel
theorem dX10_stirred_8 : decode cX10_stirred 8 = .ok (.iadd, 1) := by decide +kernel
theorem dX10_stirred_9 : decode cX10_stirred 9 = .ok (.ldc_w 268, 3) := by decide +kernel
theorem dX10_stirred_12 : decode cX10_stirred 12 = .ok (.iand, 1) := by decide +kernel
theorem dX10_stirred_13 : decode cX10_stirred 13 = .ok (.ireturn, 1) := by decide +kernel
theorem dX10_jointAt_0 : decode cX10_jointAt 0 = .ok (.iload_n 3, 1) := by decide +kernel
theorem dX10_jointAt_1 : decode cX10_jointAt 1 = .ok (.istore 4, 2) := by decide +kernel
theorem dX10_jointAt_3 : decode cX10_jointAt 3 = .ok (.iconst 0, 1) := by decide +kernel
theorem dX10_jointAt_4 : decode cX10_jointAt 4 = .ok (.istore 5, 2) := by decide +kernel
theorem dX10_jointAt_6 : decode cX10_jointAt 6 = .ok (.iload 5, 2) := by decide +kernel
theorem dX10_jointAt_8 : decode cX10_jointAt 8 = .ok (.bipush 81, 2) := by decide +kernel
theorem dX10_jointAt_10 : decode cX10_jointAt 10 = .ok (.if_icmp .ge 31, 3) := by decide +kernel
theorem dX10_jointAt_13 : decode cX10_jointAt 13 = .ok (.aload_n 0, 1) := by decide +kernel
theorem dX10_jointAt_14 : decode cX10_jointAt 14 = .ok (.iload_n 1, 1) := by decide +kernel
theorem dX10_jointAt_15 : decode cX10_jointAt 15 = .ok (.iload_n 2, 1) := by decide +kernel
theorem dX10_jointAt_16 : decode cX10_jointAt 16 = .ok (.iload 5, 2) := by decide +kernel
theorem dX10_jointAt_18 : decode cX10_jointAt 18 = .ok (.invokevirtual 145, 3) := by decide +kernel
theorem dX10_jointAt_21 : decode cX10_jointAt 21 = .ok (.ifCond .eq 14, 3) := by decide +kernel
theorem dX10_jointAt_24 : decode cX10_jointAt 24 = .ok (.iload 4, 2) := by decide +kernel
theorem dX10_jointAt_26 : decode cX10_jointAt 26 = .ok (.ifCond .ne 6, 3) := by decide +kernel
theorem dX10_jointAt_29 : decode cX10_jointAt 29 = .ok (.iload 5, 2) := by decide +kernel
theorem dX10_jointAt_31 : decode cX10_jointAt 31 = .ok (.ireturn, 1) := by decide +kernel
theorem dX10_jointAt_32 : decode cX10_jointAt 32 = .ok (.iinc 4 (-1), 3) := by decide +kernel
theorem dX10_jointAt_35 : decode cX10_jointAt 35 = .ok (.iinc 5 1, 3) := by decide +kernel
theorem dX10_jointAt_38 : decode cX10_jointAt 38 = .ok (.goto (-32), 3) := by decide +kernel
theorem dX10_jointAt_41 : decode cX10_jointAt 41 = .ok (.bipush (-9), 2) := by decide +kernel
theorem dX10_jointAt_43 : decode cX10_jointAt 43 = .ok (.ireturn, 1) := by decide +kernel
theorem dX10_jointMany_0 : decode cX10_jointMany 0 = .ok (.iconst 1, 1) := by decide +kernel
theorem dX10_jointMany_1 : decode cX10_jointMany 1 = .ok (.istore_n 3, 1) := by decide +kernel
theorem dX10_jointMany_2 : decode cX10_jointMany 2 = .ok (.iconst 0, 1) := by decide +kernel
theorem dX10_jointMany_3 : decode cX10_jointMany 3 = .ok (.istore 4, 2) := by decide +kernel
theorem dX10_jointMany_5 : decode cX10_jointMany 5 = .ok (.iload 4, 2) := by decide +kernel
theorem dX10_jointMany_7 : decode cX10_jointMany 7 = .ok (.aload_n 0, 1) := by decide +kernel
theorem dX10_jointMany_8 : decode cX10_jointMany 8 = .ok (.getfield 82, 3) := by decide +kernel
theorem dX10_jointMany_11 : decode cX10_jointMany 11 = .ok (.if_icmp .ge 40, 3) := by decide +kernel
theorem dX10_jointMany_14 : decode cX10_jointMany 14 = .ok (.iload_n 3, 1) := by decide +kernel
theorem dX10_jointMany_15 : decode cX10_jointMany 15 = .ok (.iload_n 1, 1) := by decide +kernel
theorem dX10_jointMany_16 : decode cX10_jointMany 16 = .ok (.iload 4, 2) := by decide +kernel
theorem dX10_jointMany_18 : decode cX10_jointMany 18 = .ok (.ishr, 1) := by decide +kernel
theorem dX10_jointMany_19 : decode cX10_jointMany 19 = .ok (.iconst 1, 1) := by decide +kernel
theorem dX10_jointMany_20 : decode cX10_jointMany 20 = .ok (.iand, 1) := by decide +kernel
theorem dX10_jointMany_21 : decode cX10_jointMany 21 = .ok (.iconst 1, 1) := by decide +kernel
theorem dX10_jointMany_22 : decode cX10_jointMany 22 = .ok (.if_icmp .ne 20, 3) := by decide +kernel
theorem dX10_jointMany_25 : decode cX10_jointMany 25 = .ok (.aload_n 0, 1) := by decide +kernel
theorem dX10_jointMany_26 : decode cX10_jointMany 26 = .ok (.getfield 7, 3) := by decide +kernel
theorem dX10_jointMany_29 : decode cX10_jointMany 29 = .ok (.bipush 100, 2) := by decide +kernel
theorem dX10_jointMany_31 : decode cX10_jointMany 31 = .ok (.iload_n 2, 1) := by decide +kernel
theorem dX10_jointMany_32 : decode cX10_jointMany 32 = .ok (.imul, 1) := by decide +kernel
theorem dX10_jointMany_33 : decode cX10_jointMany 33 = .ok (.iconst 1, 1) := by decide +kernel
theorem dX10_jointMany_34 : decode cX10_jointMany 34 = .ok (.iadd, 1) := by decide +kernel
theorem dX10_jointMany_35 : decode cX10_jointMany 35 = .ok (.iload 4, 2) := by decide +kernel
theorem dX10_jointMany_37 : decode cX10_jointMany 37 = .ok (.iadd, 1) := by decide +kernel
theorem dX10_jointMany_38 : decode cX10_jointMany 38 = .ok (.iaload, 1) := by decide +kernel
theorem dX10_jointMany_39 : decode cX10_jointMany 39 = .ok (.goto 4, 3) := by decide +kernel
theorem dX10_jointMany_42 : decode cX10_jointMany 42 = .ok (.iconst 1, 1) := by decide +kernel
theorem dX10_jointMany_43 : decode cX10_jointMany 43 = .ok (.imul, 1) := by decide +kernel
theorem dX10_jointMany_44 : decode cX10_jointMany 44 = .ok (.istore_n 3, 1) := by decide +kernel
theorem dX10_jointMany_45 : decode cX10_jointMany 45 = .ok (.iinc 4 1, 3) := by decide +kernel
theorem dX10_jointMany_48 : decode cX10_jointMany 48 = .ok (.goto (-43), 3) := by decide +kernel
theorem dX10_jointMany_51 : decode cX10_jointMany 51 = .ok (.iload_n 3, 1) := by decide +kernel
theorem dX10_jointMany_52 : decode cX10_jointMany 52 = .ok (.ireturn, 1) := by decide +kernel
theorem dX10_play_0 : decode cX10_play 0 = .ok (.aload_n 0, 1) := by decide +kernel
theorem dX10_play_1 : decode cX10_play 1 = .ok (.iload_n 1, 1) := by decide +kernel
theorem dX10_play_2 : decode cX10_play 2 = .ok (.invokevirtual 203, 3) := by decide +kernel
theorem dX10_play_5 : decode cX10_play 5 = .ok (.ifCond .eq 22, 3) := by decide +kernel
theorem dX10_play_8 : decode cX10_play 8 = .ok (.aload_n 0, 1) := by decide +kernel
theorem dX10_play_9 : decode cX10_play 9 = .ok (.iload_n 2, 1) := by decide +kernel
theorem dX10_play_10 : decode cX10_play 10 = .ok (.invokevirtual 129, 3) := by decide +kernel
theorem dX10_play_13 : decode cX10_play 13 = .ok (.ifCond .eq 14, 3) := by decide +kernel
theorem dX10_play_16 : decode cX10_play 16 = .ok (.iload_n 3, 1) := by decide +kernel
theorem dX10_play_17 : decode cX10_play 17 = .ok (.iconst 0, 1) := by decide +kernel
theorem dX10_play_18 : decode cX10_play 18 = .ok (.sipush 200, 3) := by decide +kernel
theorem dX10_play_21 : decode cX10_play 21 = .ok (.invokestatic 93, 3) := by decide +kernel
theorem dX10_play_24 : decode cX10_play 24 = .ok (.ifCond .ne 5, 3) := by decide +kernel
theorem dX10_play_27 : decode cX10_play 27 = .ok (.iconst (-1), 1) := by decide +kernel
theorem dX10_play_28 : decode cX10_play 28 = .ok (.ireturn, 1) := by decide +kernel
theorem dX10_play_29 : decode cX10_play 29 = .ok (.aload_n 0, 1) := by decide +kernel
theorem dX10_play_30 : decode cX10_play 30 = .ok (.iload_n 1, 1) := by decide +kernel
theorem dX10_play_31 : decode cX10_play 31 = .ok (.invokevirtual 261, 3) := by decide +kernel
theorem dX10_play_34 : decode cX10_play 34 = .ok (.ifCond .ne 6, 3) := by decide +kernel
theorem dX10_play_37 : decode cX10_play 37 = .ok (.bipush (-3), 2) := by decide +kernel
theorem dX10_play_39 : decode cX10_play 39 = .ok (.ireturn, 1) := by decide +kernel
theorem dX10_play_40 : decode cX10_play 40 = .ok (.aload_n 0, 1) := by decide +kernel
theorem dX10_play_41 : decode cX10_play 41 = .ok (.getfield 34, 3) := by decide +kernel
theorem dX10_play_44 : decode cX10_play 44 = .ok (.aload_n 0, 1) := by decide +kernel
theorem dX10_play_45 : decode cX10_play 45 = .ok (.iload_n 1, 1) := by decide +kernel
theorem dX10_play_46 : decode cX10_play 46 = .ok (.invokevirtual 248, 3) := by decide +kernel
theorem dX10_play_49 : decode cX10_play 49 = .ok (.iaload, 1) := by decide +kernel
theorem dX10_play_50 : decode cX10_play 50 = .ok (.istore 5, 2) := by decide +kernel
theorem dX10_play_52 : decode cX10_play 52 = .ok (.iconst 1, 1) := by decide +kernel
theorem dX10_play_53 : decode cX10_play 53 = .ok (.aload_n 0, 1) := by decide +kernel
theorem dX10_play_54 : decode cX10_play 54 = .ok (.getfield 82, 3) := by decide +kernel
theorem dX10_play_57 : decode cX10_play 57 = .ok (.ishl, 1) := by decide +kernel
theorem dX10_play_58 : decode cX10_play 58 = .ok (.iconst 1, 1) := by decide +kernel
theorem dX10_play_59 : decode cX10_play 59 = .ok (.isub, 1) := by decide +kernel
theorem dX10_play_60 : decode cX10_play 60 = .ok (.iload 5, 2) := by decide +kernel
theorem dX10_play_62 : decode cX10_play 62 = .ok (.iconst (-1), 1) := by decide +kernel
theorem dX10_play_63 : decode cX10_play 63 = .ok (.ixor, 1) := by decide +kernel
theorem dX10_play_64 : decode cX10_play 64 = .ok (.iand, 1) := by decide +kernel
theorem dX10_play_65 : decode cX10_play 65 = .ok (.istore 6, 2) := by decide +kernel
theorem dX10_play_67 : decode cX10_play 67 = .ok (.iload_n 2, 1) := by decide +kernel
theorem dX10_play_68 : decode cX10_play 68 = .ok (.istore 7, 2) := by decide +kernel
theorem dX10_play_70 : decode cX10_play 70 = .ok (.iload 4, 2) := by decide +kernel
theorem dX10_play_72 : decode cX10_play 72 = .ok (.invokestatic 269, 3) := by decide +kernel
theorem dX10_play_75 : decode cX10_play 75 = .ok (.istore 8, 2) := by decide +kernel
theorem dX10_play_77 : decode cX10_play 77 = .ok (.iconst 0, 1) := by decide +kernel
theorem dX10_play_78 : decode cX10_play 78 = .ok (.istore 9, 2) := by decide +kernel
theorem dX10_play_80 : decode cX10_play 80 = .ok (.iload 9, 2) := by decide +kernel
theorem dX10_play_82 : decode cX10_play 82 = .ok (.iload_n 3, 1) := by decide +kernel
theorem dX10_play_83 : decode cX10_play 83 = .ok (.if_icmp .ge 64, 3) := by decide +kernel
theorem dX10_play_86 : decode cX10_play 86 = .ok (.aload_n 0, 1) := by decide +kernel
theorem dX10_play_87 : decode cX10_play 87 = .ok (.iload 5, 2) := by decide +kernel
theorem dX10_play_89 : decode cX10_play 89 = .ok (.iload 7, 2) := by decide +kernel
theorem dX10_play_91 : decode cX10_play 91 = .ok (.invokevirtual 212, 3) := by decide +kernel
theorem dX10_play_94 : decode cX10_play 94 = .ok (.aload_n 0, 1) := by decide +kernel
theorem dX10_play_95 : decode cX10_play 95 = .ok (.iload 6, 2) := by decide +kernel
theorem dX10_play_97 : decode cX10_play 97 = .ok (.iload 7, 2) := by decide +kernel
theorem dX10_play_99 : decode cX10_play 99 = .ok (.iload 8, 2) := by decide +kernel
theorem dX10_play_101 : decode cX10_play 101 = .ok (.aload_n 0, 1) := by decide +kernel
theorem dX10_play_102 : decode cX10_play 102 = .ok (.iload 6, 2) := by decide +kernel
theorem dX10_play_104 : decode cX10_play 104 = .ok (.iload 7, 2) := by decide +kernel
theorem dX10_play_106 : decode cX10_play 106 = .ok (.invokevirtual 272, 3) := by decide +kernel
theorem dX10_play_109 : decode cX10_play 109 = .ok (.irem, 1) := by decide +kernel
theorem dX10_play_110 : decode cX10_play 110 = .ok (.invokevirtual 275, 3) := by decide +kernel
theorem dX10_play_113 : decode cX10_play 113 = .ok (.iadd, 1) := by decide +kernel
theorem dX10_play_114 : decode cX10_play 114 = .ok (.istore 10, 2) := by decide +kernel
theorem dX10_play_116 : decode cX10_play 116 = .ok (.aload_n 0, 1) := by decide +kernel
theorem dX10_play_117 : decode cX10_play 117 = .ok (.getfield 7, 3) := by decide +kernel
theorem dX10_play_120 : decode cX10_play 120 = .ok (.bipush 100, 2) := by decide +kernel
theorem dX10_play_122 : decode cX10_play 122 = .ok (.iload 7, 2) := by decide +kernel
theorem dX10_play_124 : decode cX10_play 124 = .ok (.imul, 1) := by decide +kernel
theorem dX10_play_125 : decode cX10_play 125 = .ok (.bipush 10, 2) := by decide +kernel
theorem dX10_play_127 : decode cX10_play 127 = .ok (.iadd, 1) := by decide +kernel
theorem dX10_play_128 : decode cX10_play 128 = .ok (.iload 10, 2) := by decide +kernel
theorem dX10_play_130 : decode cX10_play 130 = .ok (.iadd, 1) := by decide +kernel
theorem dX10_play_131 : decode cX10_play 131 = .ok (.iaload, 1) := by decide +kernel
theorem dX10_play_132 : decode cX10_play 132 = .ok (.istore 7, 2) := by decide +kernel
theorem dX10_play_134 : decode cX10_play 134 = .ok (.iload 8, 2) := by decide +kernel
theorem dX10_play_136 : decode cX10_play 136 = .ok (.invokestatic 269, 3) := by decide +kernel
theorem dX10_play_139 : decode cX10_play 139 = .ok (.istore 8, 2) := by decide +kernel
theorem dX10_play_141 : decode cX10_play 141 = .ok (.iinc 9 1, 3) := by decide +kernel
theorem dX10_play_144 : decode cX10_play 144 = .ok (.goto (-64), 3) := by decide +kernel
theorem dX10_play_147 : decode cX10_play 147 = .ok (.iload 7, 2) := by decide +kernel
theorem dX10_play_149 : decode cX10_play 149 = .ok (.ireturn, 1) := by decide +kernel
theorem dX10_smallest_0 : decode cX10_smallest 0 = .ok (.aload_n 0, 1) := by decide +kernel
theorem dX10_smallest_1 : decode cX10_smallest 1 = .ok (.iload_n 1, 1) := by decide +kernel
theorem dX10_smallest_2 : decode cX10_smallest 2 = .ok (.invokevirtual 203, 3) := by decide +kernel
theorem dX10_smallest_5 : decode cX10_smallest 5 = .ok (.ifCond .eq 11, 3) := by decide +kernel
theorem dX10_smallest_8 : decode cX10_smallest 8 = .ok (.aload_n 0, 1) := by decide +kernel
theorem dX10_smallest_9 : decode cX10_smallest 9 = .ok (.iload_n 2, 1) := by decide +kernel
theorem dX10_smallest_10 : decode cX10_smallest 10 = .ok (.invokevirtual 129, 3) := by decide +kernel
theorem dX10_smallest_13 : decode cX10_smallest 13 = .ok (.ifCond .ne 5, 3) := by decide +kernel
theorem dX10_smallest_16 : decode cX10_smallest 16 = .ok (.iconst (-1), 1) := by decide +kernel
theorem dX10_smallest_17 : decode cX10_smallest 17 = .ok (.ireturn, 1) := by decide +kernel
theorem dX10_smallest_18 : decode cX10_smallest 18 = .ok (.aload_n 0, 1) := by decide +kernel
theorem dX10_smallest_19 : decode cX10_smallest 19 = .ok (.iload_n 1, 1) := by decide +kernel
theorem dX10_smallest_20 : decode cX10_smallest 20 = .ok (.invokevirtual 261, 3) := by decide +kernel
theorem dX10_smallest_23 : decode cX10_smallest 23 = .ok (.ifCond .ne 6, 3) := by decide +kernel
theorem dX10_smallest_26 : decode cX10_smallest 26 = .ok (.bipush (-3), 2) := by decide +kernel
theorem dX10_smallest_28 : decode cX10_smallest 28 = .ok (.ireturn, 1) := by decide +kernel
theorem dX10_smallest_29 : decode cX10_smallest 29 = .ok (.aload_n 0, 1) := by decide +kernel
theorem dX10_smallest_30 : decode cX10_smallest 30 = .ok (.iload_n 1, 1) := by decide +kernel
theorem dX10_smallest_31 : decode cX10_smallest 31 = .ok (.invokevirtual 242, 3) := by decide +kernel
theorem dX10_smallest_34 : decode cX10_smallest 34 = .ok (.aload_n 0, 1) := by decide +kernel
theorem dX10_smallest_35 : decode cX10_smallest 35 = .ok (.iload_n 1, 1) := by decide +kernel
theorem dX10_smallest_36 : decode cX10_smallest 36 = .ok (.invokevirtual 248, 3) := by decide +kernel
theorem dX10_smallest_39 : decode cX10_smallest 39 = .ok (.istore_n 3, 1) := by decide +kernel
theorem dX10_smallest_40 : decode cX10_smallest 40 = .ok (.aload_n 0, 1) := by decide +kernel
theorem dX10_smallest_41 : decode cX10_smallest 41 = .ok (.iload_n 1, 1) := by decide +kernel
theorem dX10_smallest_42 : decode cX10_smallest 42 = .ok (.iconst 0, 1) := by decide +kernel
theorem dX10_smallest_43 : decode cX10_smallest 43 = .ok (.invokevirtual 251, 3) := by decide +kernel
theorem dX10_smallest_46 : decode cX10_smallest 46 = .ok (.istore 4, 2) := by decide +kernel
theorem dX10_smallest_48 : decode cX10_smallest 48 = .ok (.aload_n 0, 1) := by decide +kernel
theorem dX10_smallest_49 : decode cX10_smallest 49 = .ok (.getfield 25, 3) := by decide +kernel
theorem dX10_smallest_52 : decode cX10_smallest 52 = .ok (.iload_n 3, 1) := by decide +kernel
theorem dX10_smallest_53 : decode cX10_smallest 53 = .ok (.iaload, 1) := by decide +kernel
theorem dX10_smallest_54 : decode cX10_smallest 54 = .ok (.bipush 9, 2) := by decide +kernel
theorem dX10_smallest_56 : decode cX10_smallest 56 = .ok (.if_icmp .ne 12, 3) := by decide +kernel
theorem dX10_smallest_59 : decode cX10_smallest 59 = .ok (.aload_n 0, 1) := by decide +kernel
theorem dX10_smallest_60 : decode cX10_smallest 60 = .ok (.iload_n 1, 1) := by decide +kernel
theorem dX10_smallest_61 : decode cX10_smallest 61 = .ok (.iconst 1, 1) := by decide +kernel
theorem dX10_smallest_62 : decode cX10_smallest 62 = .ok (.invokevirtual 251, 3) := by decide +kernel
theorem dX10_smallest_65 : decode cX10_smallest 65 = .ok (.goto 4, 3) := by decide +kernel
theorem dX10_smallest_68 : decode cX10_smallest 68 = .ok (.iconst 0, 1) := by decide +kernel
theorem dX10_smallest_69 : decode cX10_smallest 69 = .ok (.istore 5, 2) := by decide +kernel
theorem dX10_smallest_71 : decode cX10_smallest 71 = .ok (.iconst 0, 1) := by decide +kernel
theorem dX10_smallest_72 : decode cX10_smallest 72 = .ok (.istore 6, 2) := by decide +kernel
theorem dX10_smallest_74 : decode cX10_smallest 74 = .ok (.iload 6, 2) := by decide +kernel
theorem dX10_smallest_76 : decode cX10_smallest 76 = .ok (.aload_n 0, 1) := by decide +kernel
theorem dX10_smallest_77 : decode cX10_smallest 77 = .ok (.getfield 82, 3) := by decide +kernel
theorem dX10_smallest_80 : decode cX10_smallest 80 = .ok (.if_icmp .gt 90, 3) := by decide +kernel
theorem dX10_smallest_83 : decode cX10_smallest 83 = .ok (.iconst 0, 1) := by decide +kernel
theorem dX10_smallest_84 : decode cX10_smallest 84 = .ok (.istore 7, 2) := by decide +kernel
theorem dX10_smallest_86 : decode cX10_smallest 86 = .ok (.iload 7, 2) := by decide +kernel
theorem dX10_smallest_88 : decode cX10_smallest 88 = .ok (.iconst 1, 1) := by decide +kernel
theorem dX10_smallest_89 : decode cX10_smallest 89 = .ok (.aload_n 0, 1) := by decide +kernel
theorem dX10_smallest_90 : decode cX10_smallest 90 = .ok (.getfield 82, 3) := by decide +kernel
theorem dX10_smallest_93 : decode cX10_smallest 93 = .ok (.ishl, 1) := by decide +kernel
theorem dX10_smallest_94 : decode cX10_smallest 94 = .ok (.if_icmp .ge 70, 3) := by decide +kernel
theorem dX10_smallest_97 : decode cX10_smallest 97 = .ok (.iload 7, 2) := by decide +kernel
theorem dX10_smallest_99 : decode cX10_smallest 99 = .ok (.iconst 1, 1) := by decide +kernel
theorem dX10_smallest_100 : decode cX10_smallest 100 = .ok (.iand, 1) := by decide +kernel
theorem dX10_smallest_101 : decode cX10_smallest 101 = .ok (.iload 7, 2) := by decide +kernel
theorem dX10_smallest_103 : decode cX10_smallest 103 = .ok (.iconst 1, 1) := by decide +kernel
theorem dX10_smallest_104 : decode cX10_smallest 104 = .ok (.ishr, 1) := by decide +kernel
theorem dX10_smallest_105 : decode cX10_smallest 105 = .ok (.iconst 1, 1) := by decide +kernel
theorem dX10_smallest_106 : decode cX10_smallest 106 = .ok (.iand, 1) := by decide +kernel
theorem dX10_smallest_107 : decode cX10_smallest 107 = .ok (.iadd, 1) := by decide +kernel
theorem dX10_smallest_108 : decode cX10_smallest 108 = .ok (.iload 7, 2) := by decide +kernel
theorem dX10_smallest_110 : decode cX10_smallest 110 = .ok (.iconst 2, 1) := by decide +kernel
theorem dX10_smallest_111 : decode cX10_smallest 111 = .ok (.ishr, 1) := by decide +kernel
theorem dX10_smallest_112 : decode cX10_smallest 112 = .ok (.iconst 1, 1) := by decide +kernel
theorem dX10_smallest_113 : decode cX10_smallest 113 = .ok (.iand, 1) := by decide +kernel
theorem dX10_smallest_114 : decode cX10_smallest 114 = .ok (.iadd, 1) := by decide +kernel
theorem dX10_smallest_115 : decode cX10_smallest 115 = .ok (.iload 7, 2) := by decide +kernel
theorem dX10_smallest_117 : decode cX10_smallest 117 = .ok (.iconst 3, 1) := by decide +kernel
theorem dX10_smallest_118 : decode cX10_smallest 118 = .ok (.ishr, 1) := by decide +kernel
theorem dX10_smallest_119 : decode cX10_smallest 119 = .ok (.iconst 1, 1) := by decide +kernel
theorem dX10_smallest_120 : decode cX10_smallest 120 = .ok (.iand, 1) := by decide +kernel
theorem dX10_smallest_121 : decode cX10_smallest 121 = .ok (.iadd, 1) := by decide +kernel
theorem dX10_smallest_122 : decode cX10_smallest 122 = .ok (.istore 8, 2) := by decide +kernel
theorem dX10_smallest_124 : decode cX10_smallest 124 = .ok (.iload 8, 2) := by decide +kernel
theorem dX10_smallest_126 : decode cX10_smallest 126 = .ok (.iload 6, 2) := by decide +kernel
theorem dX10_smallest_128 : decode cX10_smallest 128 = .ok (.if_icmp .ne 30, 3) := by decide +kernel
theorem dX10_smallest_131 : decode cX10_smallest 131 = .ok (.aload_n 0, 1) := by decide +kernel
theorem dX10_smallest_132 : decode cX10_smallest 132 = .ok (.aload_n 0, 1) := by decide +kernel
theorem dX10_smallest_133 : decode cX10_smallest 133 = .ok (.getfield 25, 3) := by decide +kernel
theorem dX10_smallest_136 : decode cX10_smallest 136 = .ok (.iload_n 3, 1) := by decide +kernel
theorem dX10_smallest_137 : decode cX10_smallest 137 = .ok (.iaload, 1) := by decide +kernel
theorem dX10_smallest_138 : decode cX10_smallest 138 = .ok (.iload 7, 2) := by decide +kernel
theorem dX10_smallest_140 : decode cX10_smallest 140 = .ok (.iload 4, 2) := by decide +kernel
theorem dX10_smallest_142 : decode cX10_smallest 142 = .ok (.iload 5, 2) := by decide +kernel
theorem dX10_smallest_144 : decode cX10_smallest 144 = .ok (.invokevirtual 236, 3) := by decide +kernel
theorem dX10_smallest_147 : decode cX10_smallest 147 = .ok (.iload_n 2, 1) := by decide +kernel
theorem dX10_smallest_148 : decode cX10_smallest 148 = .ok (.ishr, 1) := by decide +kernel
theorem dX10_smallest_149 : decode cX10_smallest 149 = .ok (.iconst 1, 1) := by decide +kernel
theorem dX10_smallest_150 : decode cX10_smallest 150 = .ok (.iand, 1) := by decide +kernel
theorem dX10_smallest_151 : decode cX10_smallest 151 = .ok (.iconst 1, 1) := by decide +kernel
theorem dX10_smallest_152 : decode cX10_smallest 152 = .ok (.if_icmp .ne 6, 3) := by decide +kernel
theorem dX10_smallest_155 : decode cX10_smallest 155 = .ok (.iload 7, 2) := by decide +kernel
theorem dX10_smallest_157 : decode cX10_smallest 157 = .ok (.ireturn, 1) := by decide +kernel
theorem dX10_smallest_158 : decode cX10_smallest 158 = .ok (.iinc 7 1, 3) := by decide +kernel
theorem dX10_smallest_161 : decode cX10_smallest 161 = .ok (.goto (-75), 3) := by decide +kernel
theorem dX10_smallest_164 : decode cX10_smallest 164 = .ok (.iinc 6 1, 3) := by decide +kernel
theorem dX10_smallest_167 : decode cX10_smallest 167 = .ok (.goto (-93), 3) := by decide +kernel
theorem dX10_smallest_170 : decode cX10_smallest 170 = .ok (.bipush (-9), 2) := by decide +kernel
theorem dX10_smallest_172 : decode cX10_smallest 172 = .ok (.ireturn, 1) := by decide +kernel
theorem dX10_classesOf_0 : decode cX10_classesOf 0 = .ok (.iconst 0, 1) := by decide +kernel
theorem dX10_classesOf_1 : decode cX10_classesOf 1 = .ok (.istore_n 2, 1) := by decide +kernel
theorem dX10_classesOf_2 : decode cX10_classesOf 2 = .ok (.iconst 0, 1) := by decide +kernel
theorem dX10_classesOf_3 : decode cX10_classesOf 3 = .ok (.istore_n 3, 1) := by decide +kernel
theorem dX10_classesOf_4 : decode cX10_classesOf 4 = .ok (.iload_n 3, 1) := by decide +kernel
theorem dX10_classesOf_5 : decode cX10_classesOf 5 = .ok (.aload_n 0, 1) := by decide +kernel
theorem dX10_classesOf_6 : decode cX10_classesOf 6 = .ok (.getfield 7, 3) := by decide +kernel
theorem dX10_classesOf_9 : decode cX10_classesOf 9 = .ok (.sipush 1200, 3) := by decide +kernel
theorem dX10_classesOf_12 : decode cX10_classesOf 12 = .ok (.iaload, 1) := by decide +kernel
theorem dX10_classesOf_13 : decode cX10_classesOf 13 = .ok (.if_icmp .ge 33, 3) := by decide +kernel
theorem dX10_classesOf_16 : decode cX10_classesOf 16 = .ok (.iload_n 2, 1) := by decide +kernel
theorem dX10_classesOf_17 : decode cX10_classesOf 17 = .ok (.iload_n 1, 1) := by decide +kernel
theorem dX10_classesOf_18 : decode cX10_classesOf 18 = .ok (.iload_n 3, 1) := by decide +kernel
theorem dX10_classesOf_19 : decode cX10_classesOf 19 = .ok (.ishr, 1) := by decide +kernel
theorem dX10_classesOf_20 : decode cX10_classesOf 20 = .ok (.iconst 1, 1) := by decide +kernel
theorem dX10_classesOf_21 : decode cX10_classesOf 21 = .ok (.iand, 1) := by decide +kernel
theorem dX10_classesOf_22 : decode cX10_classesOf 22 = .ok (.iconst 1, 1) := by decide +kernel
theorem dX10_classesOf_23 : decode cX10_classesOf 23 = .ok (.if_icmp .ne 14, 3) := by decide +kernel
theorem dX10_classesOf_26 : decode cX10_classesOf 26 = .ok (.iconst 1, 1) := by decide +kernel
theorem dX10_classesOf_27 : decode cX10_classesOf 27 = .ok (.aload_n 0, 1) := by decide +kernel
theorem dX10_classesOf_28 : decode cX10_classesOf 28 = .ok (.getfield 73, 3) := by decide +kernel
theorem dX10_classesOf_31 : decode cX10_classesOf 31 = .ok (.iload_n 3, 1) := by decide +kernel
theorem dX10_classesOf_32 : decode cX10_classesOf 32 = .ok (.iaload, 1) := by decide +kernel
theorem dX10_classesOf_33 : decode cX10_classesOf 33 = .ok (.ishl, 1) := by decide +kernel
theorem dX10_classesOf_34 : decode cX10_classesOf 34 = .ok (.goto 4, 3) := by decide +kernel
theorem dX10_classesOf_37 : decode cX10_classesOf 37 = .ok (.iconst 0, 1) := by decide +kernel
theorem dX10_classesOf_38 : decode cX10_classesOf 38 = .ok (.ior, 1) := by decide +kernel
theorem dX10_classesOf_39 : decode cX10_classesOf 39 = .ok (.istore_n 2, 1) := by decide +kernel
theorem dX10_classesOf_40 : decode cX10_classesOf 40 = .ok (.iinc 3 1, 3) := by decide +kernel
theorem dX10_classesOf_43 : decode cX10_classesOf 43 = .ok (.goto (-39), 3) := by decide +kernel
theorem dX10_classesOf_46 : decode cX10_classesOf 46 = .ok (.iload_n 2, 1) := by decide +kernel
theorem dX10_classesOf_47 : decode cX10_classesOf 47 = .ok (.ireturn, 1) := by decide +kernel
theorem dX10_leads_0 : decode cX10_leads 0 = .ok (.iconst 0, 1) := by decide +kernel
theorem dX10_leads_1 : decode cX10_leads 1 = .ok (.istore_n 1, 1) := by decide +kernel
theorem dX10_leads_2 : decode cX10_leads 2 = .ok (.iload_n 1, 1) := by decide +kernel
theorem dX10_leads_3 : decode cX10_leads 3 = .ok (.sipush 15552, 3) := by decide +kernel
theorem dX10_leads_6 : decode cX10_leads 6 = .ok (.if_icmp .ge 38, 3) := by decide +kernel
theorem dX10_leads_9 : decode cX10_leads 9 = .ok (.aload_n 0, 1) := by decide +kernel
theorem dX10_leads_10 : decode cX10_leads 10 = .ok (.getfield 79, 3) := by decide +kernel
theorem dX10_leads_13 : decode cX10_leads 13 = .ok (.iload_n 1, 1) := by decide +kernel
theorem dX10_leads_14 : decode cX10_leads 14 = .ok (.aload_n 0, 1) := by decide +kernel
theorem dX10_leads_15 : decode cX10_leads 15 = .ok (.getfield 16, 3) := by decide +kernel
theorem dX10_leads_18 : decode cX10_leads 18 = .ok (.iload_n 1, 1) := by decide +kernel
theorem dX10_leads_19 : decode cX10_leads 19 = .ok (.iaload, 1) := by decide +kernel
theorem dX10_leads_20 : decode cX10_leads 20 = .ok (.ifCond .ne 7, 3) := by decide +kernel
theorem dX10_leads_23 : decode cX10_leads 23 = .ok (.iconst 0, 1) := by decide +kernel
theorem dX10_leads_24 : decode cX10_leads 24 = .ok (.goto 13, 3) := by decide +kernel
theorem dX10_leads_27 : decode cX10_leads 27 = .ok (.aload_n 0, 1) := by decide +kernel
theorem dX10_leads_28 : decode cX10_leads 28 = .ok (.aload_n 0, 1) := by decide +kernel
theorem dX10_leads_29 : decode cX10_leads 29 = .ok (.getfield 16, 3) := by decide +kernel
theorem dX10_leads_32 : decode cX10_leads 32 = .ok (.iload_n 1, 1) := by decide +kernel
theorem dX10_leads_33 : decode cX10_leads 33 = .ok (.iaload, 1) := by decide +kernel
theorem dX10_leads_34 : decode cX10_leads 34 = .ok (.invokevirtual 278, 3) := by decide +kernel
theorem dX10_leads_37 : decode cX10_leads 37 = .ok (.iastore, 1) := by decide +kernel
theorem dX10_leads_38 : decode cX10_leads 38 = .ok (.iinc 1 1, 3) := by decide +kernel
theorem dX10_leads_41 : decode cX10_leads 41 = .ok (.goto (-39), 3) := by decide +kernel
theorem dX10_leads_44 : decode cX10_leads 44 = .ok (.return_, 1) := by decide +kernel
theorem dX10_isMatched_0 : decode cX10_isMatched 0 = .ok (.iconst 0, 1) := by decide +kernel
theorem dX10_isMatched_1 : decode cX10_isMatched 1 = .ok (.istore 4, 2) := by decide +kernel
theorem dX10_isMatched_3 : decode cX10_isMatched 3 = .ok (.iload 4, 2) := by decide +kernel
theorem dX10_isMatched_5 : decode cX10_isMatched 5 = .ok (.bipush 81, 2) := by decide +kernel
theorem dX10_isMatched_7 : decode cX10_isMatched 7 = .ok (.if_icmp .ge 99, 3) := by decide +kernel
theorem dX10_isMatched_10 : decode cX10_isMatched 10 = .ok (.aload_n 0, 1) := by decide +kernel
theorem dX10_isMatched_11 : decode cX10_isMatched 11 = .ok (.getfield 79, 3) := by decide +kernel
theorem dX10_isMatched_14 : decode cX10_isMatched 14 = .ok (.iload_n 1, 1) := by decide +kernel
theorem dX10_isMatched_15 : decode cX10_isMatched 15 = .ok (.iload_n 2, 1) := by decide +kernel
theorem dX10_isMatched_16 : decode cX10_isMatched 16 = .ok (.iload 4, 2) := by decide +kernel
theorem dX10_isMatched_18 : decode cX10_isMatched 18 = .ok (.invokestatic 112, 3) := by decide +kernel
theorem dX10_isMatched_21 : decode cX10_isMatched 21 = .ok (.iaload, 1) := by decide +kernel
theorem dX10_isMatched_22 : decode cX10_isMatched 22 = .ok (.istore 5, 2) := by decide +kernel
theorem dX10_isMatched_24 : decode cX10_isMatched 24 = .ok (.iload 5, 2) := by decide +kernel
theorem dX10_isMatched_26 : decode cX10_isMatched 26 = .ok (.ifCond .ne 7, 3) := by decide +kernel
theorem dX10_isMatched_29 : decode cX10_isMatched 29 = .ok (.iconst 1, 1) := by decide +kernel
theorem dX10_isMatched_30 : decode cX10_isMatched 30 = .ok (.goto 4, 3) := by decide +kernel
theorem dX10_isMatched_33 : decode cX10_isMatched 33 = .ok (.iconst 0, 1) := by decide +kernel
theorem dX10_isMatched_34 : decode cX10_isMatched 34 = .ok (.istore 6, 2) := by decide +kernel
theorem dX10_isMatched_36 : decode cX10_isMatched 36 = .ok (.iconst 0, 1) := by decide +kernel
theorem dX10_isMatched_37 : decode cX10_isMatched 37 = .ok (.istore 7, 2) := by decide +kernel
theorem dX10_isMatched_39 : decode cX10_isMatched 39 = .ok (.iload 7, 2) := by decide +kernel
theorem dX10_isMatched_41 : decode cX10_isMatched 41 = .ok (.bipush 81, 2) := by decide +kernel
theorem dX10_isMatched_43 : decode cX10_isMatched 43 = .ok (.if_icmp .ge 50, 3) := by decide +kernel
theorem dX10_isMatched_46 : decode cX10_isMatched 46 = .ok (.iload 6, 2) := by decide +kernel
theorem dX10_isMatched_48 : decode cX10_isMatched 48 = .ok (.ifCond .ne 45, 3) := by decide +kernel
theorem dX10_isMatched_51 : decode cX10_isMatched 51 = .ok (.aload_n 0, 1) := by decide +kernel
theorem dX10_isMatched_52 : decode cX10_isMatched 52 = .ok (.getfield 79, 3) := by decide +kernel
theorem dX10_isMatched_55 : decode cX10_isMatched 55 = .ok (.iload_n 1, 1) := by decide +kernel
theorem dX10_isMatched_56 : decode cX10_isMatched 56 = .ok (.iload_n 3, 1) := by decide +kernel
theorem dX10_isMatched_57 : decode cX10_isMatched 57 = .ok (.iload 7, 2) := by decide +kernel
theorem dX10_isMatched_59 : decode cX10_isMatched 59 = .ok (.invokestatic 112, 3) := by decide +kernel
theorem dX10_isMatched_62 : decode cX10_isMatched 62 = .ok (.iaload, 1) := by decide +kernel
theorem dX10_isMatched_63 : decode cX10_isMatched 63 = .ok (.istore 8, 2) := by decide +kernel
theorem dX10_isMatched_65 : decode cX10_isMatched 65 = .ok (.iload 8, 2) := by decide +kernel
theorem dX10_isMatched_67 : decode cX10_isMatched 67 = .ok (.ifCond .eq 17, 3) := by decide +kernel
theorem dX10_isMatched_70 : decode cX10_isMatched 70 = .ok (.iload 8, 2) := by decide +kernel
theorem dX10_isMatched_72 : decode cX10_isMatched 72 = .ok (.iload 5, 2) := by decide +kernel
theorem dX10_isMatched_74 : decode cX10_isMatched 74 = .ok (.iconst (-1), 1) := by decide +kernel
theorem dX10_isMatched_75 : decode cX10_isMatched 75 = .ok (.ixor, 1) := by decide +kernel
theorem dX10_isMatched_76 : decode cX10_isMatched 76 = .ok (.iand, 1) := by decide +kernel
theorem dX10_isMatched_77 : decode cX10_isMatched 77 = .ok (.ifCond .ne 7, 3) := by decide +kernel
theorem dX10_isMatched_80 : decode cX10_isMatched 80 = .ok (.iconst 1, 1) := by decide +kernel
theorem dX10_isMatched_81 : decode cX10_isMatched 81 = .ok (.goto 4, 3) := by decide +kernel
theorem dX10_isMatched_84 : decode cX10_isMatched 84 = .ok (.iconst 0, 1) := by decide +kernel
theorem dX10_isMatched_85 : decode cX10_isMatched 85 = .ok (.istore 6, 2) := by decide +kernel
theorem dX10_isMatched_87 : decode cX10_isMatched 87 = .ok (.iinc 7 1, 3) := by decide +kernel
theorem dX10_isMatched_90 : decode cX10_isMatched 90 = .ok (.goto (-51), 3) := by decide +kernel
theorem dX10_isMatched_93 : decode cX10_isMatched 93 = .ok (.iload 6, 2) := by decide +kernel
theorem dX10_isMatched_95 : decode cX10_isMatched 95 = .ok (.ifCond .ne 5, 3) := by decide +kernel
theorem dX10_isMatched_98 : decode cX10_isMatched 98 = .ok (.iconst 0, 1) := by decide +kernel
theorem dX10_isMatched_99 : decode cX10_isMatched 99 = .ok (.ireturn, 1) := by decide +kernel
theorem dX10_isMatched_100 : decode cX10_isMatched 100 = .ok (.iinc 4 1, 3) := by decide +kernel
theorem dX10_isMatched_103 : decode cX10_isMatched 103 = .ok (.goto (-100), 3) := by decide +kernel
theorem dX10_isMatched_106 : decode cX10_isMatched 106 = .ok (.iconst 1, 1) := by decide +kernel
theorem dX10_isMatched_107 : decode cX10_isMatched 107 = .ok (.ireturn, 1) := by decide +kernel
theorem dX10_areAlike_0 : decode cX10_areAlike 0 = .ok (.aload_n 0, 1) := by decide +kernel
theorem dX10_areAlike_1 : decode cX10_areAlike 1 = .ok (.getfield 73, 3) := by decide +kernel
theorem dX10_areAlike_4 : decode cX10_areAlike 4 = .ok (.iload_n 1, 1) := by decide +kernel
theorem dX10_areAlike_5 : decode cX10_areAlike 5 = .ok (.iaload, 1) := by decide +kernel
theorem dX10_areAlike_6 : decode cX10_areAlike 6 = .ok (.aload_n 0, 1) := by decide +kernel
theorem dX10_areAlike_7 : decode cX10_areAlike 7 = .ok (.getfield 73, 3) := by decide +kernel
theorem dX10_areAlike_10 : decode cX10_areAlike 10 = .ok (.iload_n 2, 1) := by decide +kernel
theorem dX10_areAlike_11 : decode cX10_areAlike 11 = .ok (.iaload, 1) := by decide +kernel
theorem dX10_areAlike_12 : decode cX10_areAlike 12 = .ok (.if_icmp .ne 7, 3) := by decide +kernel
theorem dX10_areAlike_15 : decode cX10_areAlike 15 = .ok (.iconst 1, 1) := by decide +kernel
theorem dX10_areAlike_16 : decode cX10_areAlike 16 = .ok (.goto 4, 3) := by decide +kernel
theorem dX10_areAlike_19 : decode cX10_areAlike 19 = .ok (.iconst 0, 1) := by decide +kernel
theorem dX10_areAlike_20 : decode cX10_areAlike 20 = .ok (.istore_n 3, 1) := by decide +kernel
theorem dX10_areAlike_21 : decode cX10_areAlike 21 = .ok (.iconst 0, 1) := by decide +kernel
theorem dX10_areAlike_22 : decode cX10_areAlike 22 = .ok (.istore 4, 2) := by decide +kernel
theorem dX10_areAlike_24 : decode cX10_areAlike 24 = .ok (.iload 4, 2) := by decide +kernel
theorem dX10_areAlike_26 : decode cX10_areAlike 26 = .ok (.iconst 1, 1) := by decide +kernel
theorem dX10_areAlike_27 : decode cX10_areAlike 27 = .ok (.aload_n 0, 1) := by decide +kernel
theorem dX10_areAlike_28 : decode cX10_areAlike 28 = .ok (.getfield 82, 3) := by decide +kernel
theorem dX10_areAlike_31 : decode cX10_areAlike 31 = .ok (.ishl, 1) := by decide +kernel
theorem dX10_areAlike_32 : decode cX10_areAlike 32 = .ok (.if_icmp .ge 41, 3) := by decide +kernel
theorem dX10_areAlike_35 : decode cX10_areAlike 35 = .ok (.iload_n 3, 1) := by decide +kernel
theorem dX10_areAlike_36 : decode cX10_areAlike 36 = .ok (.ifCond .eq 37, 3) := by decide +kernel
theorem dX10_areAlike_39 : decode cX10_areAlike 39 = .ok (.aload_n 0, 1) := by decide +kernel
theorem dX10_areAlike_40 : decode cX10_areAlike 40 = .ok (.iload 4, 2) := by decide +kernel
theorem dX10_areAlike_42 : decode cX10_areAlike 42 = .ok (.iload_n 1, 1) := by decide +kernel
theorem dX10_areAlike_43 : decode cX10_areAlike 43 = .ok (.iload_n 2, 1) := by decide +kernel
theorem dX10_areAlike_44 : decode cX10_areAlike 44 = .ok (.invokevirtual 281, 3) := by decide +kernel
theorem dX10_areAlike_47 : decode cX10_areAlike 47 = .ok (.ifCond .eq 18, 3) := by decide +kernel
theorem dX10_areAlike_50 : decode cX10_areAlike 50 = .ok (.aload_n 0, 1) := by decide +kernel
theorem dX10_areAlike_51 : decode cX10_areAlike 51 = .ok (.iload 4, 2) := by decide +kernel
theorem dX10_areAlike_53 : decode cX10_areAlike 53 = .ok (.iload_n 2, 1) := by decide +kernel
theorem dX10_areAlike_54 : decode cX10_areAlike 54 = .ok (.iload_n 1, 1) := by decide +kernel
theorem dX10_areAlike_55 : decode cX10_areAlike 55 = .ok (.invokevirtual 281, 3) := by decide +kernel
theorem dX10_areAlike_58 : decode cX10_areAlike 58 = .ok (.ifCond .eq 7, 3) := by decide +kernel
theorem dX10_areAlike_61 : decode cX10_areAlike 61 = .ok (.iconst 1, 1) := by decide +kernel
theorem dX10_areAlike_62 : decode cX10_areAlike 62 = .ok (.goto 4, 3) := by decide +kernel
theorem dX10_areAlike_65 : decode cX10_areAlike 65 = .ok (.iconst 0, 1) := by decide +kernel
theorem dX10_areAlike_66 : decode cX10_areAlike 66 = .ok (.istore_n 3, 1) := by decide +kernel
theorem dX10_areAlike_67 : decode cX10_areAlike 67 = .ok (.iinc 4 1, 3) := by decide +kernel
theorem dX10_areAlike_70 : decode cX10_areAlike 70 = .ok (.goto (-46), 3) := by decide +kernel
theorem dX10_areAlike_73 : decode cX10_areAlike 73 = .ok (.iload_n 3, 1) := by decide +kernel
theorem dX10_areAlike_74 : decode cX10_areAlike 74 = .ok (.ireturn, 1) := by decide +kernel
theorem dX10_divides_0 : decode cX10_divides 0 = .ok (.iconst 0, 1) := by decide +kernel
theorem dX10_divides_1 : decode cX10_divides 1 = .ok (.istore_n 1, 1) := by decide +kernel
theorem dX10_divides_2 : decode cX10_divides 2 = .ok (.iconst 0, 1) := by decide +kernel
theorem dX10_divides_3 : decode cX10_divides 3 = .ok (.istore_n 2, 1) := by decide +kernel
theorem dX10_divides_4 : decode cX10_divides 4 = .ok (.iload_n 2, 1) := by decide +kernel
theorem dX10_divides_5 : decode cX10_divides 5 = .ok (.aload_n 0, 1) := by decide +kernel
theorem dX10_divides_6 : decode cX10_divides 6 = .ok (.getfield 7, 3) := by decide +kernel
theorem dX10_divides_9 : decode cX10_divides 9 = .ok (.sipush 1200, 3) := by decide +kernel
theorem dX10_divides_12 : decode cX10_divides 12 = .ok (.iaload, 1) := by decide +kernel
theorem dX10_divides_13 : decode cX10_divides 13 = .ok (.if_icmp .ge 128, 3) := by decide +kernel
theorem dX10_divides_16 : decode cX10_divides 16 = .ok (.aload_n 0, 1) := by decide +kernel
theorem dX10_divides_17 : decode cX10_divides 17 = .ok (.getfield 73, 3) := by decide +kernel
theorem dX10_divides_20 : decode cX10_divides 20 = .ok (.iload_n 2, 1) := by decide +kernel
theorem dX10_divides_21 : decode cX10_divides 21 = .ok (.iconst (-1), 1) := by decide +kernel
theorem dX10_divides_22 : decode cX10_divides 22 = .ok (.iastore, 1) := by decide +kernel
theorem dX10_divides_23 : decode cX10_divides 23 = .ok (.iconst 0, 1) := by decide +kernel
theorem dX10_divides_24 : decode cX10_divides 24 = .ok (.istore_n 3, 1) := by decide +kernel
theorem dX10_divides_25 : decode cX10_divides 25 = .ok (.iload_n 3, 1) := by decide +kernel
theorem dX10_divides_26 : decode cX10_divides 26 = .ok (.iload_n 2, 1) := by decide +kernel
theorem dX10_divides_27 : decode cX10_divides 27 = .ok (.if_icmp .ge 64, 3) := by decide +kernel
theorem dX10_divides_30 : decode cX10_divides 30 = .ok (.aload_n 0, 1) := by decide +kernel
theorem dX10_divides_31 : decode cX10_divides 31 = .ok (.getfield 73, 3) := by decide +kernel
theorem dX10_divides_34 : decode cX10_divides 34 = .ok (.iload_n 2, 1) := by decide +kernel
theorem dX10_divides_35 : decode cX10_divides 35 = .ok (.aload_n 0, 1) := by decide +kernel
theorem dX10_divides_36 : decode cX10_divides 36 = .ok (.getfield 73, 3) := by decide +kernel
theorem dX10_divides_39 : decode cX10_divides 39 = .ok (.iload_n 2, 1) := by decide +kernel
theorem dX10_divides_40 : decode cX10_divides 40 = .ok (.iaload, 1) := by decide +kernel
theorem dX10_divides_41 : decode cX10_divides 41 = .ok (.ifCond .ge 37, 3) := by decide +kernel
theorem dX10_divides_44 : decode cX10_divides 44 = .ok (.aload_n 0, 1) := by decide +kernel
theorem dX10_divides_45 : decode cX10_divides 45 = .ok (.getfield 7, 3) := by decide +kernel
theorem dX10_divides_48 : decode cX10_divides 48 = .ok (.bipush 100, 2) := by decide +kernel
theorem dX10_divides_50 : decode cX10_divides 50 = .ok (.iload_n 2, 1) := by decide +kernel
theorem dX10_divides_51 : decode cX10_divides 51 = .ok (.imul, 1) := by decide +kernel
theorem dX10_divides_52 : decode cX10_divides 52 = .ok (.iconst 0, 1) := by decide +kernel
theorem dX10_divides_53 : decode cX10_divides 53 = .ok (.iadd, 1) := by decide +kernel
theorem dX10_divides_54 : decode cX10_divides 54 = .ok (.iaload, 1) := by decide +kernel
theorem dX10_divides_55 : decode cX10_divides 55 = .ok (.aload_n 0, 1) := by decide +kernel
theorem dX10_divides_56 : decode cX10_divides 56 = .ok (.getfield 7, 3) := by decide +kernel
theorem dX10_divides_59 : decode cX10_divides 59 = .ok (.bipush 100, 2) := by decide +kernel
theorem dX10_divides_61 : decode cX10_divides 61 = .ok (.iload_n 3, 1) := by decide +kernel
theorem dX10_divides_62 : decode cX10_divides 62 = .ok (.imul, 1) := by decide +kernel
theorem dX10_divides_63 : decode cX10_divides 63 = .ok (.iconst 0, 1) := by decide +kernel
theorem dX10_divides_64 : decode cX10_divides 64 = .ok (.iadd, 1) := by decide +kernel
theorem dX10_divides_65 : decode cX10_divides 65 = .ok (.iaload, 1) := by decide +kernel
theorem dX10_divides_66 : decode cX10_divides 66 = .ok (.if_icmp .ne 12, 3) := by decide +kernel
theorem dX10_divides_69 : decode cX10_divides 69 = .ok (.aload_n 0, 1) := by decide +kernel
theorem dX10_divides_70 : decode cX10_divides 70 = .ok (.getfield 73, 3) := by decide +kernel
theorem dX10_divides_73 : decode cX10_divides 73 = .ok (.iload_n 3, 1) := by decide +kernel
theorem dX10_divides_74 : decode cX10_divides 74 = .ok (.iaload, 1) := by decide +kernel
theorem dX10_divides_75 : decode cX10_divides 75 = .ok (.goto 9, 3) := by decide +kernel
theorem dX10_divides_78 : decode cX10_divides 78 = .ok (.aload_n 0, 1) := by decide +kernel
theorem dX10_divides_79 : decode cX10_divides 79 = .ok (.getfield 73, 3) := by decide +kernel
theorem dX10_divides_82 : decode cX10_divides 82 = .ok (.iload_n 2, 1) := by decide +kernel
theorem dX10_divides_83 : decode cX10_divides 83 = .ok (.iaload, 1) := by decide +kernel
theorem dX10_divides_84 : decode cX10_divides 84 = .ok (.iastore, 1) := by decide +kernel
theorem dX10_divides_85 : decode cX10_divides 85 = .ok (.iinc 3 1, 3) := by decide +kernel
theorem dX10_divides_88 : decode cX10_divides 88 = .ok (.goto (-63), 3) := by decide +kernel
theorem dX10_divides_91 : decode cX10_divides 91 = .ok (.iload_n 1, 1) := by decide +kernel
theorem dX10_divides_92 : decode cX10_divides 92 = .ok (.aload_n 0, 1) := by decide +kernel
theorem dX10_divides_93 : decode cX10_divides 93 = .ok (.getfield 73, 3) := by decide +kernel
theorem dX10_divides_96 : decode cX10_divides 96 = .ok (.iload_n 2, 1) := by decide +kernel
theorem dX10_divides_97 : decode cX10_divides 97 = .ok (.iaload, 1) := by decide +kernel
theorem dX10_divides_98 : decode cX10_divides 98 = .ok (.ifCond .ge 7, 3) := by decide +kernel
theorem dX10_divides_101 : decode cX10_divides 101 = .ok (.iconst 1, 1) := by decide +kernel
theorem dX10_divides_102 : decode cX10_divides 102 = .ok (.goto 4, 3) := by decide +kernel
theorem dX10_divides_105 : decode cX10_divides 105 = .ok (.iconst 0, 1) := by decide +kernel
theorem dX10_divides_106 : decode cX10_divides 106 = .ok (.iadd, 1) := by decide +kernel
theorem dX10_divides_107 : decode cX10_divides 107 = .ok (.istore_n 1, 1) := by decide +kernel
theorem dX10_divides_108 : decode cX10_divides 108 = .ok (.aload_n 0, 1) := by decide +kernel
theorem dX10_divides_109 : decode cX10_divides 109 = .ok (.getfield 73, 3) := by decide +kernel
theorem dX10_divides_112 : decode cX10_divides 112 = .ok (.iload_n 2, 1) := by decide +kernel
theorem dX10_divides_113 : decode cX10_divides 113 = .ok (.aload_n 0, 1) := by decide +kernel
theorem dX10_divides_114 : decode cX10_divides 114 = .ok (.getfield 73, 3) := by decide +kernel
theorem dX10_divides_117 : decode cX10_divides 117 = .ok (.iload_n 2, 1) := by decide +kernel
theorem dX10_divides_118 : decode cX10_divides 118 = .ok (.iaload, 1) := by decide +kernel
theorem dX10_divides_119 : decode cX10_divides 119 = .ok (.ifCond .ge 9, 3) := by decide +kernel
theorem dX10_divides_122 : decode cX10_divides 122 = .ok (.iload_n 1, 1) := by decide +kernel
theorem dX10_divides_123 : decode cX10_divides 123 = .ok (.iconst 1, 1) := by decide +kernel
theorem dX10_divides_124 : decode cX10_divides 124 = .ok (.isub, 1) := by decide +kernel
theorem dX10_divides_125 : decode cX10_divides 125 = .ok (.goto 9, 3) := by decide +kernel
theorem dX10_divides_128 : decode cX10_divides 128 = .ok (.aload_n 0, 1) := by decide +kernel
theorem dX10_divides_129 : decode cX10_divides 129 = .ok (.getfield 73, 3) := by decide +kernel
theorem dX10_divides_132 : decode cX10_divides 132 = .ok (.iload_n 2, 1) := by decide +kernel
theorem dX10_divides_133 : decode cX10_divides 133 = .ok (.iaload, 1) := by decide +kernel
theorem dX10_divides_134 : decode cX10_divides 134 = .ok (.iastore, 1) := by decide +kernel
theorem dX10_divides_135 : decode cX10_divides 135 = .ok (.iinc 2 1, 3) := by decide +kernel
theorem dX10_divides_138 : decode cX10_divides 138 = .ok (.goto (-134), 3) := by decide +kernel
theorem dX10_divides_141 : decode cX10_divides 141 = .ok (.aload_n 0, 1) := by decide +kernel
theorem dX10_divides_142 : decode cX10_divides 142 = .ok (.getfield 89, 3) := by decide +kernel
theorem dX10_divides_145 : decode cX10_divides 145 = .ok (.ifCond .ne 7, 3) := by decide +kernel
theorem dX10_divides_148 : decode cX10_divides 148 = .ok (.aload_n 0, 1) := by decide +kernel
theorem dX10_divides_149 : decode cX10_divides 149 = .ok (.invokevirtual 116, 3) := by decide +kernel
theorem dX10_divides_152 : decode cX10_divides 152 = .ok (.iconst (-1), 1) := by decide +kernel
theorem dX10_divides_153 : decode cX10_divides 153 = .ok (.istore_n 2, 1) := by decide +kernel
theorem dX10_divides_154 : decode cX10_divides 154 = .ok (.iload_n 2, 1) := by decide +kernel
theorem dX10_divides_155 : decode cX10_divides 155 = .ok (.iload_n 1, 1) := by decide +kernel
theorem dX10_divides_156 : decode cX10_divides 156 = .ok (.if_icmp .eq 168, 3) := by decide +kernel
theorem dX10_divides_159 : decode cX10_divides 159 = .ok (.iload_n 1, 1) := by decide +kernel
theorem dX10_divides_160 : decode cX10_divides 160 = .ok (.istore_n 2, 1) := by decide +kernel
theorem dX10_divides_161 : decode cX10_divides 161 = .ok (.iconst 0, 1) := by decide +kernel
theorem dX10_divides_162 : decode cX10_divides 162 = .ok (.istore_n 1, 1) := by decide +kernel
theorem dX10_divides_163 : decode cX10_divides 163 = .ok (.aload_n 0, 1) := by decide +kernel
theorem dX10_divides_164 : decode cX10_divides 164 = .ok (.invokevirtual 284, 3) := by decide +kernel
theorem dX10_divides_167 : decode cX10_divides 167 = .ok (.iconst 0, 1) := by decide +kernel
theorem dX10_divides_168 : decode cX10_divides 168 = .ok (.istore_n 3, 1) := by decide +kernel
theorem dX10_divides_169 : decode cX10_divides 169 = .ok (.iload_n 3, 1) := by decide +kernel
theorem dX10_divides_170 : decode cX10_divides 170 = .ok (.aload_n 0, 1) := by decide +kernel
theorem dX10_divides_171 : decode cX10_divides 171 = .ok (.getfield 7, 3) := by decide +kernel
theorem dX10_divides_174 : decode cX10_divides 174 = .ok (.sipush 1200, 3) := by decide +kernel
theorem dX10_divides_177 : decode cX10_divides 177 = .ok (.iaload, 1) := by decide +kernel
theorem dX10_divides_178 : decode cX10_divides 178 = .ok (.if_icmp .ge 111, 3) := by decide +kernel
theorem dX10_divides_181 : decode cX10_divides 181 = .ok (.aload_n 0, 1) := by decide +kernel
theorem dX10_divides_182 : decode cX10_divides 182 = .ok (.getfield 76, 3) := by decide +kernel
theorem dX10_divides_185 : decode cX10_divides 185 = .ok (.iload_n 3, 1) := by decide +kernel
theorem dX10_divides_186 : decode cX10_divides 186 = .ok (.iconst (-1), 1) := by decide +kernel
theorem dX10_divides_187 : decode cX10_divides 187 = .ok (.iastore, 1) := by decide +kernel
theorem dX10_divides_188 : decode cX10_divides 188 = .ok (.iconst 0, 1) := by decide +kernel
theorem dX10_divides_189 : decode cX10_divides 189 = .ok (.istore 4, 2) := by decide +kernel
theorem dX10_divides_191 : decode cX10_divides 191 = .ok (.iload 4, 2) := by decide +kernel
theorem dX10_divides_193 : decode cX10_divides 193 = .ok (.iload_n 3, 1) := by decide +kernel
theorem dX10_divides_194 : decode cX10_divides 194 = .ok (.if_icmp .ge 45, 3) := by decide +kernel
theorem dX10_divides_197 : decode cX10_divides 197 = .ok (.aload_n 0, 1) := by decide +kernel
theorem dX10_divides_198 : decode cX10_divides 198 = .ok (.getfield 76, 3) := by decide +kernel
theorem dX10_divides_201 : decode cX10_divides 201 = .ok (.iload_n 3, 1) := by decide +kernel
theorem dX10_divides_202 : decode cX10_divides 202 = .ok (.iaload, 1) := by decide +kernel
theorem dX10_divides_203 : decode cX10_divides 203 = .ok (.ifCond .ge 36, 3) := by decide +kernel
theorem dX10_divides_206 : decode cX10_divides 206 = .ok (.aload_n 0, 1) := by decide +kernel
theorem dX10_divides_207 : decode cX10_divides 207 = .ok (.getfield 76, 3) := by decide +kernel
theorem dX10_divides_210 : decode cX10_divides 210 = .ok (.iload_n 3, 1) := by decide +kernel
theorem dX10_divides_211 : decode cX10_divides 211 = .ok (.aload_n 0, 1) := by decide +kernel
theorem dX10_divides_212 : decode cX10_divides 212 = .ok (.iload_n 3, 1) := by decide +kernel
theorem dX10_divides_213 : decode cX10_divides 213 = .ok (.iload 4, 2) := by decide +kernel
theorem dX10_divides_215 : decode cX10_divides 215 = .ok (.invokevirtual 287, 3) := by decide +kernel
theorem dX10_divides_218 : decode cX10_divides 218 = .ok (.ifCond .eq 13, 3) := by decide +kernel
theorem dX10_divides_221 : decode cX10_divides 221 = .ok (.aload_n 0, 1) := by decide +kernel
theorem dX10_divides_222 : decode cX10_divides 222 = .ok (.getfield 76, 3) := by decide +kernel
theorem dX10_divides_225 : decode cX10_divides 225 = .ok (.iload 4, 2) := by decide +kernel
theorem dX10_divides_227 : decode cX10_divides 227 = .ok (.iaload, 1) := by decide +kernel
theorem dX10_divides_228 : decode cX10_divides 228 = .ok (.goto 4, 3) := by decide +kernel
theorem dX10_divides_231 : decode cX10_divides 231 = .ok (.iconst (-1), 1) := by decide +kernel
theorem dX10_divides_232 : decode cX10_divides 232 = .ok (.iastore, 1) := by decide +kernel
theorem dX10_divides_233 : decode cX10_divides 233 = .ok (.iinc 4 1, 3) := by decide +kernel
theorem dX10_divides_236 : decode cX10_divides 236 = .ok (.goto (-45), 3) := by decide +kernel
theorem dX10_divides_239 : decode cX10_divides 239 = .ok (.iload_n 1, 1) := by decide +kernel
theorem dX10_divides_240 : decode cX10_divides 240 = .ok (.aload_n 0, 1) := by decide +kernel
theorem dX10_divides_241 : decode cX10_divides 241 = .ok (.getfield 76, 3) := by decide +kernel
theorem dX10_divides_244 : decode cX10_divides 244 = .ok (.iload_n 3, 1) := by decide +kernel
theorem dX10_divides_245 : decode cX10_divides 245 = .ok (.iaload, 1) := by decide +kernel
theorem dX10_divides_246 : decode cX10_divides 246 = .ok (.ifCond .ge 7, 3) := by decide +kernel
theorem dX10_divides_249 : decode cX10_divides 249 = .ok (.iconst 1, 1) := by decide +kernel
theorem dX10_divides_250 : decode cX10_divides 250 = .ok (.goto 4, 3) := by decide +kernel
theorem dX10_divides_253 : decode cX10_divides 253 = .ok (.iconst 0, 1) := by decide +kernel
theorem dX10_divides_254 : decode cX10_divides 254 = .ok (.iadd, 1) := by decide +kernel
theorem dX10_divides_255 : decode cX10_divides 255 = .ok (.istore_n 1, 1) := by decide +kernel
theorem dX10_divides_256 : decode cX10_divides 256 = .ok (.aload_n 0, 1) := by decide +kernel
theorem dX10_divides_257 : decode cX10_divides 257 = .ok (.getfield 76, 3) := by decide +kernel
theorem dX10_divides_260 : decode cX10_divides 260 = .ok (.iload_n 3, 1) := by decide +kernel
theorem dX10_divides_261 : decode cX10_divides 261 = .ok (.aload_n 0, 1) := by decide +kernel
theorem dX10_divides_262 : decode cX10_divides 262 = .ok (.getfield 76, 3) := by decide +kernel
theorem dX10_divides_265 : decode cX10_divides 265 = .ok (.iload_n 3, 1) := by decide +kernel
theorem dX10_divides_266 : decode cX10_divides 266 = .ok (.iaload, 1) := by decide +kernel
theorem dX10_divides_267 : decode cX10_divides 267 = .ok (.ifCond .ge 9, 3) := by decide +kernel
theorem dX10_divides_270 : decode cX10_divides 270 = .ok (.iload_n 1, 1) := by decide +kernel
theorem dX10_divides_271 : decode cX10_divides 271 = .ok (.iconst 1, 1) := by decide +kernel
theorem dX10_divides_272 : decode cX10_divides 272 = .ok (.isub, 1) := by decide +kernel
theorem dX10_divides_273 : decode cX10_divides 273 = .ok (.goto 9, 3) := by decide +kernel
theorem dX10_divides_276 : decode cX10_divides 276 = .ok (.aload_n 0, 1) := by decide +kernel
theorem dX10_divides_277 : decode cX10_divides 277 = .ok (.getfield 76, 3) := by decide +kernel
theorem dX10_divides_280 : decode cX10_divides 280 = .ok (.iload_n 3, 1) := by decide +kernel
theorem dX10_divides_281 : decode cX10_divides 281 = .ok (.iaload, 1) := by decide +kernel
theorem dX10_divides_282 : decode cX10_divides 282 = .ok (.iastore, 1) := by decide +kernel
theorem dX10_divides_283 : decode cX10_divides 283 = .ok (.iinc 3 1, 3) := by decide +kernel
theorem dX10_divides_286 : decode cX10_divides 286 = .ok (.goto (-117), 3) := by decide +kernel
theorem dX10_divides_289 : decode cX10_divides 289 = .ok (.iconst 0, 1) := by decide +kernel
theorem dX10_divides_290 : decode cX10_divides 290 = .ok (.istore_n 3, 1) := by decide +kernel
theorem dX10_divides_291 : decode cX10_divides 291 = .ok (.iload_n 3, 1) := by decide +kernel
theorem dX10_divides_292 : decode cX10_divides 292 = .ok (.aload_n 0, 1) := by decide +kernel
theorem dX10_divides_293 : decode cX10_divides 293 = .ok (.getfield 7, 3) := by decide +kernel
theorem dX10_divides_296 : decode cX10_divides 296 = .ok (.sipush 1200, 3) := by decide +kernel
theorem dX10_divides_299 : decode cX10_divides 299 = .ok (.iaload, 1) := by decide +kernel
theorem dX10_divides_300 : decode cX10_divides 300 = .ok (.if_icmp .ge 21, 3) := by decide +kernel
theorem dX10_divides_303 : decode cX10_divides 303 = .ok (.aload_n 0, 1) := by decide +kernel
theorem dX10_divides_304 : decode cX10_divides 304 = .ok (.getfield 73, 3) := by decide +kernel
theorem dX10_divides_307 : decode cX10_divides 307 = .ok (.iload_n 3, 1) := by decide +kernel
theorem dX10_divides_308 : decode cX10_divides 308 = .ok (.aload_n 0, 1) := by decide +kernel
theorem dX10_divides_309 : decode cX10_divides 309 = .ok (.getfield 76, 3) := by decide +kernel
theorem dX10_divides_312 : decode cX10_divides 312 = .ok (.iload_n 3, 1) := by decide +kernel
theorem dX10_divides_313 : decode cX10_divides 313 = .ok (.iaload, 1) := by decide +kernel
theorem dX10_divides_314 : decode cX10_divides 314 = .ok (.iastore, 1) := by decide +kernel
theorem dX10_divides_315 : decode cX10_divides 315 = .ok (.iinc 3 1, 3) := by decide +kernel
theorem dX10_divides_318 : decode cX10_divides 318 = .ok (.goto (-27), 3) := by decide +kernel
theorem dX10_divides_321 : decode cX10_divides 321 = .ok (.goto (-167), 3) := by decide +kernel
theorem dX10_divides_324 : decode cX10_divides 324 = .ok (.iload_n 1, 1) := by decide +kernel
theorem dX10_divides_325 : decode cX10_divides 325 = .ok (.ireturn, 1) := by decide +kernel
theorem dX10_classes_0 : decode cX10_classes 0 = .ok (.aload_n 0, 1) := by decide +kernel
theorem dX10_classes_1 : decode cX10_classes 1 = .ok (.invokevirtual 290, 3) := by decide +kernel
theorem dX10_classes_4 : decode cX10_classes 4 = .ok (.ireturn, 1) := by decide +kernel
theorem dX10_classOf_0 : decode cX10_classOf 0 = .ok (.aload_n 0, 1) := by decide +kernel
theorem dX10_classOf_1 : decode cX10_classOf 1 = .ok (.iload_n 1, 1) := by decide +kernel
theorem dX10_classOf_2 : decode cX10_classOf 2 = .ok (.invokevirtual 129, 3) := by decide +kernel
theorem dX10_classOf_5 : decode cX10_classOf 5 = .ok (.ifCond .ne 5, 3) := by decide +kernel
theorem dX10_classOf_8 : decode cX10_classOf 8 = .ok (.iconst (-1), 1) := by decide +kernel
theorem dX10_classOf_9 : decode cX10_classOf 9 = .ok (.ireturn, 1) := by decide +kernel
theorem dX10_classOf_10 : decode cX10_classOf 10 = .ok (.aload_n 0, 1) := by decide +kernel
theorem dX10_classOf_11 : decode cX10_classOf 11 = .ok (.invokevirtual 290, 3) := by decide +kernel
theorem dX10_classOf_14 : decode cX10_classOf 14 = .ok (.istore_n 2, 1) := by decide +kernel
theorem dX10_classOf_15 : decode cX10_classOf 15 = .ok (.aload_n 0, 1) := by decide +kernel
theorem dX10_classOf_16 : decode cX10_classOf 16 = .ok (.getfield 73, 3) := by decide +kernel
theorem dX10_classOf_19 : decode cX10_classOf 19 = .ok (.iload_n 1, 1) := by decide +kernel
theorem dX10_classOf_20 : decode cX10_classOf 20 = .ok (.iaload, 1) := by decide +kernel
theorem dX10_classOf_21 : decode cX10_classOf 21 = .ok (.ireturn, 1) := by decide +kernel
theorem dX10_undo_0 : decode cX10_undo 0 = .ok (.aload_n 0, 1) := by decide +kernel
theorem dX10_undo_1 : decode cX10_undo 1 = .ok (.getfield 86, 3) := by decide +kernel
theorem dX10_undo_4 : decode cX10_undo 4 = .ok (.ifCond .ne 6, 3) := by decide +kernel
theorem dX10_undo_7 : decode cX10_undo 7 = .ok (.bipush (-9), 2) := by decide +kernel
theorem dX10_undo_9 : decode cX10_undo 9 = .ok (.ireturn, 1) := by decide +kernel
theorem dX10_undo_10 : decode cX10_undo 10 = .ok (.aload_n 0, 1) := by decide +kernel
theorem dX10_undo_11 : decode cX10_undo 11 = .ok (.dup, 1) := by decide +kernel
theorem dX10_undo_12 : decode cX10_undo 12 = .ok (.getfield 86, 3) := by decide +kernel
theorem dX10_undo_15 : decode cX10_undo 15 = .ok (.iconst 1, 1) := by decide +kernel
theorem dX10_undo_16 : decode cX10_undo 16 = .ok (.isub, 1) := by decide +kernel
theorem dX10_undo_17 : decode cX10_undo 17 = .ok (.putfield 86, 3) := by decide +kernel
theorem dX10_undo_20 : decode cX10_undo 20 = .ok (.iconst 0, 1) := by decide +kernel
theorem dX10_undo_21 : decode cX10_undo 21 = .ok (.istore_n 1, 1) := by decide +kernel
theorem dX10_undo_22 : decode cX10_undo 22 = .ok (.iload_n 1, 1) := by decide +kernel
theorem dX10_undo_23 : decode cX10_undo 23 = .ok (.sipush 1201, 3) := by decide +kernel
theorem dX10_undo_26 : decode cX10_undo 26 = .ok (.if_icmp .ge 30, 3) := by decide +kernel
theorem dX10_undo_29 : decode cX10_undo 29 = .ok (.aload_n 0, 1) := by decide +kernel
theorem dX10_undo_30 : decode cX10_undo 30 = .ok (.getfield 7, 3) := by decide +kernel
theorem dX10_undo_33 : decode cX10_undo 33 = .ok (.iload_n 1, 1) := by decide +kernel
theorem dX10_undo_34 : decode cX10_undo 34 = .ok (.aload_n 0, 1) := by decide +kernel
theorem dX10_undo_35 : decode cX10_undo 35 = .ok (.getfield 13, 3) := by decide +kernel
theorem dX10_undo_38 : decode cX10_undo 38 = .ok (.sipush 1201, 3) := by decide +kernel
theorem dX10_undo_41 : decode cX10_undo 41 = .ok (.aload_n 0, 1) := by decide +kernel
theorem dX10_undo_42 : decode cX10_undo 42 = .ok (.getfield 86, 3) := by decide +kernel
theorem dX10_undo_45 : decode cX10_undo 45 = .ok (.imul, 1) := by decide +kernel
theorem dX10_undo_46 : decode cX10_undo 46 = .ok (.iload_n 1, 1) := by decide +kernel
theorem dX10_undo_47 : decode cX10_undo 47 = .ok (.iadd, 1) := by decide +kernel
theorem dX10_undo_48 : decode cX10_undo 48 = .ok (.iaload, 1) := by decide +kernel
theorem dX10_undo_49 : decode cX10_undo 49 = .ok (.iastore, 1) := by decide +kernel
theorem dX10_undo_50 : decode cX10_undo 50 = .ok (.iinc 1 1, 3) := by decide +kernel
theorem dX10_undo_53 : decode cX10_undo 53 = .ok (.goto (-31), 3) := by decide +kernel
theorem dX10_undo_56 : decode cX10_undo 56 = .ok (.aload_n 0, 1) := by decide +kernel
theorem dX10_undo_57 : decode cX10_undo 57 = .ok (.iconst 0, 1) := by decide +kernel
theorem dX10_undo_58 : decode cX10_undo 58 = .ok (.putfield 89, 3) := by decide +kernel
theorem dX10_undo_61 : decode cX10_undo 61 = .ok (.aload_n 0, 1) := by decide +kernel
theorem dX10_undo_62 : decode cX10_undo 62 = .ok (.getfield 86, 3) := by decide +kernel
theorem dX10_undo_65 : decode cX10_undo 65 = .ok (.ireturn, 1) := by decide +kernel
theorem dX10_fingerprint_0 : decode cX10_fingerprint 0 = .ok (.ldc2_w 293, 3) := by decide +kernel
theorem dX10_fingerprint_3 : decode cX10_fingerprint 3 = .ok (.aload_n 0, 1) := by decide +kernel
theorem dX10_fingerprint_4 : decode cX10_fingerprint 4 = .ok (.getfield 7, 3) := by decide +kernel
theorem dX10_fingerprint_7 : decode cX10_fingerprint 7 = .ok (.sipush 1200, 3) := by decide +kernel
theorem dX10_fingerprint_10 : decode cX10_fingerprint 10 = .ok (.iaload, 1) := by decide +kernel
theorem dX10_fingerprint_11 : decode cX10_fingerprint 11 = .ok (.i2l, 1) := by decide +kernel
theorem dX10_fingerprint_12 : decode cX10_fingerprint 12 = .ok (.ladd, 1) := by decide +kernel
theorem dX10_fingerprint_13 : decode cX10_fingerprint 13 = .ok (.lstore_n 1, 1) := by decide +kernel
theorem dX10_fingerprint_14 : decode cX10_fingerprint 14 = .ok (.iconst 0, 1) := by decide +kernel
theorem dX10_fingerprint_15 : decode cX10_fingerprint 15 = .ok (.istore_n 3, 1) := by decide +kernel
theorem dX10_fingerprint_16 : decode cX10_fingerprint 16 = .ok (.iload_n 3, 1) := by decide +kernel
theorem dX10_fingerprint_17 : decode cX10_fingerprint 17 = .ok (.aload_n 0, 1) := by decide +kernel
theorem dX10_fingerprint_18 : decode cX10_fingerprint 18 = .ok (.getfield 7, 3) := by decide +kernel
theorem dX10_fingerprint_21 : decode cX10_fingerprint 21 = .ok (.sipush 1200, 3) := by decide +kernel
theorem dX10_fingerprint_24 : decode cX10_fingerprint 24 = .ok (.iaload, 1) := by decide +kernel
theorem dX10_fingerprint_25 : decode cX10_fingerprint 25 = .ok (.if_icmp .ge 141, 3) := by decide +kernel
theorem dX10_fingerprint_28 : decode cX10_fingerprint 28 = .ok (.ldc2_w 295, 3) := by decide +kernel
theorem dX10_fingerprint_31 : decode cX10_fingerprint 31 = .ok (.lload_n 1, 1) := by decide +kernel
theorem dX10_fingerprint_32 : decode cX10_fingerprint 32 = .ok (.lmul, 1) := by decide +kernel
theorem dX10_fingerprint_33 : decode cX10_fingerprint 33 = .ok (.aload_n 0, 1) := by decide +kernel
theorem dX10_fingerprint_34 : decode cX10_fingerprint 34 = .ok (.getfield 7, 3) := by decide +kernel
theorem dX10_fingerprint_37 : decode cX10_fingerprint 37 = .ok (.bipush 100, 2) := by decide +kernel
theorem dX10_fingerprint_39 : decode cX10_fingerprint 39 = .ok (.iload_n 3, 1) := by decide +kernel
theorem dX10_fingerprint_40 : decode cX10_fingerprint 40 = .ok (.imul, 1) := by decide +kernel
theorem dX10_fingerprint_41 : decode cX10_fingerprint 41 = .ok (.iconst 0, 1) := by decide +kernel
theorem dX10_fingerprint_42 : decode cX10_fingerprint 42 = .ok (.iadd, 1) := by decide +kernel
theorem dX10_fingerprint_43 : decode cX10_fingerprint 43 = .ok (.iaload, 1) := by decide +kernel
theorem dX10_fingerprint_44 : decode cX10_fingerprint 44 = .ok (.i2l, 1) := by decide +kernel
theorem dX10_fingerprint_45 : decode cX10_fingerprint 45 = .ok (.ladd, 1) := by decide +kernel
theorem dX10_fingerprint_46 : decode cX10_fingerprint 46 = .ok (.lstore_n 1, 1) := by decide +kernel
theorem dX10_fingerprint_47 : decode cX10_fingerprint 47 = .ok (.iconst 0, 1) := by decide +kernel
theorem dX10_fingerprint_48 : decode cX10_fingerprint 48 = .ok (.istore 4, 2) := by decide +kernel
theorem dX10_fingerprint_50 : decode cX10_fingerprint 50 = .ok (.iload 4, 2) := by decide +kernel
theorem dX10_fingerprint_52 : decode cX10_fingerprint 52 = .ok (.aload_n 0, 1) := by decide +kernel
theorem dX10_fingerprint_53 : decode cX10_fingerprint 53 = .ok (.getfield 82, 3) := by decide +kernel
theorem dX10_fingerprint_56 : decode cX10_fingerprint 56 = .ok (.if_icmp .ge 51, 3) := by decide +kernel
theorem dX10_fingerprint_59 : decode cX10_fingerprint 59 = .ok (.ldc2_w 295, 3) := by decide +kernel
theorem dX10_fingerprint_62 : decode cX10_fingerprint 62 = .ok (.ldc2_w 295, 3) := by decide +kernel
theorem dX10_fingerprint_65 : decode cX10_fingerprint 65 = .ok (.lload_n 1, 1) := by decide +kernel
theorem dX10_fingerprint_66 : decode cX10_fingerprint 66 = .ok (.lmul, 1) := by decide +kernel
theorem dX10_fingerprint_67 : decode cX10_fingerprint 67 = .ok (.aload_n 0, 1) := by decide +kernel
theorem dX10_fingerprint_68 : decode cX10_fingerprint 68 = .ok (.getfield 7, 3) := by decide +kernel
theorem dX10_fingerprint_71 : decode cX10_fingerprint 71 = .ok (.bipush 100, 2) := by decide +kernel
theorem dX10_fingerprint_73 : decode cX10_fingerprint 73 = .ok (.iload_n 3, 1) := by decide +kernel
theorem dX10_fingerprint_74 : decode cX10_fingerprint 74 = .ok (.imul, 1) := by decide +kernel
theorem dX10_fingerprint_75 : decode cX10_fingerprint 75 = .ok (.iconst 1, 1) := by decide +kernel
theorem dX10_fingerprint_76 : decode cX10_fingerprint 76 = .ok (.iadd, 1) := by decide +kernel
theorem dX10_fingerprint_77 : decode cX10_fingerprint 77 = .ok (.iload 4, 2) := by decide +kernel
theorem dX10_fingerprint_79 : decode cX10_fingerprint 79 = .ok (.iadd, 1) := by decide +kernel
theorem dX10_fingerprint_80 : decode cX10_fingerprint 80 = .ok (.iaload, 1) := by decide +kernel
theorem dX10_fingerprint_81 : decode cX10_fingerprint 81 = .ok (.i2l, 1) := by decide +kernel
theorem dX10_fingerprint_82 : decode cX10_fingerprint 82 = .ok (.ladd, 1) := by decide +kernel
theorem dX10_fingerprint_83 : decode cX10_fingerprint 83 = .ok (.lmul, 1) := by decide +kernel
theorem dX10_fingerprint_84 : decode cX10_fingerprint 84 = .ok (.aload_n 0, 1) := by decide +kernel
theorem dX10_fingerprint_85 : decode cX10_fingerprint 85 = .ok (.getfield 7, 3) := by decide +kernel
theorem dX10_fingerprint_88 : decode cX10_fingerprint 88 = .ok (.bipush 100, 2) := by decide +kernel
theorem dX10_fingerprint_90 : decode cX10_fingerprint 90 = .ok (.iload_n 3, 1) := by decide +kernel
theorem dX10_fingerprint_91 : decode cX10_fingerprint 91 = .ok (.imul, 1) := by decide +kernel
theorem dX10_fingerprint_92 : decode cX10_fingerprint 92 = .ok (.iconst 5, 1) := by decide +kernel
theorem dX10_fingerprint_93 : decode cX10_fingerprint 93 = .ok (.iadd, 1) := by decide +kernel
theorem dX10_fingerprint_94 : decode cX10_fingerprint 94 = .ok (.iload 4, 2) := by decide +kernel
theorem dX10_fingerprint_96 : decode cX10_fingerprint 96 = .ok (.iadd, 1) := by decide +kernel
theorem dX10_fingerprint_97 : decode cX10_fingerprint 97 = .ok (.iaload, 1) := by decide +kernel
theorem dX10_fingerprint_98 : decode cX10_fingerprint 98 = .ok (.i2l, 1) := by decide +kernel
theorem dX10_fingerprint_99 : decode cX10_fingerprint 99 = .ok (.ladd, 1) := by decide +kernel
theorem dX10_fingerprint_100 : decode cX10_fingerprint 100 = .ok (.lstore_n 1, 1) := by decide +kernel
theorem dX10_fingerprint_101 : decode cX10_fingerprint 101 = .ok (.iinc 4 1, 3) := by decide +kernel
theorem dX10_fingerprint_104 : decode cX10_fingerprint 104 = .ok (.goto (-54), 3) := by decide +kernel
theorem dX10_fingerprint_107 : decode cX10_fingerprint 107 = .ok (.iconst 0, 1) := by decide +kernel
theorem dX10_fingerprint_108 : decode cX10_fingerprint 108 = .ok (.istore 4, 2) := by decide +kernel
theorem dX10_fingerprint_110 : decode cX10_fingerprint 110 = .ok (.iload 4, 2) := by decide +kernel
theorem dX10_fingerprint_112 : decode cX10_fingerprint 112 = .ok (.bipush 81, 2) := by decide +kernel
theorem dX10_fingerprint_114 : decode cX10_fingerprint 114 = .ok (.if_icmp .ge 46, 3) := by decide +kernel
theorem dX10_fingerprint_117 : decode cX10_fingerprint 117 = .ok (.aload_n 0, 1) := by decide +kernel
theorem dX10_fingerprint_118 : decode cX10_fingerprint 118 = .ok (.iload_n 3, 1) := by decide +kernel
theorem dX10_fingerprint_119 : decode cX10_fingerprint 119 = .ok (.iload 4, 2) := by decide +kernel
theorem dX10_fingerprint_121 : decode cX10_fingerprint 121 = .ok (.invokevirtual 105, 3) := by decide +kernel
theorem dX10_fingerprint_124 : decode cX10_fingerprint 124 = .ok (.ifCond .eq 28, 3) := by decide +kernel
theorem dX10_fingerprint_127 : decode cX10_fingerprint 127 = .ok (.ldc2_w 295, 3) := by decide +kernel
theorem dX10_fingerprint_130 : decode cX10_fingerprint 130 = .ok (.lload_n 1, 1) := by decide +kernel
theorem dX10_fingerprint_131 : decode cX10_fingerprint 131 = .ok (.lmul, 1) := by decide +kernel
theorem dX10_fingerprint_132 : decode cX10_fingerprint 132 = .ok (.aload_n 0, 1) := by decide +kernel
theorem dX10_fingerprint_133 : decode cX10_fingerprint 133 = .ok (.getfield 7, 3) := by decide +kernel
theorem dX10_fingerprint_136 : decode cX10_fingerprint 136 = .ok (.bipush 100, 2) := by decide +kernel
theorem dX10_fingerprint_138 : decode cX10_fingerprint 138 = .ok (.iload_n 3, 1) := by decide +kernel
theorem dX10_fingerprint_139 : decode cX10_fingerprint 139 = .ok (.imul, 1) := by decide +kernel
theorem dX10_fingerprint_140 : decode cX10_fingerprint 140 = .ok (.bipush 10, 2) := by decide +kernel
theorem dX10_fingerprint_142 : decode cX10_fingerprint 142 = .ok (.iadd, 1) := by decide +kernel
theorem dX10_fingerprint_143 : decode cX10_fingerprint 143 = .ok (.iload 4, 2) := by decide +kernel
theorem dX10_fingerprint_145 : decode cX10_fingerprint 145 = .ok (.iadd, 1) := by decide +kernel
theorem dX10_fingerprint_146 : decode cX10_fingerprint 146 = .ok (.iaload, 1) := by decide +kernel
theorem dX10_fingerprint_147 : decode cX10_fingerprint 147 = .ok (.i2l, 1) := by decide +kernel
theorem dX10_fingerprint_148 : decode cX10_fingerprint 148 = .ok (.ladd, 1) := by decide +kernel
theorem dX10_fingerprint_149 : decode cX10_fingerprint 149 = .ok (.goto 4, 3) := by decide +kernel
theorem dX10_fingerprint_152 : decode cX10_fingerprint 152 = .ok (.lload_n 1, 1) := by decide +kernel
theorem dX10_fingerprint_153 : decode cX10_fingerprint 153 = .ok (.lstore_n 1, 1) := by decide +kernel
theorem dX10_fingerprint_154 : decode cX10_fingerprint 154 = .ok (.iinc 4 1, 3) := by decide +kernel
theorem dX10_fingerprint_157 : decode cX10_fingerprint 157 = .ok (.goto (-47), 3) := by decide +kernel
theorem dX10_fingerprint_160 : decode cX10_fingerprint 160 = .ok (.iinc 3 1, 3) := by decide +kernel
theorem dX10_fingerprint_163 : decode cX10_fingerprint 163 = .ok (.goto (-147), 3) := by decide +kernel
theorem dX10_fingerprint_166 : decode cX10_fingerprint 166 = .ok (.ldc2_w 295, 3) := by decide +kernel
theorem dX10_fingerprint_169 : decode cX10_fingerprint 169 = .ok (.lload_n 1, 1) := by decide +kernel
theorem dX10_fingerprint_170 : decode cX10_fingerprint 170 = .ok (.lmul, 1) := by decide +kernel
theorem dX10_fingerprint_171 : decode cX10_fingerprint 171 = .ok (.aload_n 0, 1) := by decide +kernel
theorem dX10_fingerprint_172 : decode cX10_fingerprint 172 = .ok (.getfield 154, 3) := by decide +kernel
theorem dX10_fingerprint_175 : decode cX10_fingerprint 175 = .ok (.i2l, 1) := by decide +kernel
theorem dX10_fingerprint_176 : decode cX10_fingerprint 176 = .ok (.ladd, 1) := by decide +kernel
theorem dX10_fingerprint_177 : decode cX10_fingerprint 177 = .ok (.lreturn, 1) := by decide +kernel
