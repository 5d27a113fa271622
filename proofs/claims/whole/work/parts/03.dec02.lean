theorem dX6_then_0 : decode cX6_then 0 = .ok (.aload_n 0, 1) := by decide +kernel
theorem dX6_then_1 : decode cX6_then 1 = .ok (.getfield 10, 3) := by decide +kernel
theorem dX6_then_4 : decode cX6_then 4 = .ok (.getfield 55, 3) := by decide +kernel
theorem dX6_then_7 : decode cX6_then 7 = .ok (.iload_n 1, 1) := by decide +kernel
theorem dX6_then_8 : decode cX6_then 8 = .ok (.invokevirtual 118, 3) := by decide +kernel
theorem dX6_then_11 : decode cX6_then 11 = .ok (.ifCond .eq 20, 3) := by decide +kernel
theorem dX6_then_14 : decode cX6_then 14 = .ok (.iload_n 2, 1) := by decide +kernel
theorem dX6_then_15 : decode cX6_then 15 = .ok (.bipush 61, 2) := by decide +kernel
theorem dX6_then_17 : decode cX6_then 17 = .ok (.invokestatic 67, 3) := by decide +kernel
theorem dX6_then_20 : decode cX6_then 20 = .ok (.ifCond .eq 11, 3) := by decide +kernel
theorem dX6_then_23 : decode cX6_then 23 = .ok (.iload_n 3, 1) := by decide +kernel
theorem dX6_then_24 : decode cX6_then 24 = .ok (.iconst 4, 1) := by decide +kernel
theorem dX6_then_25 : decode cX6_then 25 = .ok (.invokestatic 67, 3) := by decide +kernel
theorem dX6_then_28 : decode cX6_then 28 = .ok (.ifCond .ne 10, 3) := by decide +kernel
theorem dX6_then_31 : decode cX6_then 31 = .ok (.aload_n 0, 1) := by decide +kernel
theorem dX6_then_32 : decode cX6_then 32 = .ok (.bipush (-2), 2) := by decide +kernel
theorem dX6_then_34 : decode cX6_then 34 = .ok (.invokevirtual 71, 3) := by decide +kernel
theorem dX6_then_37 : decode cX6_then 37 = .ok (.ireturn, 1) := by decide +kernel
theorem dX6_then_38 : decode cX6_then 38 = .ok (.aload_n 0, 1) := by decide +kernel
theorem dX6_then_39 : decode cX6_then 39 = .ok (.getfield 34, 3) := by decide +kernel
theorem dX6_then_42 : decode cX6_then 42 = .ok (.aload_n 0, 1) := by decide +kernel
theorem dX6_then_43 : decode cX6_then 43 = .ok (.getfield 10, 3) := by decide +kernel
theorem dX6_then_46 : decode cX6_then 46 = .ok (.getfield 55, 3) := by decide +kernel
theorem dX6_then_49 : decode cX6_then 49 = .ok (.invokevirtual 145, 3) := by decide +kernel
theorem dX6_then_52 : decode cX6_then 52 = .ok (.astore 4, 2) := by decide +kernel
theorem dX6_then_54 : decode cX6_then 54 = .ok (.aload 4, 2) := by decide +kernel
theorem dX6_then_56 : decode cX6_then 56 = .ok (.iload_n 2, 1) := by decide +kernel
theorem dX6_then_57 : decode cX6_then 57 = .ok (.invokevirtual 115, 3) := by decide +kernel
theorem dX6_then_60 : decode cX6_then 60 = .ok (.pop, 1) := by decide +kernel
theorem dX6_then_61 : decode cX6_then 61 = .ok (.aload 4, 2) := by decide +kernel
theorem dX6_then_63 : decode cX6_then 63 = .ok (.iload_n 1, 1) := by decide +kernel
theorem dX6_then_64 : decode cX6_then 64 = .ok (.iload_n 3, 1) := by decide +kernel
theorem dX6_then_65 : decode cX6_then 65 = .ok (.iconst 1, 1) := by decide +kernel
theorem dX6_then_66 : decode cX6_then 66 = .ok (.iadd, 1) := by decide +kernel
theorem dX6_then_67 : decode cX6_then 67 = .ok (.invokevirtual 138, 3) := by decide +kernel
theorem dX6_then_70 : decode cX6_then 70 = .ok (.ireturn, 1) := by decide +kernel
theorem dX6_when_0 : decode cX6_when 0 = .ok (.aload_n 0, 1) := by decide +kernel
theorem dX6_when_1 : decode cX6_when 1 = .ok (.getfield 10, 3) := by decide +kernel
theorem dX6_when_4 : decode cX6_when 4 = .ok (.getfield 55, 3) := by decide +kernel
theorem dX6_when_7 : decode cX6_when 7 = .ok (.iload_n 1, 1) := by decide +kernel
theorem dX6_when_8 : decode cX6_when 8 = .ok (.invokevirtual 118, 3) := by decide +kernel
theorem dX6_when_11 : decode cX6_when 11 = .ok (.ifCond .ne 10, 3) := by decide +kernel
theorem dX6_when_14 : decode cX6_when 14 = .ok (.aload_n 0, 1) := by decide +kernel
theorem dX6_when_15 : decode cX6_when 15 = .ok (.bipush (-2), 2) := by decide +kernel
theorem dX6_when_17 : decode cX6_when 17 = .ok (.invokevirtual 71, 3) := by decide +kernel
theorem dX6_when_20 : decode cX6_when 20 = .ok (.ireturn, 1) := by decide +kernel
theorem dX6_when_21 : decode cX6_when 21 = .ok (.aload_n 0, 1) := by decide +kernel
theorem dX6_when_22 : decode cX6_when 22 = .ok (.getfield 34, 3) := by decide +kernel
theorem dX6_when_25 : decode cX6_when 25 = .ok (.aload_n 0, 1) := by decide +kernel
theorem dX6_when_26 : decode cX6_when 26 = .ok (.getfield 10, 3) := by decide +kernel
theorem dX6_when_29 : decode cX6_when 29 = .ok (.getfield 55, 3) := by decide +kernel
theorem dX6_when_32 : decode cX6_when 32 = .ok (.invokevirtual 145, 3) := by decide +kernel
theorem dX6_when_35 : decode cX6_when 35 = .ok (.astore_n 2, 1) := by decide +kernel
theorem dX6_when_36 : decode cX6_when 36 = .ok (.aload_n 2, 1) := by decide +kernel
theorem dX6_when_37 : decode cX6_when 37 = .ok (.getfield 149, 3) := by decide +kernel
theorem dX6_when_40 : decode cX6_when 40 = .ok (.iload_n 1, 1) := by decide +kernel
theorem dX6_when_41 : decode cX6_when 41 = .ok (.iaload, 1) := by decide +kernel
theorem dX6_when_42 : decode cX6_when 42 = .ok (.istore_n 3, 1) := by decide +kernel
theorem dX6_when_43 : decode cX6_when 43 = .ok (.iconst 1, 1) := by decide +kernel
theorem dX6_when_44 : decode cX6_when 44 = .ok (.istore 4, 2) := by decide +kernel
theorem dX6_when_46 : decode cX6_when 46 = .ok (.iload 4, 2) := by decide +kernel
theorem dX6_when_48 : decode cX6_when 48 = .ok (.bipush 60, 2) := by decide +kernel
theorem dX6_when_50 : decode cX6_when 50 = .ok (.if_icmp .gt 31, 3) := by decide +kernel
theorem dX6_when_53 : decode cX6_when 53 = .ok (.aload_n 2, 1) := by decide +kernel
theorem dX6_when_54 : decode cX6_when 54 = .ok (.iconst (-1), 1) := by decide +kernel
theorem dX6_when_55 : decode cX6_when 55 = .ok (.iconst 0, 1) := by decide +kernel
theorem dX6_when_56 : decode cX6_when 56 = .ok (.iconst (-1), 1) := by decide +kernel
theorem dX6_when_57 : decode cX6_when 57 = .ok (.iconst 0, 1) := by decide +kernel
theorem dX6_when_58 : decode cX6_when 58 = .ok (.invokevirtual 152, 3) := by decide +kernel
theorem dX6_when_61 : decode cX6_when 61 = .ok (.pop, 1) := by decide +kernel
theorem dX6_when_62 : decode cX6_when 62 = .ok (.aload_n 2, 1) := by decide +kernel
theorem dX6_when_63 : decode cX6_when 63 = .ok (.getfield 149, 3) := by decide +kernel
theorem dX6_when_66 : decode cX6_when 66 = .ok (.iload_n 1, 1) := by decide +kernel
theorem dX6_when_67 : decode cX6_when 67 = .ok (.iaload, 1) := by decide +kernel
theorem dX6_when_68 : decode cX6_when 68 = .ok (.iload_n 3, 1) := by decide +kernel
theorem dX6_when_69 : decode cX6_when 69 = .ok (.if_icmp .le 6, 3) := by decide +kernel
theorem dX6_when_72 : decode cX6_when 72 = .ok (.iload 4, 2) := by decide +kernel
theorem dX6_when_74 : decode cX6_when 74 = .ok (.ireturn, 1) := by decide +kernel
theorem dX6_when_75 : decode cX6_when 75 = .ok (.iinc 4 1, 3) := by decide +kernel
theorem dX6_when_78 : decode cX6_when 78 = .ok (.goto (-32), 3) := by decide +kernel
theorem dX6_when_81 : decode cX6_when 81 = .ok (.iconst (-1), 1) := by decide +kernel
theorem dX6_when_82 : decode cX6_when 82 = .ok (.ireturn, 1) := by decide +kernel
theorem dX6_bumps_0 : decode cX6_bumps 0 = .ok (.iload_n 1, 1) := by decide +kernel
theorem dX6_bumps_1 : decode cX6_bumps 1 = .ok (.bipush 61, 2) := by decide +kernel
theorem dX6_bumps_3 : decode cX6_bumps 3 = .ok (.invokestatic 67, 3) := by decide +kernel
theorem dX6_bumps_6 : decode cX6_bumps 6 = .ok (.ifCond .ne 10, 3) := by decide +kernel
theorem dX6_bumps_9 : decode cX6_bumps 9 = .ok (.aload_n 0, 1) := by decide +kernel
theorem dX6_bumps_10 : decode cX6_bumps 10 = .ok (.bipush (-2), 2) := by decide +kernel
theorem dX6_bumps_12 : decode cX6_bumps 12 = .ok (.invokevirtual 71, 3) := by decide +kernel
theorem dX6_bumps_15 : decode cX6_bumps 15 = .ok (.ireturn, 1) := by decide +kernel
theorem dX6_bumps_16 : decode cX6_bumps 16 = .ok (.aload_n 0, 1) := by decide +kernel
theorem dX6_bumps_17 : decode cX6_bumps 17 = .ok (.getfield 34, 3) := by decide +kernel
theorem dX6_bumps_20 : decode cX6_bumps 20 = .ok (.aload_n 0, 1) := by decide +kernel
theorem dX6_bumps_21 : decode cX6_bumps 21 = .ok (.getfield 10, 3) := by decide +kernel
theorem dX6_bumps_24 : decode cX6_bumps 24 = .ok (.getfield 55, 3) := by decide +kernel
theorem dX6_bumps_27 : decode cX6_bumps 27 = .ok (.invokevirtual 145, 3) := by decide +kernel
theorem dX6_bumps_30 : decode cX6_bumps 30 = .ok (.iload_n 1, 1) := by decide +kernel
theorem dX6_bumps_31 : decode cX6_bumps 31 = .ok (.invokevirtual 115, 3) := by decide +kernel
theorem dX6_bumps_34 : decode cX6_bumps 34 = .ok (.ireturn, 1) := by decide +kernel
theorem dX6_cluster_0 : decode cX6_cluster 0 = .ok (.iload_n 1, 1) := by decide +kernel
theorem dX6_cluster_1 : decode cX6_cluster 1 = .ok (.iconst 2, 1) := by decide +kernel
theorem dX6_cluster_2 : decode cX6_cluster 2 = .ok (.invokestatic 67, 3) := by decide +kernel
theorem dX6_cluster_5 : decode cX6_cluster 5 = .ok (.ifCond .ne 10, 3) := by decide +kernel
theorem dX6_cluster_8 : decode cX6_cluster 8 = .ok (.aload_n 0, 1) := by decide +kernel
theorem dX6_cluster_9 : decode cX6_cluster 9 = .ok (.bipush (-2), 2) := by decide +kernel
theorem dX6_cluster_11 : decode cX6_cluster 11 = .ok (.invokevirtual 71, 3) := by decide +kernel
theorem dX6_cluster_14 : decode cX6_cluster 14 = .ok (.ireturn, 1) := by decide +kernel
theorem dX6_cluster_15 : decode cX6_cluster 15 = .ok (.aload_n 0, 1) := by decide +kernel
theorem dX6_cluster_16 : decode cX6_cluster 16 = .ok (.getfield 10, 3) := by decide +kernel
theorem dX6_cluster_19 : decode cX6_cluster 19 = .ok (.getfield 55, 3) := by decide +kernel
theorem dX6_cluster_22 : decode cX6_cluster 22 = .ok (.invokevirtual 156, 3) := by decide +kernel
theorem dX6_cluster_25 : decode cX6_cluster 25 = .ok (.istore_n 2, 1) := by decide +kernel
theorem dX6_cluster_26 : decode cX6_cluster 26 = .ok (.iload_n 1, 1) := by decide +kernel
theorem dX6_cluster_27 : decode cX6_cluster 27 = .ok (.ifCond .ne 10, 3) := by decide +kernel
theorem dX6_cluster_30 : decode cX6_cluster 30 = .ok (.iload_n 2, 1) := by decide +kernel
theorem dX6_cluster_31 : decode cX6_cluster 31 = .ok (.invokestatic 159, 3) := by decide +kernel
theorem dX6_cluster_34 : decode cX6_cluster 34 = .ok (.goto 4, 3) := by decide +kernel
theorem dX6_cluster_37 : decode cX6_cluster 37 = .ok (.iload_n 2, 1) := by decide +kernel
theorem dX6_cluster_38 : decode cX6_cluster 38 = .ok (.ireturn, 1) := by decide +kernel
theorem dX6_stand_0 : decode cX6_stand 0 = .ok (.iload_n 1, 1) := by decide +kernel
theorem dX6_stand_1 : decode cX6_stand 1 = .ok (.iconst 2, 1) := by decide +kernel
theorem dX6_stand_2 : decode cX6_stand 2 = .ok (.invokestatic 67, 3) := by decide +kernel
theorem dX6_stand_5 : decode cX6_stand 5 = .ok (.ifCond .ne 10, 3) := by decide +kernel
theorem dX6_stand_8 : decode cX6_stand 8 = .ok (.aload_n 0, 1) := by decide +kernel
theorem dX6_stand_9 : decode cX6_stand 9 = .ok (.bipush (-2), 2) := by decide +kernel
theorem dX6_stand_11 : decode cX6_stand 11 = .ok (.invokevirtual 71, 3) := by decide +kernel
theorem dX6_stand_14 : decode cX6_stand 14 = .ok (.ireturn, 1) := by decide +kernel
theorem dX6_stand_15 : decode cX6_stand 15 = .ok (.aload_n 0, 1) := by decide +kernel
theorem dX6_stand_16 : decode cX6_stand 16 = .ok (.getfield 10, 3) := by decide +kernel
theorem dX6_stand_19 : decode cX6_stand 19 = .ok (.getfield 55, 3) := by decide +kernel
theorem dX6_stand_22 : decode cX6_stand 22 = .ok (.invokevirtual 164, 3) := by decide +kernel
theorem dX6_stand_25 : decode cX6_stand 25 = .ok (.istore_n 2, 1) := by decide +kernel
theorem dX6_stand_26 : decode cX6_stand 26 = .ok (.iload_n 1, 1) := by decide +kernel
theorem dX6_stand_27 : decode cX6_stand 27 = .ok (.ifCond .ne 7, 3) := by decide +kernel
theorem dX6_stand_30 : decode cX6_stand 30 = .ok (.iload_n 2, 1) := by decide +kernel
theorem dX6_stand_31 : decode cX6_stand 31 = .ok (.goto 14, 3) := by decide +kernel
theorem dX6_stand_34 : decode cX6_stand 34 = .ok (.aload_n 0, 1) := by decide +kernel
theorem dX6_stand_35 : decode cX6_stand 35 = .ok (.getfield 10, 3) := by decide +kernel
theorem dX6_stand_38 : decode cX6_stand 38 = .ok (.getfield 55, 3) := by decide +kernel
theorem dX6_stand_41 : decode cX6_stand 41 = .ok (.iload_n 2, 1) := by decide +kernel
theorem dX6_stand_42 : decode cX6_stand 42 = .ok (.invokevirtual 167, 3) := by decide +kernel
theorem dX6_stand_45 : decode cX6_stand 45 = .ok (.ireturn, 1) := by decide +kernel
theorem dX6_steer_0 : decode cX6_steer 0 = .ok (.aload_n 0, 1) := by decide +kernel
theorem dX6_steer_1 : decode cX6_steer 1 = .ok (.getfield 10, 3) := by decide +kernel
theorem dX6_steer_4 : decode cX6_steer 4 = .ok (.getfield 55, 3) := by decide +kernel
theorem dX6_steer_7 : decode cX6_steer 7 = .ok (.iload_n 1, 1) := by decide +kernel
theorem dX6_steer_8 : decode cX6_steer 8 = .ok (.invokevirtual 118, 3) := by decide +kernel
theorem dX6_steer_11 : decode cX6_steer 11 = .ok (.ifCond .eq 27, 3) := by decide +kernel
theorem dX6_steer_14 : decode cX6_steer 14 = .ok (.iload_n 2, 1) := by decide +kernel
theorem dX6_steer_15 : decode cX6_steer 15 = .ok (.iconst 1, 1) := by decide +kernel
theorem dX6_steer_16 : decode cX6_steer 16 = .ok (.if_icmp .lt 22, 3) := by decide +kernel
theorem dX6_steer_19 : decode cX6_steer 19 = .ok (.iload_n 2, 1) := by decide +kernel
theorem dX6_steer_20 : decode cX6_steer 20 = .ok (.iconst 5, 1) := by decide +kernel
theorem dX6_steer_21 : decode cX6_steer 21 = .ok (.if_icmp .gt 17, 3) := by decide +kernel
theorem dX6_steer_24 : decode cX6_steer 24 = .ok (.iload_n 3, 1) := by decide +kernel
theorem dX6_steer_25 : decode cX6_steer 25 = .ok (.iconst 2, 1) := by decide +kernel
theorem dX6_steer_26 : decode cX6_steer 26 = .ok (.invokestatic 67, 3) := by decide +kernel
theorem dX6_steer_29 : decode cX6_steer 29 = .ok (.ifCond .eq 9, 3) := by decide +kernel
theorem dX6_steer_32 : decode cX6_steer 32 = .ok (.iload 4, 2) := by decide +kernel
theorem dX6_steer_34 : decode cX6_steer 34 = .ok (.iconst (-1), 1) := by decide +kernel
theorem dX6_steer_35 : decode cX6_steer 35 = .ok (.if_icmp .ge 10, 3) := by decide +kernel
theorem dX6_steer_38 : decode cX6_steer 38 = .ok (.aload_n 0, 1) := by decide +kernel
theorem dX6_steer_39 : decode cX6_steer 39 = .ok (.bipush (-10), 2) := by decide +kernel
theorem dX6_steer_41 : decode cX6_steer 41 = .ok (.invokevirtual 71, 3) := by decide +kernel
theorem dX6_steer_44 : decode cX6_steer 44 = .ok (.ireturn, 1) := by decide +kernel
theorem dX6_steer_45 : decode cX6_steer 45 = .ok (.iload 4, 2) := by decide +kernel
theorem dX6_steer_47 : decode cX6_steer 47 = .ok (.iload_n 2, 1) := by decide +kernel
theorem dX6_steer_48 : decode cX6_steer 48 = .ok (.if_icmp .lt 6, 3) := by decide +kernel
theorem dX6_steer_51 : decode cX6_steer 51 = .ok (.bipush (-5), 2) := by decide +kernel
theorem dX6_steer_53 : decode cX6_steer 53 = .ok (.ireturn, 1) := by decide +kernel
theorem dX6_steer_54 : decode cX6_steer 54 = .ok (.aload_n 0, 1) := by decide +kernel
theorem dX6_steer_55 : decode cX6_steer 55 = .ok (.getfield 34, 3) := by decide +kernel
theorem dX6_steer_58 : decode cX6_steer 58 = .ok (.aload_n 0, 1) := by decide +kernel
theorem dX6_steer_59 : decode cX6_steer 59 = .ok (.getfield 10, 3) := by decide +kernel
theorem dX6_steer_62 : decode cX6_steer 62 = .ok (.getfield 55, 3) := by decide +kernel
theorem dX6_steer_65 : decode cX6_steer 65 = .ok (.iload_n 1, 1) := by decide +kernel
theorem dX6_steer_66 : decode cX6_steer 66 = .ok (.iload_n 2, 1) := by decide +kernel
theorem dX6_steer_67 : decode cX6_steer 67 = .ok (.iload_n 3, 1) := by decide +kernel
theorem dX6_steer_68 : decode cX6_steer 68 = .ok (.iconst 1, 1) := by decide +kernel
theorem dX6_steer_69 : decode cX6_steer 69 = .ok (.if_icmp .ne 7, 3) := by decide +kernel
theorem dX6_steer_72 : decode cX6_steer 72 = .ok (.iconst 1, 1) := by decide +kernel
theorem dX6_steer_73 : decode cX6_steer 73 = .ok (.goto 4, 3) := by decide +kernel
theorem dX6_steer_76 : decode cX6_steer 76 = .ok (.iconst 0, 1) := by decide +kernel
theorem dX6_steer_77 : decode cX6_steer 77 = .ok (.invokevirtual 170, 3) := by decide +kernel
theorem dX6_steer_80 : decode cX6_steer 80 = .ok (.istore 5, 2) := by decide +kernel
theorem dX6_steer_82 : decode cX6_steer 82 = .ok (.iload 4, 2) := by decide +kernel
theorem dX6_steer_84 : decode cX6_steer 84 = .ok (.iconst (-1), 1) := by decide +kernel
theorem dX6_steer_85 : decode cX6_steer 85 = .ok (.if_icmp .ne 8, 3) := by decide +kernel
theorem dX6_steer_88 : decode cX6_steer 88 = .ok (.iload 5, 2) := by decide +kernel
theorem dX6_steer_90 : decode cX6_steer 90 = .ok (.goto 13, 3) := by decide +kernel
theorem dX6_steer_93 : decode cX6_steer 93 = .ok (.aload_n 0, 1) := by decide +kernel
theorem dX6_steer_94 : decode cX6_steer 94 = .ok (.getfield 34, 3) := by decide +kernel
theorem dX6_steer_97 : decode cX6_steer 97 = .ok (.getfield 174, 3) := by decide +kernel
theorem dX6_steer_100 : decode cX6_steer 100 = .ok (.iload 4, 2) := by decide +kernel
theorem dX6_steer_102 : decode cX6_steer 102 = .ok (.iaload, 1) := by decide +kernel
theorem dX6_steer_103 : decode cX6_steer 103 = .ok (.ireturn, 1) := by decide +kernel
theorem dX6_note_0 : decode cX6_note 0 = .ok (.aload_n 0, 1) := by decide +kernel
theorem dX6_note_1 : decode cX6_note 1 = .ok (.getfield 10, 3) := by decide +kernel
theorem dX6_note_4 : decode cX6_note 4 = .ok (.getfield 55, 3) := by decide +kernel
theorem dX6_note_7 : decode cX6_note 7 = .ok (.iload_n 1, 1) := by decide +kernel
theorem dX6_note_8 : decode cX6_note 8 = .ok (.invokevirtual 118, 3) := by decide +kernel
theorem dX6_note_11 : decode cX6_note 11 = .ok (.ifCond .eq 42, 3) := by decide +kernel
theorem dX6_note_14 : decode cX6_note 14 = .ok (.iload_n 2, 1) := by decide +kernel
theorem dX6_note_15 : decode cX6_note 15 = .ok (.bipush 100, 2) := by decide +kernel
theorem dX6_note_17 : decode cX6_note 17 = .ok (.invokestatic 67, 3) := by decide +kernel
theorem dX6_note_20 : decode cX6_note 20 = .ok (.ifCond .eq 33, 3) := by decide +kernel
theorem dX6_note_23 : decode cX6_note 23 = .ok (.iload_n 3, 1) := by decide +kernel
theorem dX6_note_24 : decode cX6_note 24 = .ok (.iconst 4, 1) := by decide +kernel
theorem dX6_note_25 : decode cX6_note 25 = .ok (.invokestatic 67, 3) := by decide +kernel
theorem dX6_note_28 : decode cX6_note 28 = .ok (.ifCond .eq 25, 3) := by decide +kernel
theorem dX6_note_31 : decode cX6_note 31 = .ok (.iload 4, 2) := by decide +kernel
theorem dX6_note_33 : decode cX6_note 33 = .ok (.iconst 3, 1) := by decide +kernel
theorem dX6_note_34 : decode cX6_note 34 = .ok (.invokestatic 67, 3) := by decide +kernel
theorem dX6_note_37 : decode cX6_note 37 = .ok (.ifCond .eq 16, 3) := by decide +kernel
theorem dX6_note_40 : decode cX6_note 40 = .ok (.iload 7, 2) := by decide +kernel
theorem dX6_note_42 : decode cX6_note 42 = .ok (.iconst 4, 1) := by decide +kernel
theorem dX6_note_43 : decode cX6_note 43 = .ok (.invokestatic 67, 3) := by decide +kernel
theorem dX6_note_46 : decode cX6_note 46 = .ok (.ifCond .eq 7, 3) := by decide +kernel
theorem dX6_note_49 : decode cX6_note 49 = .ok (.iconst 1, 1) := by decide +kernel
theorem dX6_note_50 : decode cX6_note 50 = .ok (.goto 4, 3) := by decide +kernel
theorem dX6_note_53 : decode cX6_note 53 = .ok (.iconst 0, 1) := by decide +kernel
theorem dX6_note_54 : decode cX6_note 54 = .ok (.istore 8, 2) := by decide +kernel
theorem dX6_note_56 : decode cX6_note 56 = .ok (.iload 8, 2) := by decide +kernel
theorem dX6_note_58 : decode cX6_note 58 = .ok (.ifCond .eq 19, 3) := by decide +kernel
theorem dX6_note_61 : decode cX6_note 61 = .ok (.iload 5, 2) := by decide +kernel
theorem dX6_note_63 : decode cX6_note 63 = .ok (.invokestatic 177, 3) := by decide +kernel
theorem dX6_note_66 : decode cX6_note 66 = .ok (.ifCond .eq 11, 3) := by decide +kernel
theorem dX6_note_69 : decode cX6_note 69 = .ok (.iload 6, 2) := by decide +kernel
theorem dX6_note_71 : decode cX6_note 71 = .ok (.invokestatic 177, 3) := by decide +kernel
theorem dX6_note_74 : decode cX6_note 74 = .ok (.ifCond .ne 10, 3) := by decide +kernel
theorem dX6_note_77 : decode cX6_note 77 = .ok (.aload_n 0, 1) := by decide +kernel
theorem dX6_note_78 : decode cX6_note 78 = .ok (.bipush (-2), 2) := by decide +kernel
theorem dX6_note_80 : decode cX6_note 80 = .ok (.invokevirtual 71, 3) := by decide +kernel
theorem dX6_note_83 : decode cX6_note 83 = .ok (.ireturn, 1) := by decide +kernel
theorem dX6_note_84 : decode cX6_note 84 = .ok (.aload_n 0, 1) := by decide +kernel
theorem dX6_note_85 : decode cX6_note 85 = .ok (.getfield 10, 3) := by decide +kernel
theorem dX6_note_88 : decode cX6_note 88 = .ok (.getfield 180, 3) := by decide +kernel
theorem dX6_note_91 : decode cX6_note 91 = .ok (.iload_n 1, 1) := by decide +kernel
theorem dX6_note_92 : decode cX6_note 92 = .ok (.iload_n 2, 1) := by decide +kernel
theorem dX6_note_93 : decode cX6_note 93 = .ok (.iload_n 3, 1) := by decide +kernel
theorem dX6_note_94 : decode cX6_note 94 = .ok (.iload 4, 2) := by decide +kernel
theorem dX6_note_96 : decode cX6_note 96 = .ok (.iload 5, 2) := by decide +kernel
theorem dX6_note_98 : decode cX6_note 98 = .ok (.iload 6, 2) := by decide +kernel
theorem dX6_note_100 : decode cX6_note 100 = .ok (.iload 7, 2) := by decide +kernel
theorem dX6_note_102 : decode cX6_note 102 = .ok (.invokevirtual 184, 3) := by decide +kernel
theorem dX6_note_105 : decode cX6_note 105 = .ok (.ifCond .ne 8, 3) := by decide +kernel
theorem dX6_note_108 : decode cX6_note 108 = .ok (.aload_n 0, 1) := by decide +kernel
theorem dX6_note_109 : decode cX6_note 109 = .ok (.invokevirtual 82, 3) := by decide +kernel
theorem dX6_note_112 : decode cX6_note 112 = .ok (.ireturn, 1) := by decide +kernel
theorem dX6_note_113 : decode cX6_note 113 = .ok (.aload_n 0, 1) := by decide +kernel
theorem dX6_note_114 : decode cX6_note 114 = .ok (.getfield 10, 3) := by decide +kernel
theorem dX6_note_117 : decode cX6_note 117 = .ok (.getfield 180, 3) := by decide +kernel
theorem dX6_note_120 : decode cX6_note 120 = .ok (.getfield 190, 3) := by decide +kernel
theorem dX6_note_123 : decode cX6_note 123 = .ok (.ireturn, 1) := by decide +kernel
theorem dX6_forget_0 : decode cX6_forget 0 = .ok (.aload_n 0, 1) := by decide +kernel
theorem dX6_forget_1 : decode cX6_forget 1 = .ok (.getfield 10, 3) := by decide +kernel
theorem dX6_forget_4 : decode cX6_forget 4 = .ok (.getfield 180, 3) := by decide +kernel
theorem dX6_forget_7 : decode cX6_forget 7 = .ok (.getfield 190, 3) := by decide +kernel
theorem dX6_forget_10 : decode cX6_forget 10 = .ok (.istore_n 1, 1) := by decide +kernel
theorem dX6_forget_11 : decode cX6_forget 11 = .ok (.aload_n 0, 1) := by decide +kernel
theorem dX6_forget_12 : decode cX6_forget 12 = .ok (.getfield 10, 3) := by decide +kernel
theorem dX6_forget_15 : decode cX6_forget 15 = .ok (.getfield 180, 3) := by decide +kernel
theorem dX6_forget_18 : decode cX6_forget 18 = .ok (.iconst 0, 1) := by decide +kernel
theorem dX6_forget_19 : decode cX6_forget 19 = .ok (.putfield 190, 3) := by decide +kernel
theorem dX6_forget_22 : decode cX6_forget 22 = .ok (.iload_n 1, 1) := by decide +kernel
theorem dX6_forget_23 : decode cX6_forget 23 = .ok (.ireturn, 1) := by decide +kernel
theorem dX6_is_0 : decode cX6_is 0 = .ok (.aload_n 0, 1) := by decide +kernel
theorem dX6_is_1 : decode cX6_is 1 = .ok (.getfield 10, 3) := by decide +kernel
theorem dX6_is_4 : decode cX6_is 4 = .ok (.getfield 55, 3) := by decide +kernel
theorem dX6_is_7 : decode cX6_is 7 = .ok (.iload_n 1, 1) := by decide +kernel
theorem dX6_is_8 : decode cX6_is 8 = .ok (.invokevirtual 118, 3) := by decide +kernel
theorem dX6_is_11 : decode cX6_is 11 = .ok (.ifCond .ne 10, 3) := by decide +kernel
theorem dX6_is_14 : decode cX6_is 14 = .ok (.aload_n 0, 1) := by decide +kernel
theorem dX6_is_15 : decode cX6_is 15 = .ok (.bipush (-2), 2) := by decide +kernel
theorem dX6_is_17 : decode cX6_is 17 = .ok (.invokevirtual 71, 3) := by decide +kernel
theorem dX6_is_20 : decode cX6_is 20 = .ok (.ireturn, 1) := by decide +kernel
theorem dX6_is_21 : decode cX6_is 21 = .ok (.aload_n 0, 1) := by decide +kernel
theorem dX6_is_22 : decode cX6_is 22 = .ok (.getfield 10, 3) := by decide +kernel
theorem dX6_is_25 : decode cX6_is 25 = .ok (.getfield 180, 3) := by decide +kernel
theorem dX6_is_28 : decode cX6_is 28 = .ok (.iload_n 1, 1) := by decide +kernel
theorem dX6_is_29 : decode cX6_is 29 = .ok (.invokevirtual 193, 3) := by decide +kernel
theorem dX6_is_32 : decode cX6_is 32 = .ok (.ireturn, 1) := by decide +kernel
theorem dX6_look_0 : decode cX6_look 0 = .ok (.aload_n 0, 1) := by decide +kernel
theorem dX6_look_1 : decode cX6_look 1 = .ok (.getfield 10, 3) := by decide +kernel
theorem dX6_look_4 : decode cX6_look 4 = .ok (.getfield 55, 3) := by decide +kernel
theorem dX6_look_7 : decode cX6_look 7 = .ok (.iload_n 1, 1) := by decide +kernel
theorem dX6_look_8 : decode cX6_look 8 = .ok (.invokevirtual 118, 3) := by decide +kernel
theorem dX6_look_11 : decode cX6_look 11 = .ok (.ifCond .ne 10, 3) := by decide +kernel
theorem dX6_look_14 : decode cX6_look 14 = .ok (.aload_n 0, 1) := by decide +kernel
theorem dX6_look_15 : decode cX6_look 15 = .ok (.bipush (-2), 2) := by decide +kernel
theorem dX6_look_17 : decode cX6_look 17 = .ok (.invokevirtual 71, 3) := by decide +kernel
theorem dX6_look_20 : decode cX6_look 20 = .ok (.ireturn, 1) := by decide +kernel
theorem dX6_look_21 : decode cX6_look 21 = .ok (.aload_n 0, 1) := by decide +kernel
theorem dX6_look_22 : decode cX6_look 22 = .ok (.getfield 34, 3) := by decide +kernel
theorem dX6_look_25 : decode cX6_look 25 = .ok (.aload_n 0, 1) := by decide +kernel
theorem dX6_look_26 : decode cX6_look 26 = .ok (.getfield 10, 3) := by decide +kernel
theorem dX6_look_29 : decode cX6_look 29 = .ok (.getfield 55, 3) := by decide +kernel
theorem dX6_look_32 : decode cX6_look 32 = .ok (.iload_n 1, 1) := by decide +kernel
theorem dX6_look_33 : decode cX6_look 33 = .ok (.aload_n 0, 1) := by decide +kernel
theorem dX6_look_34 : decode cX6_look 34 = .ok (.getfield 10, 3) := by decide +kernel
theorem dX6_look_37 : decode cX6_look 37 = .ok (.getfield 180, 3) := by decide +kernel
theorem dX6_look_40 : decode cX6_look 40 = .ok (.iload_n 1, 1) := by decide +kernel
theorem dX6_look_41 : decode cX6_look 41 = .ok (.invokevirtual 193, 3) := by decide +kernel
theorem dX6_look_44 : decode cX6_look 44 = .ok (.invokevirtual 196, 3) := by decide +kernel
theorem dX6_look_47 : decode cX6_look 47 = .ok (.ireturn, 1) := by decide +kernel
theorem dX6_two_0 : decode cX6_two 0 = .ok (.aload_n 0, 1) := by decide +kernel
theorem dX6_two_1 : decode cX6_two 1 = .ok (.getfield 10, 3) := by decide +kernel
theorem dX6_two_4 : decode cX6_two 4 = .ok (.getfield 55, 3) := by decide +kernel
theorem dX6_two_7 : decode cX6_two 7 = .ok (.iload_n 1, 1) := by decide +kernel
theorem dX6_two_8 : decode cX6_two 8 = .ok (.invokevirtual 118, 3) := by decide +kernel
theorem dX6_two_11 : decode cX6_two 11 = .ok (.ifCond .eq 27, 3) := by decide +kernel
theorem dX6_two_14 : decode cX6_two 14 = .ok (.aload_n 0, 1) := by decide +kernel
theorem dX6_two_15 : decode cX6_two 15 = .ok (.getfield 10, 3) := by decide +kernel
theorem dX6_two_18 : decode cX6_two 18 = .ok (.getfield 55, 3) := by decide +kernel
theorem dX6_two_21 : decode cX6_two 21 = .ok (.iload_n 2, 1) := by decide +kernel
theorem dX6_two_22 : decode cX6_two 22 = .ok (.invokevirtual 118, 3) := by decide +kernel
theorem dX6_two_25 : decode cX6_two 25 = .ok (.ifCond .eq 13, 3) := by decide +kernel
theorem dX6_two_28 : decode cX6_two 28 = .ok (.iload_n 1, 1) := by decide +kernel
theorem dX6_two_29 : decode cX6_two 29 = .ok (.iload_n 2, 1) := by decide +kernel
theorem dX6_two_30 : decode cX6_two 30 = .ok (.if_icmp .eq 8, 3) := by decide +kernel
theorem dX6_two_33 : decode cX6_two 33 = .ok (.iload_n 3, 1) := by decide +kernel
theorem dX6_two_34 : decode cX6_two 34 = .ok (.iconst (-1), 1) := by decide +kernel
theorem dX6_two_35 : decode cX6_two 35 = .ok (.if_icmp .ge 10, 3) := by decide +kernel
theorem dX6_two_38 : decode cX6_two 38 = .ok (.aload_n 0, 1) := by decide +kernel
theorem dX6_two_39 : decode cX6_two 39 = .ok (.bipush (-10), 2) := by decide +kernel
theorem dX6_two_41 : decode cX6_two 41 = .ok (.invokevirtual 71, 3) := by decide +kernel
theorem dX6_two_44 : decode cX6_two 44 = .ok (.ireturn, 1) := by decide +kernel
theorem dX6_two_45 : decode cX6_two 45 = .ok (.aload_n 0, 1) := by decide +kernel
theorem dX6_two_46 : decode cX6_two 46 = .ok (.getfield 34, 3) := by decide +kernel
theorem dX6_two_49 : decode cX6_two 49 = .ok (.aload_n 0, 1) := by decide +kernel
theorem dX6_two_50 : decode cX6_two 50 = .ok (.getfield 10, 3) := by decide +kernel
theorem dX6_two_53 : decode cX6_two 53 = .ok (.getfield 55, 3) := by decide +kernel
theorem dX6_two_56 : decode cX6_two 56 = .ok (.iload_n 1, 1) := by decide +kernel
theorem dX6_two_57 : decode cX6_two 57 = .ok (.iload_n 2, 1) := by decide +kernel
theorem dX6_two_58 : decode cX6_two 58 = .ok (.invokevirtual 200, 3) := by decide +kernel
theorem dX6_two_61 : decode cX6_two 61 = .ok (.istore 4, 2) := by decide +kernel
theorem dX6_two_63 : decode cX6_two 63 = .ok (.iload_n 3, 1) := by decide +kernel
theorem dX6_two_64 : decode cX6_two 64 = .ok (.iconst (-1), 1) := by decide +kernel
theorem dX6_two_65 : decode cX6_two 65 = .ok (.if_icmp .ne 9, 3) := by decide +kernel
theorem dX6_two_68 : decode cX6_two 68 = .ok (.iload 4, 2) := by decide +kernel
theorem dX6_two_70 : decode cX6_two 70 = .ok (.invokestatic 159, 3) := by decide +kernel
theorem dX6_two_73 : decode cX6_two 73 = .ok (.ireturn, 1) := by decide +kernel
theorem dX6_two_74 : decode cX6_two 74 = .ok (.iload 4, 2) := by decide +kernel
theorem dX6_two_76 : decode cX6_two 76 = .ok (.iload_n 3, 1) := by decide +kernel
theorem dX6_two_77 : decode cX6_two 77 = .ok (.invokestatic 203, 3) := by decide +kernel
theorem dX6_two_80 : decode cX6_two 80 = .ok (.ireturn, 1) := by decide +kernel
theorem dX6_bell_0 : decode cX6_bell 0 = .ok (.iload_n 1, 1) := by decide +kernel
theorem dX6_bell_1 : decode cX6_bell 1 = .ok (.bipush 10, 2) := by decide +kernel
theorem dX6_bell_3 : decode cX6_bell 3 = .ok (.invokestatic 67, 3) := by decide +kernel
theorem dX6_bell_6 : decode cX6_bell 6 = .ok (.ifCond .eq 12, 3) := by decide +kernel
theorem dX6_bell_9 : decode cX6_bell 9 = .ok (.iload_n 2, 1) := by decide +kernel
theorem dX6_bell_10 : decode cX6_bell 10 = .ok (.bipush 11, 2) := by decide +kernel
theorem dX6_bell_12 : decode cX6_bell 12 = .ok (.invokestatic 67, 3) := by decide +kernel
theorem dX6_bell_15 : decode cX6_bell 15 = .ok (.ifCond .ne 10, 3) := by decide +kernel
theorem dX6_bell_18 : decode cX6_bell 18 = .ok (.aload_n 0, 1) := by decide +kernel
theorem dX6_bell_19 : decode cX6_bell 19 = .ok (.bipush (-2), 2) := by decide +kernel
theorem dX6_bell_21 : decode cX6_bell 21 = .ok (.invokevirtual 71, 3) := by decide +kernel
theorem dX6_bell_24 : decode cX6_bell 24 = .ok (.ireturn, 1) := by decide +kernel
theorem dX6_bell_25 : decode cX6_bell 25 = .ok (.aload_n 0, 1) := by decide +kernel
theorem dX6_bell_26 : decode cX6_bell 26 = .ok (.aload_n 0, 1) := by decide +kernel
theorem dX6_bell_27 : decode cX6_bell 27 = .ok (.getfield 34, 3) := by decide +kernel
theorem dX6_bell_30 : decode cX6_bell 30 = .ok (.aload_n 0, 1) := by decide +kernel
theorem dX6_bell_31 : decode cX6_bell 31 = .ok (.getfield 10, 3) := by decide +kernel
theorem dX6_bell_34 : decode cX6_bell 34 = .ok (.getfield 55, 3) := by decide +kernel
theorem dX6_bell_37 : decode cX6_bell 37 = .ok (.iload_n 1, 1) := by decide +kernel
theorem dX6_bell_38 : decode cX6_bell 38 = .ok (.iload_n 2, 1) := by decide +kernel
theorem dX6_bell_39 : decode cX6_bell 39 = .ok (.invokevirtual 206, 3) := by decide +kernel
theorem dX6_bell_42 : decode cX6_bell 42 = .ok (.iload_n 1, 1) := by decide +kernel
theorem dX6_bell_43 : decode cX6_bell 43 = .ok (.invokestatic 210, 3) := by decide +kernel
theorem dX6_bell_46 : decode cX6_bell 46 = .ok (.invokevirtual 214, 3) := by decide +kernel
theorem dX6_bell_49 : decode cX6_bell 49 = .ok (.iconst 1, 1) := by decide +kernel
theorem dX6_bell_50 : decode cX6_bell 50 = .ok (.ireturn, 1) := by decide +kernel
theorem dX6_rounds_0 : decode cX6_rounds 0 = .ok (.iload_n 1, 1) := by decide +kernel
theorem dX6_rounds_1 : decode cX6_rounds 1 = .ok (.ifCond .lt 18, 3) := by decide +kernel
theorem dX6_rounds_4 : decode cX6_rounds 4 = .ok (.iload_n 1, 1) := by decide +kernel
theorem dX6_rounds_5 : decode cX6_rounds 5 = .ok (.ldc 218, 2) := by decide +kernel
theorem dX6_rounds_7 : decode cX6_rounds 7 = .ok (.if_icmp .gt 12, 3) := by decide +kernel
theorem dX6_rounds_10 : decode cX6_rounds 10 = .ok (.iload_n 2, 1) := by decide +kernel
theorem dX6_rounds_11 : decode cX6_rounds 11 = .ok (.bipush 61, 2) := by decide +kernel
theorem dX6_rounds_13 : decode cX6_rounds 13 = .ok (.invokestatic 67, 3) := by decide +kernel
theorem dX6_rounds_16 : decode cX6_rounds 16 = .ok (.ifCond .ne 10, 3) := by decide +kernel
theorem dX6_rounds_19 : decode cX6_rounds 19 = .ok (.aload_n 0, 1) := by decide +kernel
theorem dX6_rounds_20 : decode cX6_rounds 20 = .ok (.bipush (-2), 2) := by decide +kernel
theorem dX6_rounds_22 : decode cX6_rounds 22 = .ok (.invokevirtual 71, 3) := by decide +kernel
theorem dX6_rounds_25 : decode cX6_rounds 25 = .ok (.ireturn, 1) := by decide +kernel
theorem dX6_rounds_26 : decode cX6_rounds 26 = .ok (.aload_n 0, 1) := by decide +kernel
theorem dX6_rounds_27 : decode cX6_rounds 27 = .ok (.getfield 10, 3) := by decide +kernel
theorem dX6_rounds_30 : decode cX6_rounds 30 = .ok (.getfield 55, 3) := by decide +kernel
theorem dX6_rounds_33 : decode cX6_rounds 33 = .ok (.getfield 59, 3) := by decide +kernel
theorem dX6_rounds_36 : decode cX6_rounds 36 = .ok (.ifCond .ne 8, 3) := by decide +kernel
theorem dX6_rounds_39 : decode cX6_rounds 39 = .ok (.aload_n 0, 1) := by decide +kernel
theorem dX6_rounds_40 : decode cX6_rounds 40 = .ok (.invokevirtual 78, 3) := by decide +kernel
theorem dX6_rounds_43 : decode cX6_rounds 43 = .ok (.ireturn, 1) := by decide +kernel
theorem dX6_rounds_44 : decode cX6_rounds 44 = .ok (.aload_n 0, 1) := by decide +kernel
theorem dX6_rounds_45 : decode cX6_rounds 45 = .ok (.getfield 34, 3) := by decide +kernel
theorem dX6_rounds_48 : decode cX6_rounds 48 = .ok (.aload_n 0, 1) := by decide +kernel
theorem dX6_rounds_49 : decode cX6_rounds 49 = .ok (.getfield 10, 3) := by decide +kernel
theorem dX6_rounds_52 : decode cX6_rounds 52 = .ok (.getfield 55, 3) := by decide +kernel
theorem dX6_rounds_55 : decode cX6_rounds 55 = .ok (.invokevirtual 145, 3) := by decide +kernel
theorem dX6_rounds_58 : decode cX6_rounds 58 = .ok (.iload_n 1, 1) := by decide +kernel
theorem dX6_rounds_59 : decode cX6_rounds 59 = .ok (.iload_n 2, 1) := by decide +kernel
theorem dX6_rounds_60 : decode cX6_rounds 60 = .ok (.invokevirtual 219, 3) := by decide +kernel
theorem dX6_rounds_63 : decode cX6_rounds 63 = .ok (.ireturn, 1) := by decide +kernel
theorem dX6_part_0 : decode cX6_part 0 = .ok (.iload_n 1, 1) := by decide +kernel
theorem dX6_part_1 : decode cX6_part 1 = .ok (.iconst 2, 1) := by decide +kernel
theorem dX6_part_2 : decode cX6_part 2 = .ok (.invokestatic 67, 3) := by decide +kernel
theorem dX6_part_5 : decode cX6_part 5 = .ok (.ifCond .ne 11, 3) := by decide +kernel
theorem dX6_part_8 : decode cX6_part 8 = .ok (.aload_n 0, 1) := by decide +kernel
theorem dX6_part_9 : decode cX6_part 9 = .ok (.bipush (-2), 2) := by decide +kernel
theorem dX6_part_11 : decode cX6_part 11 = .ok (.invokevirtual 71, 3) := by decide +kernel
theorem dX6_part_14 : decode cX6_part 14 = .ok (.i2l, 1) := by decide +kernel
theorem dX6_part_15 : decode cX6_part 15 = .ok (.lreturn, 1) := by decide +kernel
theorem dX6_part_16 : decode cX6_part 16 = .ok (.iload_n 1, 1) := by decide +kernel
theorem dX6_part_17 : decode cX6_part 17 = .ok (.ifCond .ne 10, 3) := by decide +kernel
theorem dX6_part_20 : decode cX6_part 20 = .ok (.aload_n 0, 1) := by decide +kernel
theorem dX6_part_21 : decode cX6_part 21 = .ok (.getfield 38, 3) := by decide +kernel
theorem dX6_part_24 : decode cX6_part 24 = .ok (.goto 7, 3) := by decide +kernel
theorem dX6_part_27 : decode cX6_part 27 = .ok (.aload_n 0, 1) := by decide +kernel
theorem dX6_part_28 : decode cX6_part 28 = .ok (.getfield 42, 3) := by decide +kernel
theorem dX6_part_31 : decode cX6_part 31 = .ok (.lreturn, 1) := by decide +kernel
theorem dX6_image_0 : decode cX6_image 0 = .ok (.iload_n 1, 1) := by decide +kernel
theorem dX6_image_1 : decode cX6_image 1 = .ok (.iconst 2, 1) := by decide +kernel
theorem dX6_image_2 : decode cX6_image 2 = .ok (.invokestatic 67, 3) := by decide +kernel
theorem dX6_image_5 : decode cX6_image 5 = .ok (.ifCond .ne 10, 3) := by decide +kernel
theorem dX6_image_8 : decode cX6_image 8 = .ok (.aload_n 0, 1) := by decide +kernel
theorem dX6_image_9 : decode cX6_image 9 = .ok (.bipush (-2), 2) := by decide +kernel
theorem dX6_image_11 : decode cX6_image 11 = .ok (.invokevirtual 71, 3) := by decide +kernel
theorem dX6_image_14 : decode cX6_image 14 = .ok (.ireturn, 1) := by decide +kernel
theorem dX6_image_15 : decode cX6_image 15 = .ok (.aload_n 0, 1) := by decide +kernel
theorem dX6_image_16 : decode cX6_image 16 = .ok (.getfield 16, 3) := by decide +kernel
theorem dX6_image_19 : decode cX6_image 19 = .ok (.iload_n 1, 1) := by decide +kernel
theorem dX6_image_20 : decode cX6_image 20 = .ok (.aaload, 1) := by decide +kernel
theorem dX6_image_21 : decode cX6_image 21 = .ok (.aload_n 0, 1) := by decide +kernel
theorem dX6_image_22 : decode cX6_image 22 = .ok (.getfield 10, 3) := by decide +kernel
theorem dX6_image_25 : decode cX6_image 25 = .ok (.invokevirtual 222, 3) := by decide +kernel
theorem dX6_image_28 : decode cX6_image 28 = .ok (.aload_n 0, 1) := by decide +kernel
theorem dX6_image_29 : decode cX6_image 29 = .ok (.getfield 20, 3) := by decide +kernel
theorem dX6_image_32 : decode cX6_image 32 = .ok (.iload_n 1, 1) := by decide +kernel
theorem dX6_image_33 : decode cX6_image 33 = .ok (.iconst 1, 1) := by decide +kernel
theorem dX6_image_34 : decode cX6_image 34 = .ok (.bastore, 1) := by decide +kernel
theorem dX6_image_35 : decode cX6_image 35 = .ok (.iconst 1, 1) := by decide +kernel
theorem dX6_image_36 : decode cX6_image 36 = .ok (.ireturn, 1) := by decide +kernel
theorem dX6_from_0 : decode cX6_from 0 = .ok (.iload_n 1, 1) := by decide +kernel
theorem dX6_from_1 : decode cX6_from 1 = .ok (.iconst 2, 1) := by decide +kernel
theorem dX6_from_2 : decode cX6_from 2 = .ok (.invokestatic 67, 3) := by decide +kernel
theorem dX6_from_5 : decode cX6_from 5 = .ok (.ifCond .ne 10, 3) := by decide +kernel
theorem dX6_from_8 : decode cX6_from 8 = .ok (.aload_n 0, 1) := by decide +kernel
theorem dX6_from_9 : decode cX6_from 9 = .ok (.bipush (-2), 2) := by decide +kernel
theorem dX6_from_11 : decode cX6_from 11 = .ok (.invokevirtual 71, 3) := by decide +kernel
theorem dX6_from_14 : decode cX6_from 14 = .ok (.ireturn, 1) := by decide +kernel
theorem dX6_from_15 : decode cX6_from 15 = .ok (.aload_n 0, 1) := by decide +kernel
theorem dX6_from_16 : decode cX6_from 16 = .ok (.getfield 20, 3) := by decide +kernel
theorem dX6_from_19 : decode cX6_from 19 = .ok (.iload_n 1, 1) := by decide +kernel
theorem dX6_from_20 : decode cX6_from 20 = .ok (.baload, 1) := by decide +kernel
theorem dX6_from_21 : decode cX6_from 21 = .ok (.ifCond .ne 8, 3) := by decide +kernel
theorem dX6_from_24 : decode cX6_from 24 = .ok (.aload_n 0, 1) := by decide +kernel
theorem dX6_from_25 : decode cX6_from 25 = .ok (.invokevirtual 78, 3) := by decide +kernel
theorem dX6_from_28 : decode cX6_from 28 = .ok (.ireturn, 1) := by decide +kernel
theorem dX6_from_29 : decode cX6_from 29 = .ok (.aload_n 0, 1) := by decide +kernel
theorem dX6_from_30 : decode cX6_from 30 = .ok (.getfield 10, 3) := by decide +kernel
theorem dX6_from_33 : decode cX6_from 33 = .ok (.aload_n 0, 1) := by decide +kernel
theorem dX6_from_34 : decode cX6_from 34 = .ok (.getfield 16, 3) := by decide +kernel
theorem dX6_from_37 : decode cX6_from 37 = .ok (.iload_n 1, 1) := by decide +kernel
theorem dX6_from_38 : decode cX6_from 38 = .ok (.aaload, 1) := by decide +kernel
theorem dX6_from_39 : decode cX6_from 39 = .ok (.invokevirtual 222, 3) := by decide +kernel
theorem dX6_from_42 : decode cX6_from 42 = .ok (.iconst 1, 1) := by decide +kernel
theorem dX6_from_43 : decode cX6_from 43 = .ok (.ireturn, 1) := by decide +kernel
theorem dX6_status_0 : decode cX6_status 0 = .ok (.iload_n 1, 1) := by decide +kernel
theorem dX6_status_1 : decode cX6_status 1 = .ok (.iconst 3, 1) := by decide +kernel
theorem dX6_status_2 : decode cX6_status 2 = .ok (.invokestatic 67, 3) := by decide +kernel
theorem dX6_status_5 : decode cX6_status 5 = .ok (.ifCond .ne 9, 3) := by decide +kernel
theorem dX6_status_8 : decode cX6_status 8 = .ok (.aload_n 0, 1) := by decide +kernel
theorem dX6_status_9 : decode cX6_status 9 = .ok (.iconst (-1), 1) := by decide +kernel
theorem dX6_status_10 : decode cX6_status 10 = .ok (.invokevirtual 71, 3) := by decide +kernel
theorem dX6_status_13 : decode cX6_status 13 = .ok (.ireturn, 1) := by decide +kernel
theorem dX6_status_14 : decode cX6_status 14 = .ok (.iload_n 1, 1) := by decide +kernel
theorem dX6_status_15 : decode cX6_status 15 = .ok (.ifCond .ne 8, 3) := by decide +kernel
theorem dX6_status_18 : decode cX6_status 18 = .ok (.aload_n 0, 1) := by decide +kernel
theorem dX6_status_19 : decode cX6_status 19 = .ok (.getfield 45, 3) := by decide +kernel
theorem dX6_status_22 : decode cX6_status 22 = .ok (.ireturn, 1) := by decide +kernel
theorem dX6_status_23 : decode cX6_status 23 = .ok (.iload_n 1, 1) := by decide +kernel
theorem dX6_status_24 : decode cX6_status 24 = .ok (.iconst 1, 1) := by decide +kernel
theorem dX6_status_25 : decode cX6_status 25 = .ok (.if_icmp .ne 10, 3) := by decide +kernel
theorem dX6_status_28 : decode cX6_status 28 = .ok (.aload_n 0, 1) := by decide +kernel
theorem dX6_status_29 : decode cX6_status 29 = .ok (.getfield 49, 3) := by decide +kernel
theorem dX6_status_32 : decode cX6_status 32 = .ok (.goto 7, 3) := by decide +kernel
theorem dX6_status_35 : decode cX6_status 35 = .ok (.aload_n 0, 1) := by decide +kernel
theorem dX6_status_36 : decode cX6_status 36 = .ok (.getfield 52, 3) := by decide +kernel
theorem dX6_status_39 : decode cX6_status 39 = .ok (.ireturn, 1) := by decide +kernel
theorem dX6_count_0 : decode cX6_count 0 = .ok (.iload_n 1, 1) := by decide +kernel
theorem dX6_count_1 : decode cX6_count 1 = .ok (.bipush 6, 2) := by decide +kernel
theorem dX6_count_3 : decode cX6_count 3 = .ok (.invokestatic 67, 3) := by decide +kernel
theorem dX6_count_6 : decode cX6_count 6 = .ok (.ifCond .ne 10, 3) := by decide +kernel
theorem dX6_count_9 : decode cX6_count 9 = .ok (.aload_n 0, 1) := by decide +kernel
theorem dX6_count_10 : decode cX6_count 10 = .ok (.bipush (-2), 2) := by decide +kernel
theorem dX6_count_12 : decode cX6_count 12 = .ok (.invokevirtual 71, 3) := by decide +kernel
theorem dX6_count_15 : decode cX6_count 15 = .ok (.ireturn, 1) := by decide +kernel
theorem dX6_count_16 : decode cX6_count 16 = .ok (.aload_n 0, 1) := by decide +kernel
theorem dX6_count_17 : decode cX6_count 17 = .ok (.iload_n 1, 1) := by decide +kernel
theorem dX6_count_18 : decode cX6_count 18 = .ok (.invokevirtual 225, 3) := by decide +kernel
theorem dX6_count_21 : decode cX6_count 21 = .ok (.ireturn, 1) := by decide +kernel
theorem dX6_digest_0 : decode cX6_digest 0 = .ok (.ldc2_w 228, 3) := by decide +kernel
theorem dX6_digest_3 : decode cX6_digest 3 = .ok (.lstore_n 1, 1) := by decide +kernel
theorem dX6_digest_4 : decode cX6_digest 4 = .ok (.iconst 0, 1) := by decide +kernel
theorem dX6_digest_5 : decode cX6_digest 5 = .ok (.istore_n 3, 1) := by decide +kernel
theorem dX6_digest_6 : decode cX6_digest 6 = .ok (.iload_n 3, 1) := by decide +kernel
theorem dX6_digest_7 : decode cX6_digest 7 = .ok (.bipush 6, 2) := by decide +kernel
theorem dX6_digest_9 : decode cX6_digest 9 = .ok (.if_icmp .ge 22, 3) := by decide +kernel
theorem dX6_digest_12 : decode cX6_digest 12 = .ok (.ldc2_w 230, 3) := by decide +kernel
theorem dX6_digest_15 : decode cX6_digest 15 = .ok (.lload_n 1, 1) := by decide +kernel
theorem dX6_digest_16 : decode cX6_digest 16 = .ok (.lmul, 1) := by decide +kernel
theorem dX6_digest_17 : decode cX6_digest 17 = .ok (.aload_n 0, 1) := by decide +kernel
theorem dX6_digest_18 : decode cX6_digest 18 = .ok (.iload_n 3, 1) := by decide +kernel
theorem dX6_digest_19 : decode cX6_digest 19 = .ok (.invokevirtual 225, 3) := by decide +kernel
theorem dX6_digest_22 : decode cX6_digest 22 = .ok (.i2l, 1) := by decide +kernel
theorem dX6_digest_23 : decode cX6_digest 23 = .ok (.ladd, 1) := by decide +kernel
theorem dX6_digest_24 : decode cX6_digest 24 = .ok (.lstore_n 1, 1) := by decide +kernel
theorem dX6_digest_25 : decode cX6_digest 25 = .ok (.iinc 3 1, 3) := by decide +kernel
theorem dX6_digest_28 : decode cX6_digest 28 = .ok (.goto (-22), 3) := by decide +kernel
theorem dX6_digest_31 : decode cX6_digest 31 = .ok (.aload_n 0, 1) := by decide +kernel
theorem dX6_digest_32 : decode cX6_digest 32 = .ok (.getfield 10, 3) := by decide +kernel
theorem dX6_digest_35 : decode cX6_digest 35 = .ok (.getfield 55, 3) := by decide +kernel
theorem dX6_digest_38 : decode cX6_digest 38 = .ok (.lload_n 1, 1) := by decide +kernel
theorem dX6_digest_39 : decode cX6_digest 39 = .ok (.invokevirtual 232, 3) := by decide +kernel
theorem dX6_digest_42 : decode cX6_digest 42 = .ok (.lstore_n 1, 1) := by decide +kernel
theorem dX6_digest_43 : decode cX6_digest 43 = .ok (.aload_n 0, 1) := by decide +kernel
theorem dX6_digest_44 : decode cX6_digest 44 = .ok (.getfield 10, 3) := by decide +kernel
theorem dX6_digest_47 : decode cX6_digest 47 = .ok (.getfield 180, 3) := by decide +kernel
theorem dX6_digest_50 : decode cX6_digest 50 = .ok (.lload_n 1, 1) := by decide +kernel
theorem dX6_digest_51 : decode cX6_digest 51 = .ok (.invokevirtual 236, 3) := by decide +kernel
theorem dX6_digest_54 : decode cX6_digest 54 = .ok (.lstore_n 1, 1) := by decide +kernel
theorem dX6_digest_55 : decode cX6_digest 55 = .ok (.ldc2_w 230, 3) := by decide +kernel
theorem dX6_digest_58 : decode cX6_digest 58 = .ok (.lload_n 1, 1) := by decide +kernel
theorem dX6_digest_59 : decode cX6_digest 59 = .ok (.lmul, 1) := by decide +kernel
theorem dX6_digest_60 : decode cX6_digest 60 = .ok (.aload_n 0, 1) := by decide +kernel
theorem dX6_digest_61 : decode cX6_digest 61 = .ok (.getfield 38, 3) := by decide +kernel
theorem dX6_digest_64 : decode cX6_digest 64 = .ok (.ladd, 1) := by decide +kernel
theorem dX6_digest_65 : decode cX6_digest 65 = .ok (.lstore_n 1, 1) := by decide +kernel
theorem dX6_digest_66 : decode cX6_digest 66 = .ok (.ldc2_w 230, 3) := by decide +kernel
theorem dX6_digest_69 : decode cX6_digest 69 = .ok (.lload_n 1, 1) := by decide +kernel
theorem dX6_digest_70 : decode cX6_digest 70 = .ok (.lmul, 1) := by decide +kernel
theorem dX6_digest_71 : decode cX6_digest 71 = .ok (.aload_n 0, 1) := by decide +kernel
theorem dX6_digest_72 : decode cX6_digest 72 = .ok (.getfield 42, 3) := by decide +kernel
theorem dX6_digest_75 : decode cX6_digest 75 = .ok (.ladd, 1) := by decide +kernel
theorem dX6_digest_76 : decode cX6_digest 76 = .ok (.lreturn, 1) := by decide +kernel
theorem dX6_howMany_0 : decode cX6_howMany 0 = .ok (.iload_n 1, 1) := by decide +kernel
theorem dX6_howMany_1 : decode cX6_howMany 1 = .ok (.tableswitch 87 0 4 #[35, 46, 57, 68, 79], 35) := by decide +kernel
theorem dX6_howMany_36 : decode cX6_howMany 36 = .ok (.aload_n 0, 1) := by decide +kernel
theorem dX6_howMany_37 : decode cX6_howMany 37 = .ok (.getfield 10, 3) := by decide +kernel
theorem dX6_howMany_40 : decode cX6_howMany 40 = .ok (.getfield 55, 3) := by decide +kernel
theorem dX6_howMany_43 : decode cX6_howMany 43 = .ok (.getfield 59, 3) := by decide +kernel
theorem dX6_howMany_46 : decode cX6_howMany 46 = .ok (.ireturn, 1) := by decide +kernel
theorem dX6_howMany_47 : decode cX6_howMany 47 = .ok (.aload_n 0, 1) := by decide +kernel
theorem dX6_howMany_48 : decode cX6_howMany 48 = .ok (.getfield 10, 3) := by decide +kernel
theorem dX6_howMany_51 : decode cX6_howMany 51 = .ok (.getfield 55, 3) := by decide +kernel
theorem dX6_howMany_54 : decode cX6_howMany 54 = .ok (.getfield 135, 3) := by decide +kernel
theorem dX6_howMany_57 : decode cX6_howMany 57 = .ok (.ireturn, 1) := by decide +kernel
theorem dX6_howMany_58 : decode cX6_howMany 58 = .ok (.aload_n 0, 1) := by decide +kernel
theorem dX6_howMany_59 : decode cX6_howMany 59 = .ok (.getfield 10, 3) := by decide +kernel
theorem dX6_howMany_62 : decode cX6_howMany 62 = .ok (.getfield 55, 3) := by decide +kernel
theorem dX6_howMany_65 : decode cX6_howMany 65 = .ok (.invokevirtual 237, 3) := by decide +kernel
theorem dX6_howMany_68 : decode cX6_howMany 68 = .ok (.ireturn, 1) := by decide +kernel
theorem dX6_howMany_69 : decode cX6_howMany 69 = .ok (.aload_n 0, 1) := by decide +kernel
theorem dX6_howMany_70 : decode cX6_howMany 70 = .ok (.getfield 10, 3) := by decide +kernel
theorem dX6_howMany_73 : decode cX6_howMany 73 = .ok (.getfield 180, 3) := by decide +kernel
theorem dX6_howMany_76 : decode cX6_howMany 76 = .ok (.getfield 190, 3) := by decide +kernel
theorem dX6_howMany_79 : decode cX6_howMany 79 = .ok (.ireturn, 1) := by decide +kernel
theorem dX6_howMany_80 : decode cX6_howMany 80 = .ok (.aload_n 0, 1) := by decide +kernel
theorem dX6_howMany_81 : decode cX6_howMany 81 = .ok (.getfield 10, 3) := by decide +kernel
theorem dX6_howMany_84 : decode cX6_howMany 84 = .ok (.getfield 85, 3) := by decide +kernel
theorem dX6_howMany_87 : decode cX6_howMany 87 = .ok (.ireturn, 1) := by decide +kernel
theorem dX6_howMany_88 : decode cX6_howMany 88 = .ok (.aload_n 0, 1) := by decide +kernel
theorem dX6_howMany_89 : decode cX6_howMany 89 = .ok (.getfield 27, 3) := by decide +kernel
theorem dX6_howMany_92 : decode cX6_howMany 92 = .ok (.getfield 96, 3) := by decide +kernel
theorem dX6_howMany_95 : decode cX6_howMany 95 = .ok (.ireturn, 1) := by decide +kernel
theorem dX6_bad_0 : decode cX6_bad 0 = .ok (.aload_n 0, 1) := by decide +kernel
theorem dX6_bad_1 : decode cX6_bad 1 = .ok (.dup, 1) := by decide +kernel
theorem dX6_bad_2 : decode cX6_bad 2 = .ok (.getfield 45, 3) := by decide +kernel
theorem dX6_bad_5 : decode cX6_bad 5 = .ok (.iconst 1, 1) := by decide +kernel
theorem dX6_bad_6 : decode cX6_bad 6 = .ok (.iadd, 1) := by decide +kernel
theorem dX6_bad_7 : decode cX6_bad 7 = .ok (.putfield 45, 3) := by decide +kernel
theorem dX6_bad_10 : decode cX6_bad 10 = .ok (.iload_n 1, 1) := by decide +kernel
theorem dX6_bad_11 : decode cX6_bad 11 = .ok (.ireturn, 1) := by decide +kernel
theorem dX6_no_0 : decode cX6_no 0 = .ok (.aload_n 0, 1) := by decide +kernel
theorem dX6_no_1 : decode cX6_no 1 = .ok (.dup, 1) := by decide +kernel
theorem dX6_no_2 : decode cX6_no 2 = .ok (.getfield 49, 3) := by decide +kernel
theorem dX6_no_5 : decode cX6_no 5 = .ok (.iconst 1, 1) := by decide +kernel
theorem dX6_no_6 : decode cX6_no 6 = .ok (.iadd, 1) := by decide +kernel
theorem dX6_no_7 : decode cX6_no 7 = .ok (.putfield 49, 3) := by decide +kernel
theorem dX6_no_10 : decode cX6_no 10 = .ok (.bipush (-3), 2) := by decide +kernel
theorem dX6_no_12 : decode cX6_no 12 = .ok (.ireturn, 1) := by decide +kernel
theorem dX6_full_0 : decode cX6_full 0 = .ok (.aload_n 0, 1) := by decide +kernel
theorem dX6_full_1 : decode cX6_full 1 = .ok (.dup, 1) := by decide +kernel
theorem dX6_full_2 : decode cX6_full 2 = .ok (.getfield 52, 3) := by decide +kernel
theorem dX6_full_5 : decode cX6_full 5 = .ok (.iconst 1, 1) := by decide +kernel
theorem dX6_full_6 : decode cX6_full 6 = .ok (.iadd, 1) := by decide +kernel
theorem dX6_full_7 : decode cX6_full 7 = .ok (.putfield 52, 3) := by decide +kernel
theorem dX6_full_10 : decode cX6_full 10 = .ok (.bipush (-4), 2) := by decide +kernel
theorem dX6_full_12 : decode cX6_full 12 = .ok (.ireturn, 1) := by decide +kernel
theorem dX6_putFraction_0 : decode cX6_putFraction 0 = .ok (.lload_n 1, 1) := by decide +kernel
theorem dX6_putFraction_1 : decode cX6_putFraction 1 = .ok (.lload_n 3, 1) := by decide +kernel
theorem dX6_putFraction_2 : decode cX6_putFraction 2 = .ok (.invokestatic 240, 3) := by decide +kernel
theorem dX6_putFraction_5 : decode cX6_putFraction 5 = .ok (.lstore 5, 2) := by decide +kernel
theorem dX6_putFraction_7 : decode cX6_putFraction 7 = .ok (.lload 5, 2) := by decide +kernel
theorem dX6_putFraction_9 : decode cX6_putFraction 9 = .ok (.lconst 0, 1) := by decide +kernel
theorem dX6_putFraction_10 : decode cX6_putFraction 10 = .ok (.lcmp, 1) := by decide +kernel
theorem dX6_putFraction_11 : decode cX6_putFraction 11 = .ok (.ifCond .le 19, 3) := by decide +kernel
theorem dX6_putFraction_14 : decode cX6_putFraction 14 = .ok (.aload_n 0, 1) := by decide +kernel
theorem dX6_putFraction_15 : decode cX6_putFraction 15 = .ok (.lload_n 1, 1) := by decide +kernel
theorem dX6_putFraction_16 : decode cX6_putFraction 16 = .ok (.lload 5, 2) := by decide +kernel
theorem dX6_putFraction_18 : decode cX6_putFraction 18 = .ok (.ldiv, 1) := by decide +kernel
theorem dX6_putFraction_19 : decode cX6_putFraction 19 = .ok (.putfield 38, 3) := by decide +kernel
theorem dX6_putFraction_22 : decode cX6_putFraction 22 = .ok (.aload_n 0, 1) := by decide +kernel
theorem dX6_putFraction_23 : decode cX6_putFraction 23 = .ok (.lload_n 3, 1) := by decide +kernel
theorem dX6_putFraction_24 : decode cX6_putFraction 24 = .ok (.lload 5, 2) := by decide +kernel
theorem dX6_putFraction_26 : decode cX6_putFraction 26 = .ok (.ldiv, 1) := by decide +kernel
theorem dX6_putFraction_27 : decode cX6_putFraction 27 = .ok (.putfield 42, 3) := by decide +kernel
theorem dX6_putFraction_30 : decode cX6_putFraction 30 = .ok (.return_, 1) := by decide +kernel
theorem dX6_commonDivisor_0 : decode cX6_commonDivisor 0 = .ok (.iconst 0, 1) := by decide +kernel
theorem dX6_commonDivisor_1 : decode cX6_commonDivisor 1 = .ok (.istore 4, 2) := by decide +kernel
theorem dX6_commonDivisor_3 : decode cX6_commonDivisor 3 = .ok (.iload 4, 2) := by decide +kernel
theorem dX6_commonDivisor_5 : decode cX6_commonDivisor 5 = .ok (.sipush 200, 3) := by decide +kernel
theorem dX6_commonDivisor_8 : decode cX6_commonDivisor 8 = .ok (.if_icmp .ge 25, 3) := by decide +kernel
theorem dX6_commonDivisor_11 : decode cX6_commonDivisor 11 = .ok (.lload_n 2, 1) := by decide +kernel
theorem dX6_commonDivisor_12 : decode cX6_commonDivisor 12 = .ok (.lconst 0, 1) := by decide +kernel
theorem dX6_commonDivisor_13 : decode cX6_commonDivisor 13 = .ok (.lcmp, 1) := by decide +kernel
theorem dX6_commonDivisor_14 : decode cX6_commonDivisor 14 = .ok (.ifCond .eq 19, 3) := by decide +kernel
theorem dX6_commonDivisor_17 : decode cX6_commonDivisor 17 = .ok (.lload_n 0, 1) := by decide +kernel
theorem dX6_commonDivisor_18 : decode cX6_commonDivisor 18 = .ok (.lload_n 2, 1) := by decide +kernel
theorem dX6_commonDivisor_19 : decode cX6_commonDivisor 19 = .ok (.lrem, 1) := by decide +kernel
theorem dX6_commonDivisor_20 : decode cX6_commonDivisor 20 = .ok (.lstore 5, 2) := by decide +kernel
theorem dX6_commonDivisor_22 : decode cX6_commonDivisor 22 = .ok (.lload_n 2, 1) := by decide +kernel
theorem dX6_commonDivisor_23 : decode cX6_commonDivisor 23 = .ok (.lstore_n 0, 1) := by decide +kernel
theorem dX6_commonDivisor_24 : decode cX6_commonDivisor 24 = .ok (.lload 5, 2) := by decide +kernel
theorem dX6_commonDivisor_26 : decode cX6_commonDivisor 26 = .ok (.lstore_n 2, 1) := by decide +kernel
theorem dX6_commonDivisor_27 : decode cX6_commonDivisor 27 = .ok (.iinc 4 1, 3) := by decide +kernel
theorem dX6_commonDivisor_30 : decode cX6_commonDivisor 30 = .ok (.goto (-27), 3) := by decide +kernel
theorem dX6_commonDivisor_33 : decode cX6_commonDivisor 33 = .ok (.lload_n 0, 1) := by decide +kernel
theorem dX6_commonDivisor_34 : decode cX6_commonDivisor 34 = .ok (.lreturn, 1) := by decide +kernel
theorem dX6_powerOfTen_0 : decode cX6_powerOfTen 0 = .ok (.lconst 1, 1) := by decide +kernel
theorem dX6_powerOfTen_1 : decode cX6_powerOfTen 1 = .ok (.lstore_n 1, 1) := by decide +kernel
theorem dX6_powerOfTen_2 : decode cX6_powerOfTen 2 = .ok (.iconst 0, 1) := by decide +kernel
theorem dX6_powerOfTen_3 : decode cX6_powerOfTen 3 = .ok (.istore_n 3, 1) := by decide +kernel
theorem dX6_powerOfTen_4 : decode cX6_powerOfTen 4 = .ok (.iload_n 3, 1) := by decide +kernel
theorem dX6_powerOfTen_5 : decode cX6_powerOfTen 5 = .ok (.iload_n 0, 1) := by decide +kernel
theorem dX6_powerOfTen_6 : decode cX6_powerOfTen 6 = .ok (.if_icmp .ge 15, 3) := by decide +kernel
theorem dX6_powerOfTen_9 : decode cX6_powerOfTen 9 = .ok (.lload_n 1, 1) := by decide +kernel
theorem dX6_powerOfTen_10 : decode cX6_powerOfTen 10 = .ok (.ldc2_w 244, 3) := by decide +kernel
theorem dX6_powerOfTen_13 : decode cX6_powerOfTen 13 = .ok (.lmul, 1) := by decide +kernel
theorem dX6_powerOfTen_14 : decode cX6_powerOfTen 14 = .ok (.lstore_n 1, 1) := by decide +kernel
theorem dX6_powerOfTen_15 : decode cX6_powerOfTen 15 = .ok (.iinc 3 1, 3) := by decide +kernel
theorem dX6_powerOfTen_18 : decode cX6_powerOfTen 18 = .ok (.goto (-14), 3) := by decide +kernel
theorem dX6_powerOfTen_21 : decode cX6_powerOfTen 21 = .ok (.lload_n 1, 1) := by decide +kernel
theorem dX6_powerOfTen_22 : decode cX6_powerOfTen 22 = .ok (.lreturn, 1) := by decide +kernel
theorem dX6_bitOfRank_0 : decode cX6_bitOfRank 0 = .ok (.iconst 0, 1) := by decide +kernel
theorem dX6_bitOfRank_1 : decode cX6_bitOfRank 1 = .ok (.istore_n 2, 1) := by decide +kernel
theorem dX6_bitOfRank_2 : decode cX6_bitOfRank 2 = .ok (.iconst 0, 1) := by decide +kernel
theorem dX6_bitOfRank_3 : decode cX6_bitOfRank 3 = .ok (.istore_n 3, 1) := by decide +kernel
theorem dX6_bitOfRank_4 : decode cX6_bitOfRank 4 = .ok (.iload_n 3, 1) := by decide +kernel
theorem dX6_bitOfRank_5 : decode cX6_bitOfRank 5 = .ok (.bipush 16, 2) := by decide +kernel
theorem dX6_bitOfRank_7 : decode cX6_bitOfRank 7 = .ok (.if_icmp .ge 28, 3) := by decide +kernel
theorem dX6_bitOfRank_10 : decode cX6_bitOfRank 10 = .ok (.iload_n 0, 1) := by decide +kernel
theorem dX6_bitOfRank_11 : decode cX6_bitOfRank 11 = .ok (.iload_n 3, 1) := by decide +kernel
theorem dX6_bitOfRank_12 : decode cX6_bitOfRank 12 = .ok (.ishr, 1) := by decide +kernel
theorem dX6_bitOfRank_13 : decode cX6_bitOfRank 13 = .ok (.iconst 1, 1) := by decide +kernel
theorem dX6_bitOfRank_14 : decode cX6_bitOfRank 14 = .ok (.iand, 1) := by decide +kernel
theorem dX6_bitOfRank_15 : decode cX6_bitOfRank 15 = .ok (.iconst 1, 1) := by decide +kernel
theorem dX6_bitOfRank_16 : decode cX6_bitOfRank 16 = .ok (.if_icmp .ne 13, 3) := by decide +kernel
theorem dX6_bitOfRank_19 : decode cX6_bitOfRank 19 = .ok (.iload_n 2, 1) := by decide +kernel
theorem dX6_bitOfRank_20 : decode cX6_bitOfRank 20 = .ok (.iload_n 1, 1) := by decide +kernel
theorem dX6_bitOfRank_21 : decode cX6_bitOfRank 21 = .ok (.if_icmp .ne 5, 3) := by decide +kernel
theorem dX6_bitOfRank_24 : decode cX6_bitOfRank 24 = .ok (.iload_n 3, 1) := by decide +kernel
theorem dX6_bitOfRank_25 : decode cX6_bitOfRank 25 = .ok (.ireturn, 1) := by decide +kernel
theorem dX6_bitOfRank_26 : decode cX6_bitOfRank 26 = .ok (.iinc 2 1, 3) := by decide +kernel
theorem dX6_bitOfRank_29 : decode cX6_bitOfRank 29 = .ok (.iinc 3 1, 3) := by decide +kernel
theorem dX6_bitOfRank_32 : decode cX6_bitOfRank 32 = .ok (.goto (-28), 3) := by decide +kernel
theorem dX6_bitOfRank_35 : decode cX6_bitOfRank 35 = .ok (.bipush (-5), 2) := by decide +kernel
theorem dX6_bitOfRank_37 : decode cX6_bitOfRank 37 = .ok (.ireturn, 1) := by decide +kernel
theorem dX6_within_0 : decode cX6_within 0 = .ok (.iload_n 0, 1) := by decide +kernel
theorem dX6_within_1 : decode cX6_within 1 = .ok (.ifCond .lt 12, 3) := by decide +kernel
theorem dX6_within_4 : decode cX6_within 4 = .ok (.iload_n 0, 1) := by decide +kernel
theorem dX6_within_5 : decode cX6_within 5 = .ok (.iload_n 1, 1) := by decide +kernel
theorem dX6_within_6 : decode cX6_within 6 = .ok (.if_icmp .ge 7, 3) := by decide +kernel
theorem dX6_within_9 : decode cX6_within 9 = .ok (.iconst 1, 1) := by decide +kernel
theorem dX6_within_10 : decode cX6_within 10 = .ok (.goto 4, 3) := by decide +kernel
theorem dX6_within_13 : decode cX6_within 13 = .ok (.iconst 0, 1) := by decide +kernel
theorem dX6_within_14 : decode cX6_within 14 = .ok (.ireturn, 1) := by decide +kernel
theorem dX6_wayOrNone_0 : decode cX6_wayOrNone 0 = .ok (.iload_n 0, 1) := by decide +kernel
theorem dX6_wayOrNone_1 : decode cX6_wayOrNone 1 = .ok (.iconst (-1), 1) := by decide +kernel
theorem dX6_wayOrNone_2 : decode cX6_wayOrNone 2 = .ok (.if_icmp .eq 11, 3) := by decide +kernel
theorem dX6_wayOrNone_5 : decode cX6_wayOrNone 5 = .ok (.iload_n 0, 1) := by decide +kernel
theorem dX6_wayOrNone_6 : decode cX6_wayOrNone 6 = .ok (.iconst 4, 1) := by decide +kernel
theorem dX6_wayOrNone_7 : decode cX6_wayOrNone 7 = .ok (.invokestatic 67, 3) := by decide +kernel
theorem dX6_wayOrNone_10 : decode cX6_wayOrNone 10 = .ok (.ifCond .eq 7, 3) := by decide +kernel
theorem dX6_wayOrNone_13 : decode cX6_wayOrNone 13 = .ok (.iconst 1, 1) := by decide +kernel
theorem dX6_wayOrNone_14 : decode cX6_wayOrNone 14 = .ok (.goto 4, 3) := by decide +kernel
theorem dX6_wayOrNone_17 : decode cX6_wayOrNone 17 = .ok (.iconst 0, 1) := by decide +kernel
theorem dX6_wayOrNone_18 : decode cX6_wayOrNone 18 = .ok (.ireturn, 1) := by decide +kernel
theorem dX7_init_0 : decode cX7_init 0 = .ok (.aload_n 0, 1) := by decide +kernel
theorem dX7_init_1 : decode cX7_init 1 = .ok (.invokespecial 1, 3) := by decide +kernel
theorem dX7_init_4 : decode cX7_init 4 = .ok (.aload_n 0, 1) := by decide +kernel
theorem dX7_init_5 : decode cX7_init 5 = .ok (.sipush 293, 3) := by decide +kernel
theorem dX7_init_8 : decode cX7_init 8 = .ok (.newarray .int, 2) := by decide +kernel
theorem dX7_init_10 : decode cX7_init 10 = .ok (.putfield 7, 3) := by decide +kernel
theorem dX7_init_13 : decode cX7_init 13 = .ok (.aload_n 0, 1) := by decide +kernel
theorem dX7_init_14 : decode cX7_init 14 = .ok (.sipush 586, 3) := by decide +kernel
theorem dX7_init_17 : decode cX7_init 17 = .ok (.newarray .int, 2) := by decide +kernel
theorem dX7_init_19 : decode cX7_init 19 = .ok (.putfield 13, 3) := by decide +kernel
theorem dX7_init_22 : decode cX7_init 22 = .ok (.aload_n 0, 1) := by decide +kernel
theorem dX7_init_23 : decode cX7_init 23 = .ok (.iconst 2, 1) := by decide +kernel
theorem dX7_init_24 : decode cX7_init 24 = .ok (.newarray .boolean, 2) := by decide +kernel
theorem dX7_init_26 : decode cX7_init 26 = .ok (.putfield 16, 3) := by decide +kernel
theorem dX7_init_29 : decode cX7_init 29 = .ok (.aload_n 0, 1) := by decide +kernel
theorem dX7_init_30 : decode cX7_init 30 = .ok (.iconst 3, 1) := by decide +kernel
theorem dX7_init_31 : decode cX7_init 31 = .ok (.newarray .int, 2) := by decide +kernel
theorem dX7_init_33 : decode cX7_init 33 = .ok (.putfield 20, 3) := by decide +kernel
theorem dX7_init_36 : decode cX7_init 36 = .ok (.aload_n 0, 1) := by decide +kernel
theorem dX7_init_37 : decode cX7_init 37 = .ok (.lconst 1, 1) := by decide +kernel
theorem dX7_init_38 : decode cX7_init 38 = .ok (.putfield 23, 3) := by decide +kernel
theorem dX7_init_41 : decode cX7_init 41 = .ok (.aload_n 0, 1) := by decide +kernel
theorem dX7_init_42 : decode cX7_init 42 = .ok (.bipush 27, 2) := by decide +kernel
theorem dX7_init_44 : decode cX7_init 44 = .ok (.newarray .int, 2) := by decide +kernel
theorem dX7_init_46 : decode cX7_init 46 = .ok (.putfield 27, 3) := by decide +kernel
theorem dX7_init_49 : decode cX7_init 49 = .ok (.aload_n 0, 1) := by decide +kernel
theorem dX7_init_50 : decode cX7_init 50 = .ok (.iconst 5, 1) := by decide +kernel
theorem dX7_init_51 : decode cX7_init 51 = .ok (.newarray .int, 2) := by decide +kernel
theorem dX7_init_53 : decode cX7_init 53 = .ok (.putfield 30, 3) := by decide +kernel
theorem dX7_init_56 : decode cX7_init 56 = .ok (.aload_n 0, 1) := by decide +kernel
theorem dX7_init_57 : decode cX7_init 57 = .ok (.iconst 5, 1) := by decide +kernel
theorem dX7_init_58 : decode cX7_init 58 = .ok (.newarray .int, 2) := by decide +kernel
theorem dX7_init_60 : decode cX7_init 60 = .ok (.putfield 33, 3) := by decide +kernel
theorem dX7_init_63 : decode cX7_init 63 = .ok (.aload_n 0, 1) := by decide +kernel
theorem dX7_init_64 : decode cX7_init 64 = .ok (.iconst 4, 1) := by decide +kernel
theorem dX7_init_65 : decode cX7_init 65 = .ok (.newarray .int, 2) := by decide +kernel
theorem dX7_init_67 : decode cX7_init 67 = .ok (.putfield 36, 3) := by decide +kernel
theorem dX7_init_70 : decode cX7_init 70 = .ok (.aload_n 0, 1) := by decide +kernel
theorem dX7_init_71 : decode cX7_init 71 = .ok (.bipush 16, 2) := by decide +kernel
theorem dX7_init_73 : decode cX7_init 73 = .ok (.newarray .int, 2) := by decide +kernel
theorem dX7_init_75 : decode cX7_init 75 = .ok (.putfield 39, 3) := by decide +kernel
theorem dX7_init_78 : decode cX7_init 78 = .ok (.aload_n 0, 1) := by decide +kernel
theorem dX7_init_79 : decode cX7_init 79 = .ok (.bipush 16, 2) := by decide +kernel
theorem dX7_init_81 : decode cX7_init 81 = .ok (.newarray .int, 2) := by decide +kernel
theorem dX7_init_83 : decode cX7_init 83 = .ok (.putfield 42, 3) := by decide +kernel
theorem dX7_init_86 : decode cX7_init 86 = .ok (.aload_n 0, 1) := by decide +kernel
theorem dX7_init_87 : decode cX7_init 87 = .ok (.sipush 150, 3) := by decide +kernel
theorem dX7_init_90 : decode cX7_init 90 = .ok (.newarray .int, 2) := by decide +kernel
theorem dX7_init_92 : decode cX7_init 92 = .ok (.putfield 45, 3) := by decide +kernel
theorem dX7_init_95 : decode cX7_init 95 = .ok (.aload_n 0, 1) := by decide +kernel
theorem dX7_init_96 : decode cX7_init 96 = .ok (.bipush 77, 2) := by decide +kernel
theorem dX7_init_98 : decode cX7_init 98 = .ok (.newarray .int, 2) := by decide +kernel
theorem dX7_init_100 : decode cX7_init 100 = .ok (.putfield 48, 3) := by decide +kernel
theorem dX7_init_103 : decode cX7_init 103 = .ok (.aload_n 0, 1) := by decide +kernel
theorem dX7_init_104 : decode cX7_init 104 = .ok (.iconst 3, 1) := by decide +kernel
theorem dX7_init_105 : decode cX7_init 105 = .ok (.newarray .int, 2) := by decide +kernel
theorem dX7_init_107 : decode cX7_init 107 = .ok (.putfield 51, 3) := by decide +kernel
theorem dX7_init_110 : decode cX7_init 110 = .ok (.aload_n 0, 1) := by decide +kernel
theorem dX7_init_111 : decode cX7_init 111 = .ok (.getfield 7, 3) := by decide +kernel
theorem dX7_init_114 : decode cX7_init 114 = .ok (.invokestatic 54, 3) := by decide +kernel
theorem dX7_init_117 : decode cX7_init 117 = .ok (.return_, 1) := by decide +kernel
theorem dX7_in_0 : decode cX7_in 0 = .ok (.lload_n 0, 1) := by decide +kernel
theorem dX7_in_1 : decode cX7_in 1 = .ok (.lload_n 2, 1) := by decide +kernel
theorem dX7_in_2 : decode cX7_in 2 = .ok (.lcmp, 1) := by decide +kernel
theorem dX7_in_3 : decode cX7_in 3 = .ok (.ifCond .lt 14, 3) := by decide +kernel
theorem dX7_in_6 : decode cX7_in 6 = .ok (.lload_n 0, 1) := by decide +kernel
theorem dX7_in_7 : decode cX7_in 7 = .ok (.lload 4, 2) := by decide +kernel
theorem dX7_in_9 : decode cX7_in 9 = .ok (.lcmp, 1) := by decide +kernel
theorem dX7_in_10 : decode cX7_in 10 = .ok (.ifCond .gt 7, 3) := by decide +kernel
theorem dX7_in_13 : decode cX7_in 13 = .ok (.iconst 1, 1) := by decide +kernel
theorem dX7_in_14 : decode cX7_in 14 = .ok (.goto 4, 3) := by decide +kernel
theorem dX7_in_17 : decode cX7_in 17 = .ok (.iconst 0, 1) := by decide +kernel
theorem dX7_in_18 : decode cX7_in 18 = .ok (.ireturn, 1) := by decide +kernel
theorem dX7_bad_0 : decode cX7_bad 0 = .ok (.aload_n 0, 1) := by decide +kernel
theorem dX7_bad_1 : decode cX7_bad 1 = .ok (.getfield 20, 3) := by decide +kernel
theorem dX7_bad_4 : decode cX7_bad 4 = .ok (.iconst 0, 1) := by decide +kernel
theorem dX7_bad_5 : decode cX7_bad 5 = .ok (.dup2, 1) := by decide +kernel
theorem dX7_bad_6 : decode cX7_bad 6 = .ok (.iaload, 1) := by decide +kernel
theorem dX7_bad_7 : decode cX7_bad 7 = .ok (.iconst 1, 1) := by decide +kernel
theorem dX7_bad_8 : decode cX7_bad 8 = .ok (.iadd, 1) := by decide +kernel
theorem dX7_bad_9 : decode cX7_bad 9 = .ok (.iastore, 1) := by decide +kernel
theorem dX7_bad_10 : decode cX7_bad 10 = .ok (.iload_n 1, 1) := by decide +kernel
theorem dX7_bad_11 : decode cX7_bad 11 = .ok (.ireturn, 1) := by decide +kernel
theorem dX7_no_0 : decode cX7_no 0 = .ok (.aload_n 0, 1) := by decide +kernel
theorem dX7_no_1 : decode cX7_no 1 = .ok (.getfield 20, 3) := by decide +kernel
theorem dX7_no_4 : decode cX7_no 4 = .ok (.iconst 1, 1) := by decide +kernel
theorem dX7_no_5 : decode cX7_no 5 = .ok (.dup2, 1) := by decide +kernel
theorem dX7_no_6 : decode cX7_no 6 = .ok (.iaload, 1) := by decide +kernel
theorem dX7_no_7 : decode cX7_no 7 = .ok (.iconst 1, 1) := by decide +kernel
theorem dX7_no_8 : decode cX7_no 8 = .ok (.iadd, 1) := by decide +kernel
theorem dX7_no_9 : decode cX7_no 9 = .ok (.iastore, 1) := by decide +kernel
theorem dX7_no_10 : decode cX7_no 10 = .ok (.bipush (-3), 2) := by decide +kernel
theorem dX7_no_12 : decode cX7_no 12 = .ok (.ireturn, 1) := by decide +kernel
theorem dX7_full_0 : decode cX7_full 0 = .ok (.aload_n 0, 1) := by decide +kernel
theorem dX7_full_1 : decode cX7_full 1 = .ok (.getfield 20, 3) := by decide +kernel
theorem dX7_full_4 : decode cX7_full 4 = .ok (.iconst 2, 1) := by decide +kernel
theorem dX7_full_5 : decode cX7_full 5 = .ok (.dup2, 1) := by decide +kernel
theorem dX7_full_6 : decode cX7_full 6 = .ok (.iaload, 1) := by decide +kernel
theorem dX7_full_7 : decode cX7_full 7 = .ok (.iconst 1, 1) := by decide +kernel
theorem dX7_full_8 : decode cX7_full 8 = .ok (.iadd, 1) := by decide +kernel
theorem dX7_full_9 : decode cX7_full 9 = .ok (.iastore, 1) := by decide +kernel
theorem dX7_full_10 : decode cX7_full 10 = .ok (.bipush (-4), 2) := by decide +kernel
theorem dX7_full_12 : decode cX7_full 12 = .ok (.ireturn, 1) := by decide +kernel
theorem dX7_bits_0 : decode cX7_bits 0 = .ok (.iconst 0, 1) := by decide +kernel
theorem dX7_bits_1 : decode cX7_bits 1 = .ok (.istore_n 1, 1) := by decide +kernel
theorem dX7_bits_2 : decode cX7_bits 2 = .ok (.iload_n 0, 1) := by decide +kernel
theorem dX7_bits_3 : decode cX7_bits 3 = .ok (.istore_n 2, 1) := by decide +kernel
theorem dX7_bits_4 : decode cX7_bits 4 = .ok (.iload_n 2, 1) := by decide +kernel
theorem dX7_bits_5 : decode cX7_bits 5 = .ok (.ifCond .le 16, 3) := by decide +kernel
theorem dX7_bits_8 : decode cX7_bits 8 = .ok (.iload_n 1, 1) := by decide +kernel
theorem dX7_bits_9 : decode cX7_bits 9 = .ok (.iload_n 2, 1) := by decide +kernel
theorem dX7_bits_10 : decode cX7_bits 10 = .ok (.iconst 1, 1) := by decide +kernel
theorem dX7_bits_11 : decode cX7_bits 11 = .ok (.iand, 1) := by decide +kernel
theorem dX7_bits_12 : decode cX7_bits 12 = .ok (.iadd, 1) := by decide +kernel
theorem dX7_bits_13 : decode cX7_bits 13 = .ok (.istore_n 1, 1) := by decide +kernel
theorem dX7_bits_14 : decode cX7_bits 14 = .ok (.iload_n 2, 1) := by decide +kernel
theorem dX7_bits_15 : decode cX7_bits 15 = .ok (.iconst 1, 1) := by decide +kernel
theorem dX7_bits_16 : decode cX7_bits 16 = .ok (.ishr, 1) := by decide +kernel
theorem dX7_bits_17 : decode cX7_bits 17 = .ok (.istore_n 2, 1) := by decide +kernel
theorem dX7_bits_18 : decode cX7_bits 18 = .ok (.goto (-14), 3) := by decide +kernel
theorem dX7_bits_21 : decode cX7_bits 21 = .ok (.iload_n 1, 1) := by decide +kernel
theorem dX7_bits_22 : decode cX7_bits 22 = .ok (.ireturn, 1) := by decide +kernel
theorem dX7_has_0 : decode cX7_has 0 = .ok (.iload_n 0, 1) := by decide +kernel
theorem dX7_has_1 : decode cX7_has 1 = .ok (.iload_n 1, 1) := by decide +kernel
theorem dX7_has_2 : decode cX7_has 2 = .ok (.ishr, 1) := by decide +kernel
theorem dX7_has_3 : decode cX7_has 3 = .ok (.iconst 1, 1) := by decide +kernel
theorem dX7_has_4 : decode cX7_has 4 = .ok (.iand, 1) := by decide +kernel
theorem dX7_has_5 : decode cX7_has 5 = .ok (.iconst 1, 1) := by decide +kernel
theorem dX7_has_6 : decode cX7_has 6 = .ok (.if_icmp .ne 7, 3) := by decide +kernel
theorem dX7_has_9 : decode cX7_has 9 = .ok (.iconst 1, 1) := by decide +kernel
theorem dX7_has_10 : decode cX7_has 10 = .ok (.goto 4, 3) := by decide +kernel
theorem dX7_has_13 : decode cX7_has 13 = .ok (.iconst 0, 1) := by decide +kernel
theorem dX7_has_14 : decode cX7_has 14 = .ok (.ireturn, 1) := by decide +kernel
theorem dX7_begin_0 : decode cX7_begin 0 = .ok (.iconst 0, 1) := by decide +kernel
theorem dX7_begin_1 : decode cX7_begin 1 = .ok (.istore_n 1, 1) := by decide +kernel
theorem dX7_begin_2 : decode cX7_begin 2 = .ok (.iload_n 1, 1) := by decide +kernel
theorem dX7_begin_3 : decode cX7_begin 3 = .ok (.bipush 77, 2) := by decide +kernel
theorem dX7_begin_5 : decode cX7_begin 5 = .ok (.if_icmp .ge 13, 3) := by decide +kernel
theorem dX7_begin_8 : decode cX7_begin 8 = .ok (.aload_n 0, 1) := by decide +kernel
theorem dX7_begin_9 : decode cX7_begin 9 = .ok (.iload_n 1, 1) := by decide +kernel
theorem dX7_begin_10 : decode cX7_begin 10 = .ok (.iconst 0, 1) := by decide +kernel
theorem dX7_begin_11 : decode cX7_begin 11 = .ok (.iastore, 1) := by decide +kernel
theorem dX7_begin_12 : decode cX7_begin 12 = .ok (.iinc 1 1, 3) := by decide +kernel
theorem dX7_begin_15 : decode cX7_begin 15 = .ok (.goto (-13), 3) := by decide +kernel
theorem dX7_begin_18 : decode cX7_begin 18 = .ok (.aload_n 0, 1) := by decide +kernel
theorem dX7_begin_19 : decode cX7_begin 19 = .ok (.bipush 28, 2) := by decide +kernel
theorem dX7_begin_21 : decode cX7_begin 21 = .ok (.iconst (-1), 1) := by decide +kernel
theorem dX7_begin_22 : decode cX7_begin 22 = .ok (.iastore, 1) := by decide +kernel
theorem dX7_begin_23 : decode cX7_begin 23 = .ok (.iconst 0, 1) := by decide +kernel
theorem dX7_begin_24 : decode cX7_begin 24 = .ok (.istore_n 1, 1) := by decide +kernel
theorem dX7_begin_25 : decode cX7_begin 25 = .ok (.iload_n 1, 1) := by decide +kernel
theorem dX7_begin_26 : decode cX7_begin 26 = .ok (.iconst 5, 1) := by decide +kernel
theorem dX7_begin_27 : decode cX7_begin 27 = .ok (.if_icmp .ge 16, 3) := by decide +kernel
theorem dX7_begin_30 : decode cX7_begin 30 = .ok (.aload_n 0, 1) := by decide +kernel
theorem dX7_begin_31 : decode cX7_begin 31 = .ok (.bipush 23, 2) := by decide +kernel
theorem dX7_begin_33 : decode cX7_begin 33 = .ok (.iload_n 1, 1) := by decide +kernel
theorem dX7_begin_34 : decode cX7_begin 34 = .ok (.iadd, 1) := by decide +kernel
theorem dX7_begin_35 : decode cX7_begin 35 = .ok (.iconst (-1), 1) := by decide +kernel
theorem dX7_begin_36 : decode cX7_begin 36 = .ok (.iastore, 1) := by decide +kernel
theorem dX7_begin_37 : decode cX7_begin 37 = .ok (.iinc 1 1, 3) := by decide +kernel
theorem dX7_begin_40 : decode cX7_begin 40 = .ok (.goto (-15), 3) := by decide +kernel
theorem dX7_begin_43 : decode cX7_begin 43 = .ok (.return_, 1) := by decide +kernel
theorem dX7_many_0 : decode cX7_many 0 = .ok (.aload_n 0, 1) := by decide +kernel
theorem dX7_many_1 : decode cX7_many 1 = .ok (.getfield 7, 3) := by decide +kernel
theorem dX7_many_4 : decode cX7_many 4 = .ok (.iconst 0, 1) := by decide +kernel
theorem dX7_many_5 : decode cX7_many 5 = .ok (.iaload, 1) := by decide +kernel
theorem dX7_many_6 : decode cX7_many 6 = .ok (.ireturn, 1) := by decide +kernel
theorem dX7_isCar_0 : decode cX7_isCar 0 = .ok (.iload_n 1, 1) := by decide +kernel
theorem dX7_isCar_1 : decode cX7_isCar 1 = .ok (.i2l, 1) := by decide +kernel
theorem dX7_isCar_2 : decode cX7_isCar 2 = .ok (.lconst 0, 1) := by decide +kernel
theorem dX7_isCar_3 : decode cX7_isCar 3 = .ok (.aload_n 0, 1) := by decide +kernel
theorem dX7_isCar_4 : decode cX7_isCar 4 = .ok (.invokevirtual 58, 3) := by decide +kernel
theorem dX7_isCar_7 : decode cX7_isCar 7 = .ok (.iconst 1, 1) := by decide +kernel
theorem dX7_isCar_8 : decode cX7_isCar 8 = .ok (.isub, 1) := by decide +kernel
theorem dX7_isCar_9 : decode cX7_isCar 9 = .ok (.i2l, 1) := by decide +kernel
theorem dX7_isCar_10 : decode cX7_isCar 10 = .ok (.invokestatic 62, 3) := by decide +kernel
theorem dX7_isCar_13 : decode cX7_isCar 13 = .ok (.ireturn, 1) := by decide +kernel
theorem dX7_isCell_0 : decode cX7_isCell 0 = .ok (.iload_n 0, 1) := by decide +kernel
theorem dX7_isCell_1 : decode cX7_isCell 1 = .ok (.i2l, 1) := by decide +kernel
theorem dX7_isCell_2 : decode cX7_isCell 2 = .ok (.lconst 0, 1) := by decide +kernel
theorem dX7_isCell_3 : decode cX7_isCell 3 = .ok (.ldc2_w 66, 3) := by decide +kernel
theorem dX7_isCell_6 : decode cX7_isCell 6 = .ok (.invokestatic 62, 3) := by decide +kernel
theorem dX7_isCell_9 : decode cX7_isCell 9 = .ok (.ireturn, 1) := by decide +kernel
theorem dX7_isWay_0 : decode cX7_isWay 0 = .ok (.iload_n 0, 1) := by decide +kernel
theorem dX7_isWay_1 : decode cX7_isWay 1 = .ok (.i2l, 1) := by decide +kernel
theorem dX7_isWay_2 : decode cX7_isWay 2 = .ok (.lconst 0, 1) := by decide +kernel
theorem dX7_isWay_3 : decode cX7_isWay 3 = .ok (.ldc2_w 68, 3) := by decide +kernel
theorem dX7_isWay_6 : decode cX7_isWay 6 = .ok (.invokestatic 62, 3) := by decide +kernel
theorem dX7_isWay_9 : decode cX7_isWay 9 = .ok (.ireturn, 1) := by decide +kernel
theorem dX7_get_0 : decode cX7_get 0 = .ok (.aload_n 0, 1) := by decide +kernel
theorem dX7_get_1 : decode cX7_get 1 = .ok (.getfield 7, 3) := by decide +kernel
theorem dX7_get_4 : decode cX7_get 4 = .ok (.iconst 3, 1) := by decide +kernel
theorem dX7_get_5 : decode cX7_get 5 = .ok (.iload_n 1, 1) := by decide +kernel
theorem dX7_get_6 : decode cX7_get 6 = .ok (.iadd, 1) := by decide +kernel
theorem dX7_get_7 : decode cX7_get 7 = .ok (.iload_n 2, 1) := by decide +kernel
theorem dX7_get_8 : decode cX7_get 8 = .ok (.iadd, 1) := by decide +kernel
theorem dX7_get_9 : decode cX7_get 9 = .ok (.iaload, 1) := by decide +kernel
theorem dX7_get_10 : decode cX7_get 10 = .ok (.ireturn, 1) := by decide +kernel
theorem dX7_carIn_0 : decode cX7_carIn 0 = .ok (.iconst 0, 1) := by decide +kernel
theorem dX7_carIn_1 : decode cX7_carIn 1 = .ok (.istore_n 2, 1) := by decide +kernel
theorem dX7_carIn_2 : decode cX7_carIn 2 = .ok (.iload_n 2, 1) := by decide +kernel
theorem dX7_carIn_3 : decode cX7_carIn 3 = .ok (.aload_n 0, 1) := by decide +kernel
theorem dX7_carIn_4 : decode cX7_carIn 4 = .ok (.iconst 0, 1) := by decide +kernel
theorem dX7_carIn_5 : decode cX7_carIn 5 = .ok (.iaload, 1) := by decide +kernel
theorem dX7_carIn_6 : decode cX7_carIn 6 = .ok (.if_icmp .ge 20, 3) := by decide +kernel
theorem dX7_carIn_9 : decode cX7_carIn 9 = .ok (.aload_n 0, 1) := by decide +kernel
theorem dX7_carIn_10 : decode cX7_carIn 10 = .ok (.iconst 3, 1) := by decide +kernel
theorem dX7_carIn_11 : decode cX7_carIn 11 = .ok (.iload_n 2, 1) := by decide +kernel
theorem dX7_carIn_12 : decode cX7_carIn 12 = .ok (.iadd, 1) := by decide +kernel
theorem dX7_carIn_13 : decode cX7_carIn 13 = .ok (.iaload, 1) := by decide +kernel
theorem dX7_carIn_14 : decode cX7_carIn 14 = .ok (.iload_n 1, 1) := by decide +kernel
theorem dX7_carIn_15 : decode cX7_carIn 15 = .ok (.if_icmp .ne 5, 3) := by decide +kernel
theorem dX7_carIn_18 : decode cX7_carIn 18 = .ok (.iload_n 2, 1) := by decide +kernel
theorem dX7_carIn_19 : decode cX7_carIn 19 = .ok (.ireturn, 1) := by decide +kernel
theorem dX7_carIn_20 : decode cX7_carIn 20 = .ok (.iinc 2 1, 3) := by decide +kernel
theorem dX7_carIn_23 : decode cX7_carIn 23 = .ok (.goto (-21), 3) := by decide +kernel
theorem dX7_carIn_26 : decode cX7_carIn 26 = .ok (.iconst (-1), 1) := by decide +kernel
theorem dX7_carIn_27 : decode cX7_carIn 27 = .ok (.ireturn, 1) := by decide +kernel
theorem dX7_floor_0 : decode cX7_floor 0 = .ok (.aload_n 0, 1) := by decide +kernel
theorem dX7_floor_1 : decode cX7_floor 1 = .ok (.invokevirtual 58, 3) := by decide +kernel
theorem dX7_floor_4 : decode cX7_floor 4 = .ok (.istore_n 1, 1) := by decide +kernel
theorem dX7_floor_5 : decode cX7_floor 5 = .ok (.aload_n 0, 1) := by decide +kernel
theorem dX7_floor_6 : decode cX7_floor 6 = .ok (.getfield 7, 3) := by decide +kernel
theorem dX7_floor_9 : decode cX7_floor 9 = .ok (.invokestatic 54, 3) := by decide +kernel
theorem dX7_floor_12 : decode cX7_floor 12 = .ok (.iload_n 1, 1) := by decide +kernel
theorem dX7_floor_13 : decode cX7_floor 13 = .ok (.ireturn, 1) := by decide +kernel
theorem dX7_layCar_0 : decode cX7_layCar 0 = .ok (.aload_n 0, 1) := by decide +kernel
theorem dX7_layCar_1 : decode cX7_layCar 1 = .ok (.iconst 0, 1) := by decide +kernel
theorem dX7_layCar_2 : decode cX7_layCar 2 = .ok (.iaload, 1) := by decide +kernel
theorem dX7_layCar_3 : decode cX7_layCar 3 = .ok (.istore 4, 2) := by decide +kernel
theorem dX7_layCar_5 : decode cX7_layCar 5 = .ok (.aload_n 0, 1) := by decide +kernel
theorem dX7_layCar_6 : decode cX7_layCar 6 = .ok (.bipush 30, 2) := by decide +kernel
theorem dX7_layCar_8 : decode cX7_layCar 8 = .ok (.iload 4, 2) := by decide +kernel
theorem dX7_layCar_10 : decode cX7_layCar 10 = .ok (.iadd, 1) := by decide +kernel
theorem dX7_layCar_11 : decode cX7_layCar 11 = .ok (.iload_n 1, 1) := by decide +kernel
theorem dX7_layCar_12 : decode cX7_layCar 12 = .ok (.iastore, 1) := by decide +kernel
theorem dX7_layCar_13 : decode cX7_layCar 13 = .ok (.aload_n 0, 1) := by decide +kernel
theorem dX7_layCar_14 : decode cX7_layCar 14 = .ok (.iconst 3, 1) := by decide +kernel
theorem dX7_layCar_15 : decode cX7_layCar 15 = .ok (.iload 4, 2) := by decide +kernel
theorem dX7_layCar_17 : decode cX7_layCar 17 = .ok (.iadd, 1) := by decide +kernel
theorem dX7_layCar_18 : decode cX7_layCar 18 = .ok (.iload_n 2, 1) := by decide +kernel
theorem dX7_layCar_19 : decode cX7_layCar 19 = .ok (.iastore, 1) := by decide +kernel
theorem dX7_layCar_20 : decode cX7_layCar 20 = .ok (.aload_n 0, 1) := by decide +kernel
theorem dX7_layCar_21 : decode cX7_layCar 21 = .ok (.bipush 8, 2) := by decide +kernel
theorem dX7_layCar_23 : decode cX7_layCar 23 = .ok (.iload 4, 2) := by decide +kernel
theorem dX7_layCar_25 : decode cX7_layCar 25 = .ok (.iadd, 1) := by decide +kernel
theorem dX7_layCar_26 : decode cX7_layCar 26 = .ok (.iload_n 3, 1) := by decide +kernel
theorem dX7_layCar_27 : decode cX7_layCar 27 = .ok (.iastore, 1) := by decide +kernel
theorem dX7_layCar_28 : decode cX7_layCar 28 = .ok (.aload_n 0, 1) := by decide +kernel
theorem dX7_layCar_29 : decode cX7_layCar 29 = .ok (.bipush 13, 2) := by decide +kernel
theorem dX7_layCar_31 : decode cX7_layCar 31 = .ok (.iload 4, 2) := by decide +kernel
theorem dX7_layCar_33 : decode cX7_layCar 33 = .ok (.iadd, 1) := by decide +kernel
theorem dX7_layCar_34 : decode cX7_layCar 34 = .ok (.iconst 0, 1) := by decide +kernel
theorem dX7_layCar_35 : decode cX7_layCar 35 = .ok (.iastore, 1) := by decide +kernel
theorem dX7_layCar_36 : decode cX7_layCar 36 = .ok (.aload_n 0, 1) := by decide +kernel
theorem dX7_layCar_37 : decode cX7_layCar 37 = .ok (.bipush 18, 2) := by decide +kernel
theorem dX7_layCar_39 : decode cX7_layCar 39 = .ok (.iload 4, 2) := by decide +kernel
theorem dX7_layCar_41 : decode cX7_layCar 41 = .ok (.iadd, 1) := by decide +kernel
theorem dX7_layCar_42 : decode cX7_layCar 42 = .ok (.iconst 0, 1) := by decide +kernel
theorem dX7_layCar_43 : decode cX7_layCar 43 = .ok (.iastore, 1) := by decide +kernel
theorem dX7_layCar_44 : decode cX7_layCar 44 = .ok (.aload_n 0, 1) := by decide +kernel
theorem dX7_layCar_45 : decode cX7_layCar 45 = .ok (.bipush 23, 2) := by decide +kernel
theorem dX7_layCar_47 : decode cX7_layCar 47 = .ok (.iload 4, 2) := by decide +kernel
theorem dX7_layCar_49 : decode cX7_layCar 49 = .ok (.iadd, 1) := by decide +kernel
theorem dX7_layCar_50 : decode cX7_layCar 50 = .ok (.iconst (-1), 1) := by decide +kernel
theorem dX7_layCar_51 : decode cX7_layCar 51 = .ok (.iastore, 1) := by decide +kernel
theorem dX7_layCar_52 : decode cX7_layCar 52 = .ok (.aload_n 0, 1) := by decide +kernel
theorem dX7_layCar_53 : decode cX7_layCar 53 = .ok (.iconst 0, 1) := by decide +kernel
theorem dX7_layCar_54 : decode cX7_layCar 54 = .ok (.dup2, 1) := by decide +kernel
theorem dX7_layCar_55 : decode cX7_layCar 55 = .ok (.iaload, 1) := by decide +kernel
theorem dX7_layCar_56 : decode cX7_layCar 56 = .ok (.iconst 1, 1) := by decide +kernel
theorem dX7_layCar_57 : decode cX7_layCar 57 = .ok (.iadd, 1) := by decide +kernel
theorem dX7_layCar_58 : decode cX7_layCar 58 = .ok (.iastore, 1) := by decide +kernel
theorem dX7_layCar_59 : decode cX7_layCar 59 = .ok (.return_, 1) := by decide +kernel
theorem dX7_car_0 : decode cX7_car 0 = .ok (.iload_n 1, 1) := by decide +kernel
theorem dX7_car_1 : decode cX7_car 1 = .ok (.i2l, 1) := by decide +kernel
theorem dX7_car_2 : decode cX7_car 2 = .ok (.lconst 0, 1) := by decide +kernel
theorem dX7_car_3 : decode cX7_car 3 = .ok (.ldc2_w 70, 3) := by decide +kernel
theorem dX7_car_6 : decode cX7_car 6 = .ok (.invokestatic 62, 3) := by decide +kernel
theorem dX7_car_9 : decode cX7_car 9 = .ok (.ifCond .eq 17, 3) := by decide +kernel
theorem dX7_car_12 : decode cX7_car 12 = .ok (.iload_n 2, 1) := by decide +kernel
theorem dX7_car_13 : decode cX7_car 13 = .ok (.invokestatic 72, 3) := by decide +kernel
theorem dX7_car_16 : decode cX7_car 16 = .ok (.ifCond .eq 10, 3) := by decide +kernel
theorem dX7_car_19 : decode cX7_car 19 = .ok (.iload_n 3, 1) := by decide +kernel
theorem dX7_car_20 : decode cX7_car 20 = .ok (.invokestatic 76, 3) := by decide +kernel
theorem dX7_car_23 : decode cX7_car 23 = .ok (.ifCond .ne 10, 3) := by decide +kernel
theorem dX7_car_26 : decode cX7_car 26 = .ok (.aload_n 0, 1) := by decide +kernel
theorem dX7_car_27 : decode cX7_car 27 = .ok (.bipush (-2), 2) := by decide +kernel
theorem dX7_car_29 : decode cX7_car 29 = .ok (.invokevirtual 79, 3) := by decide +kernel
theorem dX7_car_32 : decode cX7_car 32 = .ok (.ireturn, 1) := by decide +kernel
theorem dX7_car_33 : decode cX7_car 33 = .ok (.aload_n 0, 1) := by decide +kernel
theorem dX7_car_34 : decode cX7_car 34 = .ok (.getfield 7, 3) := by decide +kernel
theorem dX7_car_37 : decode cX7_car 37 = .ok (.iload_n 2, 1) := by decide +kernel
theorem dX7_car_38 : decode cX7_car 38 = .ok (.invokestatic 83, 3) := by decide +kernel
theorem dX7_car_41 : decode cX7_car 41 = .ok (.iconst (-1), 1) := by decide +kernel
theorem dX7_car_42 : decode cX7_car 42 = .ok (.if_icmp .eq 8, 3) := by decide +kernel
theorem dX7_car_45 : decode cX7_car 45 = .ok (.aload_n 0, 1) := by decide +kernel
theorem dX7_car_46 : decode cX7_car 46 = .ok (.invokevirtual 87, 3) := by decide +kernel
theorem dX7_car_49 : decode cX7_car 49 = .ok (.ireturn, 1) := by decide +kernel
theorem dX7_car_50 : decode cX7_car 50 = .ok (.aload_n 0, 1) := by decide +kernel
theorem dX7_car_51 : decode cX7_car 51 = .ok (.invokevirtual 58, 3) := by decide +kernel
theorem dX7_car_54 : decode cX7_car 54 = .ok (.iconst 5, 1) := by decide +kernel
theorem dX7_car_55 : decode cX7_car 55 = .ok (.if_icmp .ne 8, 3) := by decide +kernel
theorem dX7_car_58 : decode cX7_car 58 = .ok (.aload_n 0, 1) := by decide +kernel
theorem dX7_car_59 : decode cX7_car 59 = .ok (.invokevirtual 90, 3) := by decide +kernel
theorem dX7_car_62 : decode cX7_car 62 = .ok (.ireturn, 1) := by decide +kernel
theorem dX7_car_63 : decode cX7_car 63 = .ok (.aload_n 0, 1) := by decide +kernel
theorem dX7_car_64 : decode cX7_car 64 = .ok (.getfield 7, 3) := by decide +kernel
theorem dX7_car_67 : decode cX7_car 67 = .ok (.iload_n 1, 1) := by decide +kernel
theorem dX7_car_68 : decode cX7_car 68 = .ok (.iload_n 2, 1) := by decide +kernel
theorem dX7_car_69 : decode cX7_car 69 = .ok (.iload_n 3, 1) := by decide +kernel
theorem dX7_car_70 : decode cX7_car 70 = .ok (.invokestatic 93, 3) := by decide +kernel
theorem dX7_car_73 : decode cX7_car 73 = .ok (.aload_n 0, 1) := by decide +kernel
theorem dX7_car_74 : decode cX7_car 74 = .ok (.getfield 7, 3) := by decide +kernel
theorem dX7_car_77 : decode cX7_car 77 = .ok (.iconst 2, 1) := by decide +kernel
theorem dX7_car_78 : decode cX7_car 78 = .ok (.iconst 0, 1) := by decide +kernel
theorem dX7_car_79 : decode cX7_car 79 = .ok (.iastore, 1) := by decide +kernel
theorem dX7_car_80 : decode cX7_car 80 = .ok (.aload_n 0, 1) := by decide +kernel
theorem dX7_car_81 : decode cX7_car 81 = .ok (.invokevirtual 58, 3) := by decide +kernel
theorem dX7_car_84 : decode cX7_car 84 = .ok (.iconst 1, 1) := by decide +kernel
theorem dX7_car_85 : decode cX7_car 85 = .ok (.isub, 1) := by decide +kernel
theorem dX7_car_86 : decode cX7_car 86 = .ok (.ireturn, 1) := by decide +kernel
theorem dX7_layHand_0 : decode cX7_layHand 0 = .ok (.iconst 0, 1) := by decide +kernel
theorem dX7_layHand_1 : decode cX7_layHand 1 = .ok (.istore_n 1, 1) := by decide +kernel
theorem dX7_layHand_2 : decode cX7_layHand 2 = .ok (.iload_n 1, 1) := by decide +kernel
theorem dX7_layHand_3 : decode cX7_layHand 3 = .ok (.bipush 27, 2) := by decide +kernel
theorem dX7_layHand_5 : decode cX7_layHand 5 = .ok (.if_icmp .ge 23, 3) := by decide +kernel
theorem dX7_layHand_8 : decode cX7_layHand 8 = .ok (.aload_n 0, 1) := by decide +kernel
theorem dX7_layHand_9 : decode cX7_layHand 9 = .ok (.getfield 27, 3) := by decide +kernel
theorem dX7_layHand_12 : decode cX7_layHand 12 = .ok (.iload_n 1, 1) := by decide +kernel
theorem dX7_layHand_13 : decode cX7_layHand 13 = .ok (.aload_n 0, 1) := by decide +kernel
theorem dX7_layHand_14 : decode cX7_layHand 14 = .ok (.getfield 7, 3) := by decide +kernel
theorem dX7_layHand_17 : decode cX7_layHand 17 = .ok (.iconst 3, 1) := by decide +kernel
theorem dX7_layHand_18 : decode cX7_layHand 18 = .ok (.iload_n 1, 1) := by decide +kernel
theorem dX7_layHand_19 : decode cX7_layHand 19 = .ok (.iadd, 1) := by decide +kernel
theorem dX7_layHand_20 : decode cX7_layHand 20 = .ok (.iaload, 1) := by decide +kernel
theorem dX7_layHand_21 : decode cX7_layHand 21 = .ok (.iastore, 1) := by decide +kernel
theorem dX7_layHand_22 : decode cX7_layHand 22 = .ok (.iinc 1 1, 3) := by decide +kernel
theorem dX7_layHand_25 : decode cX7_layHand 25 = .ok (.goto (-23), 3) := by decide +kernel
theorem dX7_layHand_28 : decode cX7_layHand 28 = .ok (.return_, 1) := by decide +kernel
theorem dX7_right_0 : decode cX7_right 0 = .ok (.iload_n 0, 1) := by decide +kernel
theorem dX7_right_1 : decode cX7_right 1 = .ok (.iconst 1, 1) := by decide +kernel
theorem dX7_right_2 : decode cX7_right 2 = .ok (.iadd, 1) := by decide +kernel
theorem dX7_right_3 : decode cX7_right 3 = .ok (.iconst 4, 1) := by decide +kernel
theorem dX7_right_4 : decode cX7_right 4 = .ok (.irem, 1) := by decide +kernel
theorem dX7_right_5 : decode cX7_right 5 = .ok (.ireturn, 1) := by decide +kernel
theorem dX7_cellBy_0 : decode cX7_cellBy 0 = .ok (.iload_n 0, 1) := by decide +kernel
theorem dX7_cellBy_1 : decode cX7_cellBy 1 = .ok (.bipush 6, 2) := by decide +kernel
theorem dX7_cellBy_3 : decode cX7_cellBy 3 = .ok (.irem, 1) := by decide +kernel
theorem dX7_cellBy_4 : decode cX7_cellBy 4 = .ok (.iload_n 1, 1) := by decide +kernel
theorem dX7_cellBy_5 : decode cX7_cellBy 5 = .ok (.ifCond .ne 7, 3) := by decide +kernel
theorem dX7_cellBy_8 : decode cX7_cellBy 8 = .ok (.iconst 1, 1) := by decide +kernel
theorem dX7_cellBy_9 : decode cX7_cellBy 9 = .ok (.goto 13, 3) := by decide +kernel
theorem dX7_cellBy_12 : decode cX7_cellBy 12 = .ok (.iload_n 1, 1) := by decide +kernel
theorem dX7_cellBy_13 : decode cX7_cellBy 13 = .ok (.iconst 2, 1) := by decide +kernel
theorem dX7_cellBy_14 : decode cX7_cellBy 14 = .ok (.if_icmp .ne 7, 3) := by decide +kernel
theorem dX7_cellBy_17 : decode cX7_cellBy 17 = .ok (.iconst (-1), 1) := by decide +kernel
theorem dX7_cellBy_18 : decode cX7_cellBy 18 = .ok (.goto 4, 3) := by decide +kernel
theorem dX7_cellBy_21 : decode cX7_cellBy 21 = .ok (.iconst 0, 1) := by decide +kernel
theorem dX7_cellBy_22 : decode cX7_cellBy 22 = .ok (.iadd, 1) := by decide +kernel
theorem dX7_cellBy_23 : decode cX7_cellBy 23 = .ok (.istore_n 2, 1) := by decide +kernel
theorem dX7_cellBy_24 : decode cX7_cellBy 24 = .ok (.iload_n 0, 1) := by decide +kernel
theorem dX7_cellBy_25 : decode cX7_cellBy 25 = .ok (.bipush 6, 2) := by decide +kernel
theorem dX7_cellBy_27 : decode cX7_cellBy 27 = .ok (.idiv, 1) := by decide +kernel
theorem dX7_cellBy_28 : decode cX7_cellBy 28 = .ok (.iload_n 1, 1) := by decide +kernel
theorem dX7_cellBy_29 : decode cX7_cellBy 29 = .ok (.iconst 1, 1) := by decide +kernel
theorem dX7_cellBy_30 : decode cX7_cellBy 30 = .ok (.if_icmp .ne 7, 3) := by decide +kernel
theorem dX7_cellBy_33 : decode cX7_cellBy 33 = .ok (.iconst 1, 1) := by decide +kernel
theorem dX7_cellBy_34 : decode cX7_cellBy 34 = .ok (.goto 13, 3) := by decide +kernel
theorem dX7_cellBy_37 : decode cX7_cellBy 37 = .ok (.iload_n 1, 1) := by decide +kernel
theorem dX7_cellBy_38 : decode cX7_cellBy 38 = .ok (.iconst 3, 1) := by decide +kernel
theorem dX7_cellBy_39 : decode cX7_cellBy 39 = .ok (.if_icmp .ne 7, 3) := by decide +kernel
theorem dX7_cellBy_42 : decode cX7_cellBy 42 = .ok (.iconst (-1), 1) := by decide +kernel
theorem dX7_cellBy_43 : decode cX7_cellBy 43 = .ok (.goto 4, 3) := by decide +kernel
theorem dX7_cellBy_46 : decode cX7_cellBy 46 = .ok (.iconst 0, 1) := by decide +kernel
theorem dX7_cellBy_47 : decode cX7_cellBy 47 = .ok (.iadd, 1) := by decide +kernel
theorem dX7_cellBy_48 : decode cX7_cellBy 48 = .ok (.istore_n 3, 1) := by decide +kernel
theorem dX7_cellBy_49 : decode cX7_cellBy 49 = .ok (.iload_n 2, 1) := by decide +kernel
theorem dX7_cellBy_50 : decode cX7_cellBy 50 = .ok (.i2l, 1) := by decide +kernel
theorem dX7_cellBy_51 : decode cX7_cellBy 51 = .ok (.lconst 0, 1) := by decide +kernel
theorem dX7_cellBy_52 : decode cX7_cellBy 52 = .ok (.ldc2_w 70, 3) := by decide +kernel
theorem dX7_cellBy_55 : decode cX7_cellBy 55 = .ok (.invokestatic 62, 3) := by decide +kernel
theorem dX7_cellBy_58 : decode cX7_cellBy 58 = .ok (.ifCond .eq 24, 3) := by decide +kernel
theorem dX7_cellBy_61 : decode cX7_cellBy 61 = .ok (.iload_n 3, 1) := by decide +kernel
theorem dX7_cellBy_62 : decode cX7_cellBy 62 = .ok (.i2l, 1) := by decide +kernel
theorem dX7_cellBy_63 : decode cX7_cellBy 63 = .ok (.lconst 0, 1) := by decide +kernel
theorem dX7_cellBy_64 : decode cX7_cellBy 64 = .ok (.ldc2_w 68, 3) := by decide +kernel
theorem dX7_cellBy_67 : decode cX7_cellBy 67 = .ok (.invokestatic 62, 3) := by decide +kernel
theorem dX7_cellBy_70 : decode cX7_cellBy 70 = .ok (.ifCond .eq 12, 3) := by decide +kernel
theorem dX7_cellBy_73 : decode cX7_cellBy 73 = .ok (.bipush 6, 2) := by decide +kernel
theorem dX7_cellBy_75 : decode cX7_cellBy 75 = .ok (.iload_n 3, 1) := by decide +kernel
theorem dX7_cellBy_76 : decode cX7_cellBy 76 = .ok (.imul, 1) := by decide +kernel
theorem dX7_cellBy_77 : decode cX7_cellBy 77 = .ok (.iload_n 2, 1) := by decide +kernel
theorem dX7_cellBy_78 : decode cX7_cellBy 78 = .ok (.iadd, 1) := by decide +kernel
theorem dX7_cellBy_79 : decode cX7_cellBy 79 = .ok (.goto 4, 3) := by decide +kernel
theorem dX7_cellBy_82 : decode cX7_cellBy 82 = .ok (.iconst (-1), 1) := by decide +kernel
theorem dX7_cellBy_83 : decode cX7_cellBy 83 = .ok (.ireturn, 1) := by decide +kernel
theorem dX7_carAt_0 : decode cX7_carAt 0 = .ok (.iconst 0, 1) := by decide +kernel
theorem dX7_carAt_1 : decode cX7_carAt 1 = .ok (.istore_n 2, 1) := by decide +kernel
theorem dX7_carAt_2 : decode cX7_carAt 2 = .ok (.iload_n 2, 1) := by decide +kernel
theorem dX7_carAt_3 : decode cX7_carAt 3 = .ok (.aload_n 0, 1) := by decide +kernel
theorem dX7_carAt_4 : decode cX7_carAt 4 = .ok (.invokevirtual 58, 3) := by decide +kernel
theorem dX7_carAt_7 : decode cX7_carAt 7 = .ok (.if_icmp .ge 23, 3) := by decide +kernel
theorem dX7_carAt_10 : decode cX7_carAt 10 = .ok (.aload_n 0, 1) := by decide +kernel
theorem dX7_carAt_11 : decode cX7_carAt 11 = .ok (.getfield 27, 3) := by decide +kernel
theorem dX7_carAt_14 : decode cX7_carAt 14 = .ok (.iconst 0, 1) := by decide +kernel
theorem dX7_carAt_15 : decode cX7_carAt 15 = .ok (.iload_n 2, 1) := by decide +kernel
theorem dX7_carAt_16 : decode cX7_carAt 16 = .ok (.iadd, 1) := by decide +kernel
theorem dX7_carAt_17 : decode cX7_carAt 17 = .ok (.iaload, 1) := by decide +kernel
theorem dX7_carAt_18 : decode cX7_carAt 18 = .ok (.iload_n 1, 1) := by decide +kernel
theorem dX7_carAt_19 : decode cX7_carAt 19 = .ok (.if_icmp .ne 5, 3) := by decide +kernel
theorem dX7_carAt_22 : decode cX7_carAt 22 = .ok (.iload_n 2, 1) := by decide +kernel
theorem dX7_carAt_23 : decode cX7_carAt 23 = .ok (.ireturn, 1) := by decide +kernel
theorem dX7_carAt_24 : decode cX7_carAt 24 = .ok (.iinc 2 1, 3) := by decide +kernel
theorem dX7_carAt_27 : decode cX7_carAt 27 = .ok (.goto (-25), 3) := by decide +kernel
theorem dX7_carAt_30 : decode cX7_carAt 30 = .ok (.iconst (-1), 1) := by decide +kernel
theorem dX7_carAt_31 : decode cX7_carAt 31 = .ok (.ireturn, 1) := by decide +kernel
theorem dX7_aheadBy_0 : decode cX7_aheadBy 0 = .ok (.aload_n 0, 1) := by decide +kernel
theorem dX7_aheadBy_1 : decode cX7_aheadBy 1 = .ok (.getfield 27, 3) := by decide +kernel
theorem dX7_aheadBy_4 : decode cX7_aheadBy 4 = .ok (.iconst 0, 1) := by decide +kernel
theorem dX7_aheadBy_5 : decode cX7_aheadBy 5 = .ok (.iload_n 1, 1) := by decide +kernel
theorem dX7_aheadBy_6 : decode cX7_aheadBy 6 = .ok (.iadd, 1) := by decide +kernel
theorem dX7_aheadBy_7 : decode cX7_aheadBy 7 = .ok (.iaload, 1) := by decide +kernel
theorem dX7_aheadBy_8 : decode cX7_aheadBy 8 = .ok (.iload_n 2, 1) := by decide +kernel
theorem dX7_aheadBy_9 : decode cX7_aheadBy 9 = .ok (.invokestatic 97, 3) := by decide +kernel
theorem dX7_aheadBy_12 : decode cX7_aheadBy 12 = .ok (.istore_n 3, 1) := by decide +kernel
theorem dX7_aheadBy_13 : decode cX7_aheadBy 13 = .ok (.iload_n 3, 1) := by decide +kernel
theorem dX7_aheadBy_14 : decode cX7_aheadBy 14 = .ok (.iconst (-1), 1) := by decide +kernel
theorem dX7_aheadBy_15 : decode cX7_aheadBy 15 = .ok (.if_icmp .ne 7, 3) := by decide +kernel
theorem dX7_aheadBy_18 : decode cX7_aheadBy 18 = .ok (.iconst 1, 1) := by decide +kernel
theorem dX7_aheadBy_19 : decode cX7_aheadBy 19 = .ok (.goto 17, 3) := by decide +kernel
theorem dX7_aheadBy_22 : decode cX7_aheadBy 22 = .ok (.aload_n 0, 1) := by decide +kernel
theorem dX7_aheadBy_23 : decode cX7_aheadBy 23 = .ok (.iload_n 3, 1) := by decide +kernel
theorem dX7_aheadBy_24 : decode cX7_aheadBy 24 = .ok (.invokevirtual 101, 3) := by decide +kernel
theorem dX7_aheadBy_27 : decode cX7_aheadBy 27 = .ok (.iconst (-1), 1) := by decide +kernel
theorem dX7_aheadBy_28 : decode cX7_aheadBy 28 = .ok (.if_icmp .ne 7, 3) := by decide +kernel
theorem dX7_aheadBy_31 : decode cX7_aheadBy 31 = .ok (.iconst 0, 1) := by decide +kernel
theorem dX7_aheadBy_32 : decode cX7_aheadBy 32 = .ok (.goto 4, 3) := by decide +kernel
theorem dX7_aheadBy_35 : decode cX7_aheadBy 35 = .ok (.iconst 2, 1) := by decide +kernel
theorem dX7_aheadBy_36 : decode cX7_aheadBy 36 = .ok (.ireturn, 1) := by decide +kernel
theorem dX7_distance_0 : decode cX7_distance 0 = .ok (.iload_n 0, 1) := by decide +kernel
theorem dX7_distance_1 : decode cX7_distance 1 = .ok (.iload_n 1, 1) := by decide +kernel
theorem dX7_distance_2 : decode cX7_distance 2 = .ok (.if_icmp .ge 9, 3) := by decide +kernel
theorem dX7_distance_5 : decode cX7_distance 5 = .ok (.iload_n 1, 1) := by decide +kernel
theorem dX7_distance_6 : decode cX7_distance 6 = .ok (.iload_n 0, 1) := by decide +kernel
theorem dX7_distance_7 : decode cX7_distance 7 = .ok (.isub, 1) := by decide +kernel
theorem dX7_distance_8 : decode cX7_distance 8 = .ok (.goto 6, 3) := by decide +kernel
theorem dX7_distance_11 : decode cX7_distance 11 = .ok (.iload_n 0, 1) := by decide +kernel
theorem dX7_distance_12 : decode cX7_distance 12 = .ok (.iload_n 1, 1) := by decide +kernel
theorem dX7_distance_13 : decode cX7_distance 13 = .ok (.isub, 1) := by decide +kernel
theorem dX7_distance_14 : decode cX7_distance 14 = .ok (.ireturn, 1) := by decide +kernel
theorem dX7_towards_0 : decode cX7_towards 0 = .ok (.iload_n 2, 1) := by decide +kernel
theorem dX7_towards_1 : decode cX7_towards 1 = .ok (.iconst (-1), 1) := by decide +kernel
theorem dX7_towards_2 : decode cX7_towards 2 = .ok (.if_icmp .eq 8, 3) := by decide +kernel
theorem dX7_towards_5 : decode cX7_towards 5 = .ok (.iload_n 2, 1) := by decide +kernel
theorem dX7_towards_6 : decode cX7_towards 6 = .ok (.iload_n 1, 1) := by decide +kernel
theorem dX7_towards_7 : decode cX7_towards 7 = .ok (.if_icmp .ne 5, 3) := by decide +kernel
theorem dX7_towards_10 : decode cX7_towards 10 = .ok (.iconst (-1), 1) := by decide +kernel
theorem dX7_towards_11 : decode cX7_towards 11 = .ok (.ireturn, 1) := by decide +kernel
theorem dX7_towards_12 : decode cX7_towards 12 = .ok (.aload_n 0, 1) := by decide +kernel
theorem dX7_towards_13 : decode cX7_towards 13 = .ok (.getfield 27, 3) := by decide +kernel
theorem dX7_towards_16 : decode cX7_towards 16 = .ok (.iconst 0, 1) := by decide +kernel
theorem dX7_towards_17 : decode cX7_towards 17 = .ok (.iload_n 1, 1) := by decide +kernel
theorem dX7_towards_18 : decode cX7_towards 18 = .ok (.iadd, 1) := by decide +kernel
theorem dX7_towards_19 : decode cX7_towards 19 = .ok (.iaload, 1) := by decide +kernel
theorem dX7_towards_20 : decode cX7_towards 20 = .ok (.bipush 6, 2) := by decide +kernel
theorem dX7_towards_22 : decode cX7_towards 22 = .ok (.irem, 1) := by decide +kernel
theorem dX7_towards_23 : decode cX7_towards 23 = .ok (.istore_n 3, 1) := by decide +kernel
theorem dX7_towards_24 : decode cX7_towards 24 = .ok (.aload_n 0, 1) := by decide +kernel
theorem dX7_towards_25 : decode cX7_towards 25 = .ok (.getfield 27, 3) := by decide +kernel
theorem dX7_towards_28 : decode cX7_towards 28 = .ok (.iconst 0, 1) := by decide +kernel
theorem dX7_towards_29 : decode cX7_towards 29 = .ok (.iload_n 1, 1) := by decide +kernel
theorem dX7_towards_30 : decode cX7_towards 30 = .ok (.iadd, 1) := by decide +kernel
theorem dX7_towards_31 : decode cX7_towards 31 = .ok (.iaload, 1) := by decide +kernel
theorem dX7_towards_32 : decode cX7_towards 32 = .ok (.bipush 6, 2) := by decide +kernel
theorem dX7_towards_34 : decode cX7_towards 34 = .ok (.idiv, 1) := by decide +kernel
theorem dX7_towards_35 : decode cX7_towards 35 = .ok (.istore 4, 2) := by decide +kernel
theorem dX7_towards_37 : decode cX7_towards 37 = .ok (.aload_n 0, 1) := by decide +kernel
theorem dX7_towards_38 : decode cX7_towards 38 = .ok (.getfield 27, 3) := by decide +kernel
theorem dX7_towards_41 : decode cX7_towards 41 = .ok (.iconst 0, 1) := by decide +kernel
theorem dX7_towards_42 : decode cX7_towards 42 = .ok (.iload_n 2, 1) := by decide +kernel
theorem dX7_towards_43 : decode cX7_towards 43 = .ok (.iadd, 1) := by decide +kernel
theorem dX7_towards_44 : decode cX7_towards 44 = .ok (.iaload, 1) := by decide +kernel
theorem dX7_towards_45 : decode cX7_towards 45 = .ok (.bipush 6, 2) := by decide +kernel
theorem dX7_towards_47 : decode cX7_towards 47 = .ok (.irem, 1) := by decide +kernel
theorem dX7_towards_48 : decode cX7_towards 48 = .ok (.istore 5, 2) := by decide +kernel
theorem dX7_towards_50 : decode cX7_towards 50 = .ok (.aload_n 0, 1) := by decide +kernel
theorem dX7_towards_51 : decode cX7_towards 51 = .ok (.getfield 27, 3) := by decide +kernel
theorem dX7_towards_54 : decode cX7_towards 54 = .ok (.iconst 0, 1) := by decide +kernel
theorem dX7_towards_55 : decode cX7_towards 55 = .ok (.iload_n 2, 1) := by decide +kernel
theorem dX7_towards_56 : decode cX7_towards 56 = .ok (.iadd, 1) := by decide +kernel
theorem dX7_towards_57 : decode cX7_towards 57 = .ok (.iaload, 1) := by decide +kernel
theorem dX7_towards_58 : decode cX7_towards 58 = .ok (.bipush 6, 2) := by decide +kernel
theorem dX7_towards_60 : decode cX7_towards 60 = .ok (.idiv, 1) := by decide +kernel
theorem dX7_towards_61 : decode cX7_towards 61 = .ok (.istore 6, 2) := by decide +kernel
theorem dX7_towards_63 : decode cX7_towards 63 = .ok (.iload_n 3, 1) := by decide +kernel
theorem dX7_towards_64 : decode cX7_towards 64 = .ok (.iload 5, 2) := by decide +kernel
theorem dX7_towards_66 : decode cX7_towards 66 = .ok (.invokestatic 104, 3) := by decide +kernel
theorem dX7_towards_69 : decode cX7_towards 69 = .ok (.iload 4, 2) := by decide +kernel
theorem dX7_towards_71 : decode cX7_towards 71 = .ok (.iload 6, 2) := by decide +kernel
theorem dX7_towards_73 : decode cX7_towards 73 = .ok (.invokestatic 104, 3) := by decide +kernel
theorem dX7_towards_76 : decode cX7_towards 76 = .ok (.if_icmp .lt 7, 3) := by decide +kernel
