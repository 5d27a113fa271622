theorem dX0_rightOf_0 : decode cX0_rightOf 0 = .ok (.iload_n 0, 1) := by decide +kernel
theorem dX0_rightOf_1 : decode cX0_rightOf 1 = .ok (.iconst 1, 1) := by decide +kernel
theorem dX0_rightOf_2 : decode cX0_rightOf 2 = .ok (.iadd, 1) := by decide +kernel
theorem dX0_rightOf_3 : decode cX0_rightOf 3 = .ok (.iconst 4, 1) := by decide +kernel
theorem dX0_rightOf_4 : decode cX0_rightOf 4 = .ok (.irem, 1) := by decide +kernel
theorem dX0_rightOf_5 : decode cX0_rightOf 5 = .ok (.ireturn, 1) := by decide +kernel
theorem dX0_takes_0 : decode cX0_takes 0 = .ok (.iload_n 2, 1) := by decide +kernel
theorem dX0_takes_1 : decode cX0_takes 1 = .ok (.invokestatic 9, 3) := by decide +kernel
theorem dX0_takes_4 : decode cX0_takes 4 = .ok (.istore 6, 2) := by decide +kernel
theorem dX0_takes_6 : decode cX0_takes 6 = .ok (.iload_n 3, 1) := by decide +kernel
theorem dX0_takes_7 : decode cX0_takes 7 = .ok (.iconst 1, 1) := by decide +kernel
theorem dX0_takes_8 : decode cX0_takes 8 = .ok (.if_icmp .ne 8, 3) := by decide +kernel
theorem dX0_takes_11 : decode cX0_takes 11 = .ok (.iload 6, 2) := by decide +kernel
theorem dX0_takes_13 : decode cX0_takes 13 = .ok (.goto 4, 3) := by decide +kernel
theorem dX0_takes_16 : decode cX0_takes 16 = .ok (.iload_n 2, 1) := by decide +kernel
theorem dX0_takes_17 : decode cX0_takes 17 = .ok (.istore 7, 2) := by decide +kernel
theorem dX0_takes_19 : decode cX0_takes 19 = .ok (.iload 4, 2) := by decide +kernel
theorem dX0_takes_21 : decode cX0_takes 21 = .ok (.iconst (-1), 1) := by decide +kernel
theorem dX0_takes_22 : decode cX0_takes 22 = .ok (.if_icmp .ne 8, 3) := by decide +kernel
theorem dX0_takes_25 : decode cX0_takes 25 = .ok (.iload 7, 2) := by decide +kernel
theorem dX0_takes_27 : decode cX0_takes 27 = .ok (.goto 5, 3) := by decide +kernel
theorem dX0_takes_30 : decode cX0_takes 30 = .ok (.iload 4, 2) := by decide +kernel
theorem dX0_takes_32 : decode cX0_takes 32 = .ok (.istore 8, 2) := by decide +kernel
theorem dX0_takes_34 : decode cX0_takes 34 = .ok (.iload_n 3, 1) := by decide +kernel
theorem dX0_takes_35 : decode cX0_takes 35 = .ok (.iconst 2, 1) := by decide +kernel
theorem dX0_takes_36 : decode cX0_takes 36 = .ok (.if_icmp .ne 8, 3) := by decide +kernel
theorem dX0_takes_39 : decode cX0_takes 39 = .ok (.iload 6, 2) := by decide +kernel
theorem dX0_takes_41 : decode cX0_takes 41 = .ok (.goto 5, 3) := by decide +kernel
theorem dX0_takes_44 : decode cX0_takes 44 = .ok (.iload 7, 2) := by decide +kernel
theorem dX0_takes_46 : decode cX0_takes 46 = .ok (.istore 9, 2) := by decide +kernel
theorem dX0_takes_48 : decode cX0_takes 48 = .ok (.iload_n 0, 1) := by decide +kernel
theorem dX0_takes_49 : decode cX0_takes 49 = .ok (.tableswitch 73 0 4 #[35, 38, 41, 44, 58], 35) := by decide +kernel
theorem dX0_takes_84 : decode cX0_takes 84 = .ok (.iload 7, 2) := by decide +kernel
theorem dX0_takes_86 : decode cX0_takes 86 = .ok (.ireturn, 1) := by decide +kernel
theorem dX0_takes_87 : decode cX0_takes 87 = .ok (.iload 8, 2) := by decide +kernel
theorem dX0_takes_89 : decode cX0_takes 89 = .ok (.ireturn, 1) := by decide +kernel
theorem dX0_takes_90 : decode cX0_takes 90 = .ok (.iload 9, 2) := by decide +kernel
theorem dX0_takes_92 : decode cX0_takes 92 = .ok (.ireturn, 1) := by decide +kernel
theorem dX0_takes_93 : decode cX0_takes 93 = .ok (.iload 5, 2) := by decide +kernel
theorem dX0_takes_95 : decode cX0_takes 95 = .ok (.iconst (-1), 1) := by decide +kernel
theorem dX0_takes_96 : decode cX0_takes 96 = .ok (.if_icmp .ne 8, 3) := by decide +kernel
theorem dX0_takes_99 : decode cX0_takes 99 = .ok (.iload 8, 2) := by decide +kernel
theorem dX0_takes_101 : decode cX0_takes 101 = .ok (.goto 5, 3) := by decide +kernel
theorem dX0_takes_104 : decode cX0_takes 104 = .ok (.iload 5, 2) := by decide +kernel
theorem dX0_takes_106 : decode cX0_takes 106 = .ok (.ireturn, 1) := by decide +kernel
theorem dX0_takes_107 : decode cX0_takes 107 = .ok (.iload_n 1, 1) := by decide +kernel
theorem dX0_takes_108 : decode cX0_takes 108 = .ok (.iconst 2, 1) := by decide +kernel
theorem dX0_takes_109 : decode cX0_takes 109 = .ok (.irem, 1) := by decide +kernel
theorem dX0_takes_110 : decode cX0_takes 110 = .ok (.iconst 1, 1) := by decide +kernel
theorem dX0_takes_111 : decode cX0_takes 111 = .ok (.if_icmp .ne 8, 3) := by decide +kernel
theorem dX0_takes_114 : decode cX0_takes 114 = .ok (.iload 6, 2) := by decide +kernel
theorem dX0_takes_116 : decode cX0_takes 116 = .ok (.goto 5, 3) := by decide +kernel
theorem dX0_takes_119 : decode cX0_takes 119 = .ok (.iload 7, 2) := by decide +kernel
theorem dX0_takes_121 : decode cX0_takes 121 = .ok (.ireturn, 1) := by decide +kernel
theorem dX0_takes_122 : decode cX0_takes 122 = .ok (.iload_n 1, 1) := by decide +kernel
theorem dX0_takes_123 : decode cX0_takes 123 = .ok (.iconst 3, 1) := by decide +kernel
theorem dX0_takes_124 : decode cX0_takes 124 = .ok (.irem, 1) := by decide +kernel
theorem dX0_takes_125 : decode cX0_takes 125 = .ok (.ifCond .ne 7, 3) := by decide +kernel
theorem dX0_takes_128 : decode cX0_takes 128 = .ok (.iload_n 2, 1) := by decide +kernel
theorem dX0_takes_129 : decode cX0_takes 129 = .ok (.goto 5, 3) := by decide +kernel
theorem dX0_takes_132 : decode cX0_takes 132 = .ok (.iload 9, 2) := by decide +kernel
theorem dX0_takes_134 : decode cX0_takes 134 = .ok (.ireturn, 1) := by decide +kernel
theorem dX1_init_0 : decode cX1_init 0 = .ok (.aload_n 0, 1) := by decide +kernel
theorem dX1_init_1 : decode cX1_init 1 = .ok (.invokespecial 3, 3) := by decide +kernel
theorem dX1_init_4 : decode cX1_init 4 = .ok (.aload_n 0, 1) := by decide +kernel
theorem dX1_init_5 : decode cX1_init 5 = .ok (.iconst 5, 1) := by decide +kernel
theorem dX1_init_6 : decode cX1_init 6 = .ok (.newarray .int, 2) := by decide +kernel
theorem dX1_init_8 : decode cX1_init 8 = .ok (.putfield 9, 3) := by decide +kernel
theorem dX1_init_11 : decode cX1_init 11 = .ok (.aload_n 0, 1) := by decide +kernel
theorem dX1_init_12 : decode cX1_init 12 = .ok (.iconst 5, 1) := by decide +kernel
theorem dX1_init_13 : decode cX1_init 13 = .ok (.newarray .int, 2) := by decide +kernel
theorem dX1_init_15 : decode cX1_init 15 = .ok (.putfield 15, 3) := by decide +kernel
theorem dX1_init_18 : decode cX1_init 18 = .ok (.aload_n 0, 1) := by decide +kernel
theorem dX1_init_19 : decode cX1_init 19 = .ok (.iconst 5, 1) := by decide +kernel
theorem dX1_init_20 : decode cX1_init 20 = .ok (.newarray .int, 2) := by decide +kernel
theorem dX1_init_22 : decode cX1_init 22 = .ok (.putfield 18, 3) := by decide +kernel
theorem dX1_init_25 : decode cX1_init 25 = .ok (.aload_n 0, 1) := by decide +kernel
theorem dX1_init_26 : decode cX1_init 26 = .ok (.iconst 5, 1) := by decide +kernel
theorem dX1_init_27 : decode cX1_init 27 = .ok (.newarray .int, 2) := by decide +kernel
theorem dX1_init_29 : decode cX1_init 29 = .ok (.putfield 21, 3) := by decide +kernel
theorem dX1_init_32 : decode cX1_init 32 = .ok (.aload_n 0, 1) := by decide +kernel
theorem dX1_init_33 : decode cX1_init 33 = .ok (.iconst 5, 1) := by decide +kernel
theorem dX1_init_34 : decode cX1_init 34 = .ok (.newarray .int, 2) := by decide +kernel
theorem dX1_init_36 : decode cX1_init 36 = .ok (.putfield 24, 3) := by decide +kernel
theorem dX1_init_39 : decode cX1_init 39 = .ok (.aload_n 0, 1) := by decide +kernel
theorem dX1_init_40 : decode cX1_init 40 = .ok (.iconst 5, 1) := by decide +kernel
theorem dX1_init_41 : decode cX1_init 41 = .ok (.newarray .int, 2) := by decide +kernel
theorem dX1_init_43 : decode cX1_init 43 = .ok (.putfield 27, 3) := by decide +kernel
theorem dX1_init_46 : decode cX1_init 46 = .ok (.aload_n 0, 1) := by decide +kernel
theorem dX1_init_47 : decode cX1_init 47 = .ok (.iconst 0, 1) := by decide +kernel
theorem dX1_init_48 : decode cX1_init 48 = .ok (.putfield 30, 3) := by decide +kernel
theorem dX1_init_51 : decode cX1_init 51 = .ok (.aload_n 0, 1) := by decide +kernel
theorem dX1_init_52 : decode cX1_init 52 = .ok (.iconst (-1), 1) := by decide +kernel
theorem dX1_init_53 : decode cX1_init 53 = .ok (.putfield 34, 3) := by decide +kernel
theorem dX1_init_56 : decode cX1_init 56 = .ok (.aload_n 0, 1) := by decide +kernel
theorem dX1_init_57 : decode cX1_init 57 = .ok (.iconst 0, 1) := by decide +kernel
theorem dX1_init_58 : decode cX1_init 58 = .ok (.putfield 37, 3) := by decide +kernel
theorem dX1_init_61 : decode cX1_init 61 = .ok (.return_, 1) := by decide +kernel
theorem dX1_empty_0 : decode cX1_empty 0 = .ok (.aload_n 0, 1) := by decide +kernel
theorem dX1_empty_1 : decode cX1_empty 1 = .ok (.iconst 0, 1) := by decide +kernel
theorem dX1_empty_2 : decode cX1_empty 2 = .ok (.putfield 30, 3) := by decide +kernel
theorem dX1_empty_5 : decode cX1_empty 5 = .ok (.aload_n 0, 1) := by decide +kernel
theorem dX1_empty_6 : decode cX1_empty 6 = .ok (.iconst (-1), 1) := by decide +kernel
theorem dX1_empty_7 : decode cX1_empty 7 = .ok (.putfield 34, 3) := by decide +kernel
theorem dX1_empty_10 : decode cX1_empty 10 = .ok (.aload_n 0, 1) := by decide +kernel
theorem dX1_empty_11 : decode cX1_empty 11 = .ok (.iconst 0, 1) := by decide +kernel
theorem dX1_empty_12 : decode cX1_empty 12 = .ok (.putfield 37, 3) := by decide +kernel
theorem dX1_empty_15 : decode cX1_empty 15 = .ok (.return_, 1) := by decide +kernel
theorem dX1_copyOf_0 : decode cX1_copyOf 0 = .ok (.aload_n 1, 1) := by decide +kernel
theorem dX1_copyOf_1 : decode cX1_copyOf 1 = .ok (.getfield 9, 3) := by decide +kernel
theorem dX1_copyOf_4 : decode cX1_copyOf 4 = .ok (.iconst 0, 1) := by decide +kernel
theorem dX1_copyOf_5 : decode cX1_copyOf 5 = .ok (.aload_n 0, 1) := by decide +kernel
theorem dX1_copyOf_6 : decode cX1_copyOf 6 = .ok (.getfield 9, 3) := by decide +kernel
theorem dX1_copyOf_9 : decode cX1_copyOf 9 = .ok (.iconst 0, 1) := by decide +kernel
theorem dX1_copyOf_10 : decode cX1_copyOf 10 = .ok (.iconst 5, 1) := by decide +kernel
theorem dX1_copyOf_11 : decode cX1_copyOf 11 = .ok (.invokestatic 40, 3) := by decide +kernel
theorem dX1_copyOf_14 : decode cX1_copyOf 14 = .ok (.aload_n 1, 1) := by decide +kernel
theorem dX1_copyOf_15 : decode cX1_copyOf 15 = .ok (.getfield 15, 3) := by decide +kernel
theorem dX1_copyOf_18 : decode cX1_copyOf 18 = .ok (.iconst 0, 1) := by decide +kernel
theorem dX1_copyOf_19 : decode cX1_copyOf 19 = .ok (.aload_n 0, 1) := by decide +kernel
theorem dX1_copyOf_20 : decode cX1_copyOf 20 = .ok (.getfield 15, 3) := by decide +kernel
theorem dX1_copyOf_23 : decode cX1_copyOf 23 = .ok (.iconst 0, 1) := by decide +kernel
theorem dX1_copyOf_24 : decode cX1_copyOf 24 = .ok (.iconst 5, 1) := by decide +kernel
theorem dX1_copyOf_25 : decode cX1_copyOf 25 = .ok (.invokestatic 40, 3) := by decide +kernel
theorem dX1_copyOf_28 : decode cX1_copyOf 28 = .ok (.aload_n 1, 1) := by decide +kernel
theorem dX1_copyOf_29 : decode cX1_copyOf 29 = .ok (.getfield 18, 3) := by decide +kernel
theorem dX1_copyOf_32 : decode cX1_copyOf 32 = .ok (.iconst 0, 1) := by decide +kernel
theorem dX1_copyOf_33 : decode cX1_copyOf 33 = .ok (.aload_n 0, 1) := by decide +kernel
theorem dX1_copyOf_34 : decode cX1_copyOf 34 = .ok (.getfield 18, 3) := by decide +kernel
theorem dX1_copyOf_37 : decode cX1_copyOf 37 = .ok (.iconst 0, 1) := by decide +kernel
theorem dX1_copyOf_38 : decode cX1_copyOf 38 = .ok (.iconst 5, 1) := by decide +kernel
theorem dX1_copyOf_39 : decode cX1_copyOf 39 = .ok (.invokestatic 40, 3) := by decide +kernel
theorem dX1_copyOf_42 : decode cX1_copyOf 42 = .ok (.aload_n 1, 1) := by decide +kernel
theorem dX1_copyOf_43 : decode cX1_copyOf 43 = .ok (.getfield 21, 3) := by decide +kernel
theorem dX1_copyOf_46 : decode cX1_copyOf 46 = .ok (.iconst 0, 1) := by decide +kernel
theorem dX1_copyOf_47 : decode cX1_copyOf 47 = .ok (.aload_n 0, 1) := by decide +kernel
theorem dX1_copyOf_48 : decode cX1_copyOf 48 = .ok (.getfield 21, 3) := by decide +kernel
theorem dX1_copyOf_51 : decode cX1_copyOf 51 = .ok (.iconst 0, 1) := by decide +kernel
theorem dX1_copyOf_52 : decode cX1_copyOf 52 = .ok (.iconst 5, 1) := by decide +kernel
theorem dX1_copyOf_53 : decode cX1_copyOf 53 = .ok (.invokestatic 40, 3) := by decide +kernel
theorem dX1_copyOf_56 : decode cX1_copyOf 56 = .ok (.aload_n 1, 1) := by decide +kernel
theorem dX1_copyOf_57 : decode cX1_copyOf 57 = .ok (.getfield 24, 3) := by decide +kernel
theorem dX1_copyOf_60 : decode cX1_copyOf 60 = .ok (.iconst 0, 1) := by decide +kernel
theorem dX1_copyOf_61 : decode cX1_copyOf 61 = .ok (.aload_n 0, 1) := by decide +kernel
theorem dX1_copyOf_62 : decode cX1_copyOf 62 = .ok (.getfield 24, 3) := by decide +kernel
theorem dX1_copyOf_65 : decode cX1_copyOf 65 = .ok (.iconst 0, 1) := by decide +kernel
theorem dX1_copyOf_66 : decode cX1_copyOf 66 = .ok (.iconst 5, 1) := by decide +kernel
theorem dX1_copyOf_67 : decode cX1_copyOf 67 = .ok (.invokestatic 40, 3) := by decide +kernel
theorem dX1_copyOf_70 : decode cX1_copyOf 70 = .ok (.aload_n 1, 1) := by decide +kernel
theorem dX1_copyOf_71 : decode cX1_copyOf 71 = .ok (.getfield 27, 3) := by decide +kernel
theorem dX1_copyOf_74 : decode cX1_copyOf 74 = .ok (.iconst 0, 1) := by decide +kernel
theorem dX1_copyOf_75 : decode cX1_copyOf 75 = .ok (.aload_n 0, 1) := by decide +kernel
theorem dX1_copyOf_76 : decode cX1_copyOf 76 = .ok (.getfield 27, 3) := by decide +kernel
theorem dX1_copyOf_79 : decode cX1_copyOf 79 = .ok (.iconst 0, 1) := by decide +kernel
theorem dX1_copyOf_80 : decode cX1_copyOf 80 = .ok (.iconst 5, 1) := by decide +kernel
theorem dX1_copyOf_81 : decode cX1_copyOf 81 = .ok (.invokestatic 40, 3) := by decide +kernel
theorem dX1_copyOf_84 : decode cX1_copyOf 84 = .ok (.aload_n 0, 1) := by decide +kernel
theorem dX1_copyOf_85 : decode cX1_copyOf 85 = .ok (.aload_n 1, 1) := by decide +kernel
theorem dX1_copyOf_86 : decode cX1_copyOf 86 = .ok (.getfield 30, 3) := by decide +kernel
theorem dX1_copyOf_89 : decode cX1_copyOf 89 = .ok (.putfield 30, 3) := by decide +kernel
theorem dX1_copyOf_92 : decode cX1_copyOf 92 = .ok (.aload_n 0, 1) := by decide +kernel
theorem dX1_copyOf_93 : decode cX1_copyOf 93 = .ok (.aload_n 1, 1) := by decide +kernel
theorem dX1_copyOf_94 : decode cX1_copyOf 94 = .ok (.getfield 34, 3) := by decide +kernel
theorem dX1_copyOf_97 : decode cX1_copyOf 97 = .ok (.putfield 34, 3) := by decide +kernel
theorem dX1_copyOf_100 : decode cX1_copyOf 100 = .ok (.aload_n 0, 1) := by decide +kernel
theorem dX1_copyOf_101 : decode cX1_copyOf 101 = .ok (.aload_n 1, 1) := by decide +kernel
theorem dX1_copyOf_102 : decode cX1_copyOf 102 = .ok (.getfield 37, 3) := by decide +kernel
theorem dX1_copyOf_105 : decode cX1_copyOf 105 = .ok (.putfield 37, 3) := by decide +kernel
theorem dX1_copyOf_108 : decode cX1_copyOf 108 = .ok (.return_, 1) := by decide +kernel
theorem dX1_has_0 : decode cX1_has 0 = .ok (.iload_n 1, 1) := by decide +kernel
theorem dX1_has_1 : decode cX1_has 1 = .ok (.ifCond .lt 15, 3) := by decide +kernel
theorem dX1_has_4 : decode cX1_has 4 = .ok (.iload_n 1, 1) := by decide +kernel
theorem dX1_has_5 : decode cX1_has 5 = .ok (.aload_n 0, 1) := by decide +kernel
theorem dX1_has_6 : decode cX1_has 6 = .ok (.getfield 30, 3) := by decide +kernel
theorem dX1_has_9 : decode cX1_has 9 = .ok (.if_icmp .ge 7, 3) := by decide +kernel
theorem dX1_has_12 : decode cX1_has 12 = .ok (.iconst 1, 1) := by decide +kernel
theorem dX1_has_13 : decode cX1_has 13 = .ok (.goto 4, 3) := by decide +kernel
theorem dX1_has_16 : decode cX1_has 16 = .ok (.iconst 0, 1) := by decide +kernel
theorem dX1_has_17 : decode cX1_has 17 = .ok (.ireturn, 1) := by decide +kernel
theorem dX1_put_0 : decode cX1_put 0 = .ok (.aload_n 0, 1) := by decide +kernel
theorem dX1_put_1 : decode cX1_put 1 = .ok (.getfield 30, 3) := by decide +kernel
theorem dX1_put_4 : decode cX1_put 4 = .ok (.istore 4, 2) := by decide +kernel
theorem dX1_put_6 : decode cX1_put 6 = .ok (.iload 4, 2) := by decide +kernel
theorem dX1_put_8 : decode cX1_put 8 = .ok (.iconst 5, 1) := by decide +kernel
theorem dX1_put_9 : decode cX1_put 9 = .ok (.if_icmp .lt 6, 3) := by decide +kernel
theorem dX1_put_12 : decode cX1_put 12 = .ok (.bipush (-4), 2) := by decide +kernel
theorem dX1_put_14 : decode cX1_put 14 = .ok (.ireturn, 1) := by decide +kernel
theorem dX1_put_15 : decode cX1_put 15 = .ok (.aload_n 0, 1) := by decide +kernel
theorem dX1_put_16 : decode cX1_put 16 = .ok (.getfield 9, 3) := by decide +kernel
theorem dX1_put_19 : decode cX1_put 19 = .ok (.iload 4, 2) := by decide +kernel
theorem dX1_put_21 : decode cX1_put 21 = .ok (.iload_n 1, 1) := by decide +kernel
theorem dX1_put_22 : decode cX1_put 22 = .ok (.iastore, 1) := by decide +kernel
theorem dX1_put_23 : decode cX1_put 23 = .ok (.aload_n 0, 1) := by decide +kernel
theorem dX1_put_24 : decode cX1_put 24 = .ok (.getfield 15, 3) := by decide +kernel
theorem dX1_put_27 : decode cX1_put 27 = .ok (.iload 4, 2) := by decide +kernel
theorem dX1_put_29 : decode cX1_put 29 = .ok (.iload_n 2, 1) := by decide +kernel
theorem dX1_put_30 : decode cX1_put 30 = .ok (.iastore, 1) := by decide +kernel
theorem dX1_put_31 : decode cX1_put 31 = .ok (.aload_n 0, 1) := by decide +kernel
theorem dX1_put_32 : decode cX1_put 32 = .ok (.getfield 18, 3) := by decide +kernel
theorem dX1_put_35 : decode cX1_put 35 = .ok (.iload 4, 2) := by decide +kernel
theorem dX1_put_37 : decode cX1_put 37 = .ok (.iload_n 3, 1) := by decide +kernel
theorem dX1_put_38 : decode cX1_put 38 = .ok (.iastore, 1) := by decide +kernel
theorem dX1_put_39 : decode cX1_put 39 = .ok (.aload_n 0, 1) := by decide +kernel
theorem dX1_put_40 : decode cX1_put 40 = .ok (.getfield 21, 3) := by decide +kernel
theorem dX1_put_43 : decode cX1_put 43 = .ok (.iload 4, 2) := by decide +kernel
theorem dX1_put_45 : decode cX1_put 45 = .ok (.iconst 0, 1) := by decide +kernel
theorem dX1_put_46 : decode cX1_put 46 = .ok (.iastore, 1) := by decide +kernel
theorem dX1_put_47 : decode cX1_put 47 = .ok (.aload_n 0, 1) := by decide +kernel
theorem dX1_put_48 : decode cX1_put 48 = .ok (.getfield 24, 3) := by decide +kernel
theorem dX1_put_51 : decode cX1_put 51 = .ok (.iload 4, 2) := by decide +kernel
theorem dX1_put_53 : decode cX1_put 53 = .ok (.iconst 0, 1) := by decide +kernel
theorem dX1_put_54 : decode cX1_put 54 = .ok (.iastore, 1) := by decide +kernel
theorem dX1_put_55 : decode cX1_put 55 = .ok (.aload_n 0, 1) := by decide +kernel
theorem dX1_put_56 : decode cX1_put 56 = .ok (.getfield 27, 3) := by decide +kernel
theorem dX1_put_59 : decode cX1_put 59 = .ok (.iload 4, 2) := by decide +kernel
theorem dX1_put_61 : decode cX1_put 61 = .ok (.iconst (-1), 1) := by decide +kernel
theorem dX1_put_62 : decode cX1_put 62 = .ok (.iastore, 1) := by decide +kernel
theorem dX1_put_63 : decode cX1_put 63 = .ok (.aload_n 0, 1) := by decide +kernel
theorem dX1_put_64 : decode cX1_put 64 = .ok (.iload 4, 2) := by decide +kernel
theorem dX1_put_66 : decode cX1_put 66 = .ok (.iconst 1, 1) := by decide +kernel
theorem dX1_put_67 : decode cX1_put 67 = .ok (.iadd, 1) := by decide +kernel
theorem dX1_put_68 : decode cX1_put 68 = .ok (.putfield 30, 3) := by decide +kernel
theorem dX1_put_71 : decode cX1_put 71 = .ok (.iload 4, 2) := by decide +kernel
theorem dX1_put_73 : decode cX1_put 73 = .ok (.ireturn, 1) := by decide +kernel
theorem dX1_carIn_0 : decode cX1_carIn 0 = .ok (.iconst 0, 1) := by decide +kernel
theorem dX1_carIn_1 : decode cX1_carIn 1 = .ok (.istore_n 2, 1) := by decide +kernel
theorem dX1_carIn_2 : decode cX1_carIn 2 = .ok (.iload_n 2, 1) := by decide +kernel
theorem dX1_carIn_3 : decode cX1_carIn 3 = .ok (.aload_n 0, 1) := by decide +kernel
theorem dX1_carIn_4 : decode cX1_carIn 4 = .ok (.getfield 30, 3) := by decide +kernel
theorem dX1_carIn_7 : decode cX1_carIn 7 = .ok (.if_icmp .ge 21, 3) := by decide +kernel
theorem dX1_carIn_10 : decode cX1_carIn 10 = .ok (.aload_n 0, 1) := by decide +kernel
theorem dX1_carIn_11 : decode cX1_carIn 11 = .ok (.getfield 15, 3) := by decide +kernel
theorem dX1_carIn_14 : decode cX1_carIn 14 = .ok (.iload_n 2, 1) := by decide +kernel
theorem dX1_carIn_15 : decode cX1_carIn 15 = .ok (.iaload, 1) := by decide +kernel
theorem dX1_carIn_16 : decode cX1_carIn 16 = .ok (.iload_n 1, 1) := by decide +kernel
theorem dX1_carIn_17 : decode cX1_carIn 17 = .ok (.if_icmp .ne 5, 3) := by decide +kernel
theorem dX1_carIn_20 : decode cX1_carIn 20 = .ok (.iload_n 2, 1) := by decide +kernel
theorem dX1_carIn_21 : decode cX1_carIn 21 = .ok (.ireturn, 1) := by decide +kernel
theorem dX1_carIn_22 : decode cX1_carIn 22 = .ok (.iinc 2 1, 3) := by decide +kernel
theorem dX1_carIn_25 : decode cX1_carIn 25 = .ok (.goto (-23), 3) := by decide +kernel
theorem dX1_carIn_28 : decode cX1_carIn 28 = .ok (.iconst (-1), 1) := by decide +kernel
theorem dX1_carIn_29 : decode cX1_carIn 29 = .ok (.ireturn, 1) := by decide +kernel
theorem dX1_nextCell_0 : decode cX1_nextCell 0 = .ok (.iload_n 0, 1) := by decide +kernel
theorem dX1_nextCell_1 : decode cX1_nextCell 1 = .ok (.bipush 6, 2) := by decide +kernel
theorem dX1_nextCell_3 : decode cX1_nextCell 3 = .ok (.idiv, 1) := by decide +kernel
theorem dX1_nextCell_4 : decode cX1_nextCell 4 = .ok (.istore_n 2, 1) := by decide +kernel
theorem dX1_nextCell_5 : decode cX1_nextCell 5 = .ok (.iload_n 0, 1) := by decide +kernel
theorem dX1_nextCell_6 : decode cX1_nextCell 6 = .ok (.bipush 6, 2) := by decide +kernel
theorem dX1_nextCell_8 : decode cX1_nextCell 8 = .ok (.irem, 1) := by decide +kernel
theorem dX1_nextCell_9 : decode cX1_nextCell 9 = .ok (.istore_n 3, 1) := by decide +kernel
theorem dX1_nextCell_10 : decode cX1_nextCell 10 = .ok (.iload_n 1, 1) := by decide +kernel
theorem dX1_nextCell_11 : decode cX1_nextCell 11 = .ok (.tableswitch 69 0 2 #[25, 41, 57], 25) := by decide +kernel
theorem dX1_nextCell_36 : decode cX1_nextCell 36 = .ok (.iload_n 3, 1) := by decide +kernel
theorem dX1_nextCell_37 : decode cX1_nextCell 37 = .ok (.iconst 1, 1) := by decide +kernel
theorem dX1_nextCell_38 : decode cX1_nextCell 38 = .ok (.iadd, 1) := by decide +kernel
theorem dX1_nextCell_39 : decode cX1_nextCell 39 = .ok (.bipush 6, 2) := by decide +kernel
theorem dX1_nextCell_41 : decode cX1_nextCell 41 = .ok (.if_icmp .ge 9, 3) := by decide +kernel
theorem dX1_nextCell_44 : decode cX1_nextCell 44 = .ok (.iload_n 0, 1) := by decide +kernel
theorem dX1_nextCell_45 : decode cX1_nextCell 45 = .ok (.iconst 1, 1) := by decide +kernel
theorem dX1_nextCell_46 : decode cX1_nextCell 46 = .ok (.iadd, 1) := by decide +kernel
theorem dX1_nextCell_47 : decode cX1_nextCell 47 = .ok (.goto 4, 3) := by decide +kernel
theorem dX1_nextCell_50 : decode cX1_nextCell 50 = .ok (.iconst (-1), 1) := by decide +kernel
theorem dX1_nextCell_51 : decode cX1_nextCell 51 = .ok (.ireturn, 1) := by decide +kernel
theorem dX1_nextCell_52 : decode cX1_nextCell 52 = .ok (.iload_n 2, 1) := by decide +kernel
theorem dX1_nextCell_53 : decode cX1_nextCell 53 = .ok (.iconst 1, 1) := by decide +kernel
theorem dX1_nextCell_54 : decode cX1_nextCell 54 = .ok (.iadd, 1) := by decide +kernel
theorem dX1_nextCell_55 : decode cX1_nextCell 55 = .ok (.iconst 4, 1) := by decide +kernel
theorem dX1_nextCell_56 : decode cX1_nextCell 56 = .ok (.if_icmp .ge 10, 3) := by decide +kernel
theorem dX1_nextCell_59 : decode cX1_nextCell 59 = .ok (.iload_n 0, 1) := by decide +kernel
theorem dX1_nextCell_60 : decode cX1_nextCell 60 = .ok (.bipush 6, 2) := by decide +kernel
theorem dX1_nextCell_62 : decode cX1_nextCell 62 = .ok (.iadd, 1) := by decide +kernel
theorem dX1_nextCell_63 : decode cX1_nextCell 63 = .ok (.goto 4, 3) := by decide +kernel
theorem dX1_nextCell_66 : decode cX1_nextCell 66 = .ok (.iconst (-1), 1) := by decide +kernel
theorem dX1_nextCell_67 : decode cX1_nextCell 67 = .ok (.ireturn, 1) := by decide +kernel
theorem dX1_nextCell_68 : decode cX1_nextCell 68 = .ok (.iload_n 3, 1) := by decide +kernel
theorem dX1_nextCell_69 : decode cX1_nextCell 69 = .ok (.ifCond .le 9, 3) := by decide +kernel
theorem dX1_nextCell_72 : decode cX1_nextCell 72 = .ok (.iload_n 0, 1) := by decide +kernel
theorem dX1_nextCell_73 : decode cX1_nextCell 73 = .ok (.iconst 1, 1) := by decide +kernel
theorem dX1_nextCell_74 : decode cX1_nextCell 74 = .ok (.isub, 1) := by decide +kernel
theorem dX1_nextCell_75 : decode cX1_nextCell 75 = .ok (.goto 4, 3) := by decide +kernel
theorem dX1_nextCell_78 : decode cX1_nextCell 78 = .ok (.iconst (-1), 1) := by decide +kernel
theorem dX1_nextCell_79 : decode cX1_nextCell 79 = .ok (.ireturn, 1) := by decide +kernel
theorem dX1_nextCell_80 : decode cX1_nextCell 80 = .ok (.iload_n 2, 1) := by decide +kernel
theorem dX1_nextCell_81 : decode cX1_nextCell 81 = .ok (.ifCond .le 10, 3) := by decide +kernel
theorem dX1_nextCell_84 : decode cX1_nextCell 84 = .ok (.iload_n 0, 1) := by decide +kernel
theorem dX1_nextCell_85 : decode cX1_nextCell 85 = .ok (.bipush 6, 2) := by decide +kernel
theorem dX1_nextCell_87 : decode cX1_nextCell 87 = .ok (.isub, 1) := by decide +kernel
theorem dX1_nextCell_88 : decode cX1_nextCell 88 = .ok (.goto 4, 3) := by decide +kernel
theorem dX1_nextCell_91 : decode cX1_nextCell 91 = .ok (.iconst (-1), 1) := by decide +kernel
theorem dX1_nextCell_92 : decode cX1_nextCell 92 = .ok (.ireturn, 1) := by decide +kernel
theorem dX1_ahead_0 : decode cX1_ahead 0 = .ok (.aload_n 0, 1) := by decide +kernel
theorem dX1_ahead_1 : decode cX1_ahead 1 = .ok (.getfield 15, 3) := by decide +kernel
theorem dX1_ahead_4 : decode cX1_ahead 4 = .ok (.iload_n 1, 1) := by decide +kernel
theorem dX1_ahead_5 : decode cX1_ahead 5 = .ok (.iaload, 1) := by decide +kernel
theorem dX1_ahead_6 : decode cX1_ahead 6 = .ok (.aload_n 0, 1) := by decide +kernel
theorem dX1_ahead_7 : decode cX1_ahead 7 = .ok (.getfield 18, 3) := by decide +kernel
theorem dX1_ahead_10 : decode cX1_ahead 10 = .ok (.iload_n 1, 1) := by decide +kernel
theorem dX1_ahead_11 : decode cX1_ahead 11 = .ok (.iaload, 1) := by decide +kernel
theorem dX1_ahead_12 : decode cX1_ahead 12 = .ok (.invokestatic 46, 3) := by decide +kernel
theorem dX1_ahead_15 : decode cX1_ahead 15 = .ok (.istore_n 2, 1) := by decide +kernel
theorem dX1_ahead_16 : decode cX1_ahead 16 = .ok (.iload_n 2, 1) := by decide +kernel
theorem dX1_ahead_17 : decode cX1_ahead 17 = .ok (.iconst (-1), 1) := by decide +kernel
theorem dX1_ahead_18 : decode cX1_ahead 18 = .ok (.if_icmp .ne 5, 3) := by decide +kernel
theorem dX1_ahead_21 : decode cX1_ahead 21 = .ok (.iconst 1, 1) := by decide +kernel
theorem dX1_ahead_22 : decode cX1_ahead 22 = .ok (.ireturn, 1) := by decide +kernel
theorem dX1_ahead_23 : decode cX1_ahead 23 = .ok (.aload_n 0, 1) := by decide +kernel
theorem dX1_ahead_24 : decode cX1_ahead 24 = .ok (.iload_n 2, 1) := by decide +kernel
theorem dX1_ahead_25 : decode cX1_ahead 25 = .ok (.invokevirtual 50, 3) := by decide +kernel
theorem dX1_ahead_28 : decode cX1_ahead 28 = .ok (.iconst (-1), 1) := by decide +kernel
theorem dX1_ahead_29 : decode cX1_ahead 29 = .ok (.if_icmp .ne 7, 3) := by decide +kernel
theorem dX1_ahead_32 : decode cX1_ahead 32 = .ok (.iconst 0, 1) := by decide +kernel
theorem dX1_ahead_33 : decode cX1_ahead 33 = .ok (.goto 4, 3) := by decide +kernel
theorem dX1_ahead_36 : decode cX1_ahead 36 = .ok (.iconst 2, 1) := by decide +kernel
theorem dX1_ahead_37 : decode cX1_ahead 37 = .ok (.ireturn, 1) := by decide +kernel
theorem dX1_towards_0 : decode cX1_towards 0 = .ok (.aload_n 0, 1) := by decide +kernel
theorem dX1_towards_1 : decode cX1_towards 1 = .ok (.iload_n 2, 1) := by decide +kernel
theorem dX1_towards_2 : decode cX1_towards 2 = .ok (.invokevirtual 54, 3) := by decide +kernel
theorem dX1_towards_5 : decode cX1_towards 5 = .ok (.ifCond .eq 8, 3) := by decide +kernel
theorem dX1_towards_8 : decode cX1_towards 8 = .ok (.iload_n 2, 1) := by decide +kernel
theorem dX1_towards_9 : decode cX1_towards 9 = .ok (.iload_n 1, 1) := by decide +kernel
theorem dX1_towards_10 : decode cX1_towards 10 = .ok (.if_icmp .ne 5, 3) := by decide +kernel
theorem dX1_towards_13 : decode cX1_towards 13 = .ok (.iconst (-1), 1) := by decide +kernel
theorem dX1_towards_14 : decode cX1_towards 14 = .ok (.ireturn, 1) := by decide +kernel
theorem dX1_towards_15 : decode cX1_towards 15 = .ok (.aload_n 0, 1) := by decide +kernel
theorem dX1_towards_16 : decode cX1_towards 16 = .ok (.getfield 15, 3) := by decide +kernel
theorem dX1_towards_19 : decode cX1_towards 19 = .ok (.iload_n 2, 1) := by decide +kernel
theorem dX1_towards_20 : decode cX1_towards 20 = .ok (.iaload, 1) := by decide +kernel
theorem dX1_towards_21 : decode cX1_towards 21 = .ok (.bipush 6, 2) := by decide +kernel
theorem dX1_towards_23 : decode cX1_towards 23 = .ok (.irem, 1) := by decide +kernel
theorem dX1_towards_24 : decode cX1_towards 24 = .ok (.aload_n 0, 1) := by decide +kernel
theorem dX1_towards_25 : decode cX1_towards 25 = .ok (.getfield 15, 3) := by decide +kernel
theorem dX1_towards_28 : decode cX1_towards 28 = .ok (.iload_n 1, 1) := by decide +kernel
theorem dX1_towards_29 : decode cX1_towards 29 = .ok (.iaload, 1) := by decide +kernel
theorem dX1_towards_30 : decode cX1_towards 30 = .ok (.bipush 6, 2) := by decide +kernel
theorem dX1_towards_32 : decode cX1_towards 32 = .ok (.irem, 1) := by decide +kernel
theorem dX1_towards_33 : decode cX1_towards 33 = .ok (.isub, 1) := by decide +kernel
theorem dX1_towards_34 : decode cX1_towards 34 = .ok (.istore_n 3, 1) := by decide +kernel
theorem dX1_towards_35 : decode cX1_towards 35 = .ok (.aload_n 0, 1) := by decide +kernel
theorem dX1_towards_36 : decode cX1_towards 36 = .ok (.getfield 15, 3) := by decide +kernel
theorem dX1_towards_39 : decode cX1_towards 39 = .ok (.iload_n 2, 1) := by decide +kernel
theorem dX1_towards_40 : decode cX1_towards 40 = .ok (.iaload, 1) := by decide +kernel
theorem dX1_towards_41 : decode cX1_towards 41 = .ok (.bipush 6, 2) := by decide +kernel
theorem dX1_towards_43 : decode cX1_towards 43 = .ok (.idiv, 1) := by decide +kernel
theorem dX1_towards_44 : decode cX1_towards 44 = .ok (.aload_n 0, 1) := by decide +kernel
theorem dX1_towards_45 : decode cX1_towards 45 = .ok (.getfield 15, 3) := by decide +kernel
theorem dX1_towards_48 : decode cX1_towards 48 = .ok (.iload_n 1, 1) := by decide +kernel
theorem dX1_towards_49 : decode cX1_towards 49 = .ok (.iaload, 1) := by decide +kernel
theorem dX1_towards_50 : decode cX1_towards 50 = .ok (.bipush 6, 2) := by decide +kernel
theorem dX1_towards_52 : decode cX1_towards 52 = .ok (.idiv, 1) := by decide +kernel
theorem dX1_towards_53 : decode cX1_towards 53 = .ok (.isub, 1) := by decide +kernel
theorem dX1_towards_54 : decode cX1_towards 54 = .ok (.istore 4, 2) := by decide +kernel
theorem dX1_towards_56 : decode cX1_towards 56 = .ok (.iload_n 3, 1) := by decide +kernel
theorem dX1_towards_57 : decode cX1_towards 57 = .ok (.invokestatic 58, 3) := by decide +kernel
theorem dX1_towards_60 : decode cX1_towards 60 = .ok (.iload 4, 2) := by decide +kernel
theorem dX1_towards_62 : decode cX1_towards 62 = .ok (.invokestatic 58, 3) := by decide +kernel
theorem dX1_towards_65 : decode cX1_towards 65 = .ok (.if_icmp .lt 13, 3) := by decide +kernel
theorem dX1_towards_68 : decode cX1_towards 68 = .ok (.iload_n 3, 1) := by decide +kernel
theorem dX1_towards_69 : decode cX1_towards 69 = .ok (.ifCond .le 7, 3) := by decide +kernel
theorem dX1_towards_72 : decode cX1_towards 72 = .ok (.iconst 0, 1) := by decide +kernel
theorem dX1_towards_73 : decode cX1_towards 73 = .ok (.goto 4, 3) := by decide +kernel
theorem dX1_towards_76 : decode cX1_towards 76 = .ok (.iconst 2, 1) := by decide +kernel
theorem dX1_towards_77 : decode cX1_towards 77 = .ok (.ireturn, 1) := by decide +kernel
theorem dX1_towards_78 : decode cX1_towards 78 = .ok (.iload 4, 2) := by decide +kernel
theorem dX1_towards_80 : decode cX1_towards 80 = .ok (.ifCond .le 7, 3) := by decide +kernel
theorem dX1_towards_83 : decode cX1_towards 83 = .ok (.iconst 1, 1) := by decide +kernel
theorem dX1_towards_84 : decode cX1_towards 84 = .ok (.goto 4, 3) := by decide +kernel
theorem dX1_towards_87 : decode cX1_towards 87 = .ok (.iconst 3, 1) := by decide +kernel
theorem dX1_towards_88 : decode cX1_towards 88 = .ok (.ireturn, 1) := by decide +kernel
theorem dX1_choice_0 : decode cX1_choice 0 = .ok (.aload_n 0, 1) := by decide +kernel
theorem dX1_choice_1 : decode cX1_choice 1 = .ok (.getfield 9, 3) := by decide +kernel
theorem dX1_choice_4 : decode cX1_choice 4 = .ok (.iload_n 1, 1) := by decide +kernel
theorem dX1_choice_5 : decode cX1_choice 5 = .ok (.iaload, 1) := by decide +kernel
theorem dX1_choice_6 : decode cX1_choice 6 = .ok (.aload_n 0, 1) := by decide +kernel
theorem dX1_choice_7 : decode cX1_choice 7 = .ok (.getfield 37, 3) := by decide +kernel
theorem dX1_choice_10 : decode cX1_choice 10 = .ok (.aload_n 0, 1) := by decide +kernel
theorem dX1_choice_11 : decode cX1_choice 11 = .ok (.getfield 18, 3) := by decide +kernel
theorem dX1_choice_14 : decode cX1_choice 14 = .ok (.iload_n 1, 1) := by decide +kernel
theorem dX1_choice_15 : decode cX1_choice 15 = .ok (.iaload, 1) := by decide +kernel
theorem dX1_choice_16 : decode cX1_choice 16 = .ok (.aload_n 0, 1) := by decide +kernel
theorem dX1_choice_17 : decode cX1_choice 17 = .ok (.iload_n 1, 1) := by decide +kernel
theorem dX1_choice_18 : decode cX1_choice 18 = .ok (.invokevirtual 63, 3) := by decide +kernel
theorem dX1_choice_21 : decode cX1_choice 21 = .ok (.aload_n 0, 1) := by decide +kernel
theorem dX1_choice_22 : decode cX1_choice 22 = .ok (.iload_n 1, 1) := by decide +kernel
theorem dX1_choice_23 : decode cX1_choice 23 = .ok (.aload_n 0, 1) := by decide +kernel
theorem dX1_choice_24 : decode cX1_choice 24 = .ok (.getfield 34, 3) := by decide +kernel
theorem dX1_choice_27 : decode cX1_choice 27 = .ok (.invokevirtual 66, 3) := by decide +kernel
theorem dX1_choice_30 : decode cX1_choice 30 = .ok (.aload_n 0, 1) := by decide +kernel
theorem dX1_choice_31 : decode cX1_choice 31 = .ok (.iload_n 1, 1) := by decide +kernel
theorem dX1_choice_32 : decode cX1_choice 32 = .ok (.aload_n 0, 1) := by decide +kernel
theorem dX1_choice_33 : decode cX1_choice 33 = .ok (.getfield 27, 3) := by decide +kernel
theorem dX1_choice_36 : decode cX1_choice 36 = .ok (.iload_n 1, 1) := by decide +kernel
theorem dX1_choice_37 : decode cX1_choice 37 = .ok (.iaload, 1) := by decide +kernel
theorem dX1_choice_38 : decode cX1_choice 38 = .ok (.invokevirtual 66, 3) := by decide +kernel
theorem dX1_choice_41 : decode cX1_choice 41 = .ok (.invokestatic 69, 3) := by decide +kernel
theorem dX1_choice_44 : decode cX1_choice 44 = .ok (.ireturn, 1) := by decide +kernel
theorem dX1_fact_0 : decode cX1_fact 0 = .ok (.iload_n 2, 1) := by decide +kernel
theorem dX1_fact_1 : decode cX1_fact 1 = .ok (.tableswitch 81 0 5 #[39, 46, 53, 60, 67, 74], 39) := by decide +kernel
theorem dX1_fact_40 : decode cX1_fact 40 = .ok (.aload_n 0, 1) := by decide +kernel
theorem dX1_fact_41 : decode cX1_fact 41 = .ok (.getfield 9, 3) := by decide +kernel
theorem dX1_fact_44 : decode cX1_fact 44 = .ok (.iload_n 1, 1) := by decide +kernel
theorem dX1_fact_45 : decode cX1_fact 45 = .ok (.iaload, 1) := by decide +kernel
theorem dX1_fact_46 : decode cX1_fact 46 = .ok (.ireturn, 1) := by decide +kernel
theorem dX1_fact_47 : decode cX1_fact 47 = .ok (.aload_n 0, 1) := by decide +kernel
theorem dX1_fact_48 : decode cX1_fact 48 = .ok (.getfield 15, 3) := by decide +kernel
theorem dX1_fact_51 : decode cX1_fact 51 = .ok (.iload_n 1, 1) := by decide +kernel
theorem dX1_fact_52 : decode cX1_fact 52 = .ok (.iaload, 1) := by decide +kernel
theorem dX1_fact_53 : decode cX1_fact 53 = .ok (.ireturn, 1) := by decide +kernel
theorem dX1_fact_54 : decode cX1_fact 54 = .ok (.aload_n 0, 1) := by decide +kernel
theorem dX1_fact_55 : decode cX1_fact 55 = .ok (.getfield 18, 3) := by decide +kernel
theorem dX1_fact_58 : decode cX1_fact 58 = .ok (.iload_n 1, 1) := by decide +kernel
theorem dX1_fact_59 : decode cX1_fact 59 = .ok (.iaload, 1) := by decide +kernel
theorem dX1_fact_60 : decode cX1_fact 60 = .ok (.ireturn, 1) := by decide +kernel
theorem dX1_fact_61 : decode cX1_fact 61 = .ok (.aload_n 0, 1) := by decide +kernel
theorem dX1_fact_62 : decode cX1_fact 62 = .ok (.getfield 21, 3) := by decide +kernel
theorem dX1_fact_65 : decode cX1_fact 65 = .ok (.iload_n 1, 1) := by decide +kernel
theorem dX1_fact_66 : decode cX1_fact 66 = .ok (.iaload, 1) := by decide +kernel
theorem dX1_fact_67 : decode cX1_fact 67 = .ok (.ireturn, 1) := by decide +kernel
theorem dX1_fact_68 : decode cX1_fact 68 = .ok (.aload_n 0, 1) := by decide +kernel
theorem dX1_fact_69 : decode cX1_fact 69 = .ok (.getfield 24, 3) := by decide +kernel
theorem dX1_fact_72 : decode cX1_fact 72 = .ok (.iload_n 1, 1) := by decide +kernel
theorem dX1_fact_73 : decode cX1_fact 73 = .ok (.iaload, 1) := by decide +kernel
theorem dX1_fact_74 : decode cX1_fact 74 = .ok (.ireturn, 1) := by decide +kernel
theorem dX1_fact_75 : decode cX1_fact 75 = .ok (.aload_n 0, 1) := by decide +kernel
theorem dX1_fact_76 : decode cX1_fact 76 = .ok (.getfield 27, 3) := by decide +kernel
theorem dX1_fact_79 : decode cX1_fact 79 = .ok (.iload_n 1, 1) := by decide +kernel
theorem dX1_fact_80 : decode cX1_fact 80 = .ok (.iaload, 1) := by decide +kernel
theorem dX1_fact_81 : decode cX1_fact 81 = .ok (.ireturn, 1) := by decide +kernel
theorem dX1_fact_82 : decode cX1_fact 82 = .ok (.aload_n 0, 1) := by decide +kernel
theorem dX1_fact_83 : decode cX1_fact 83 = .ok (.iload_n 1, 1) := by decide +kernel
theorem dX1_fact_84 : decode cX1_fact 84 = .ok (.invokevirtual 63, 3) := by decide +kernel
theorem dX1_fact_87 : decode cX1_fact 87 = .ok (.ireturn, 1) := by decide +kernel
theorem dX1_step_0 : decode cX1_step 0 = .ok (.iconst 0, 1) := by decide +kernel
theorem dX1_step_1 : decode cX1_step 1 = .ok (.istore 5, 2) := by decide +kernel
theorem dX1_step_3 : decode cX1_step 3 = .ok (.iconst 0, 1) := by decide +kernel
theorem dX1_step_4 : decode cX1_step 4 = .ok (.istore 6, 2) := by decide +kernel
theorem dX1_step_6 : decode cX1_step 6 = .ok (.iload 6, 2) := by decide +kernel
theorem dX1_step_8 : decode cX1_step 8 = .ok (.aload_n 0, 1) := by decide +kernel
theorem dX1_step_9 : decode cX1_step 9 = .ok (.getfield 30, 3) := by decide +kernel
theorem dX1_step_12 : decode cX1_step 12 = .ok (.if_icmp .ge 51, 3) := by decide +kernel
theorem dX1_step_15 : decode cX1_step 15 = .ok (.iload 6, 2) := by decide +kernel
theorem dX1_step_17 : decode cX1_step 17 = .ok (.iload_n 1, 1) := by decide +kernel
theorem dX1_step_18 : decode cX1_step 18 = .ok (.if_icmp .ne 7, 3) := by decide +kernel
theorem dX1_step_21 : decode cX1_step 21 = .ok (.iload_n 2, 1) := by decide +kernel
theorem dX1_step_22 : decode cX1_step 22 = .ok (.goto 20, 3) := by decide +kernel
theorem dX1_step_25 : decode cX1_step 25 = .ok (.iload 6, 2) := by decide +kernel
theorem dX1_step_27 : decode cX1_step 27 = .ok (.iload_n 3, 1) := by decide +kernel
theorem dX1_step_28 : decode cX1_step 28 = .ok (.if_icmp .ne 8, 3) := by decide +kernel
theorem dX1_step_31 : decode cX1_step 31 = .ok (.iload 4, 2) := by decide +kernel
theorem dX1_step_33 : decode cX1_step 33 = .ok (.goto 9, 3) := by decide +kernel
theorem dX1_step_36 : decode cX1_step 36 = .ok (.aload_n 0, 1) := by decide +kernel
theorem dX1_step_37 : decode cX1_step 37 = .ok (.iload 6, 2) := by decide +kernel
theorem dX1_step_39 : decode cX1_step 39 = .ok (.invokevirtual 75, 3) := by decide +kernel
theorem dX1_step_42 : decode cX1_step 42 = .ok (.istore 7, 2) := by decide +kernel
theorem dX1_step_44 : decode cX1_step 44 = .ok (.iload 5, 2) := by decide +kernel
theorem dX1_step_46 : decode cX1_step 46 = .ok (.aload_n 0, 1) := by decide +kernel
theorem dX1_step_47 : decode cX1_step 47 = .ok (.iload 6, 2) := by decide +kernel
theorem dX1_step_49 : decode cX1_step 49 = .ok (.iload 7, 2) := by decide +kernel
theorem dX1_step_51 : decode cX1_step 51 = .ok (.invokevirtual 78, 3) := by decide +kernel
theorem dX1_step_54 : decode cX1_step 54 = .ok (.iadd, 1) := by decide +kernel
theorem dX1_step_55 : decode cX1_step 55 = .ok (.istore 5, 2) := by decide +kernel
theorem dX1_step_57 : decode cX1_step 57 = .ok (.iinc 6 1, 3) := by decide +kernel
theorem dX1_step_60 : decode cX1_step 60 = .ok (.goto (-54), 3) := by decide +kernel
theorem dX1_step_63 : decode cX1_step 63 = .ok (.aload_n 0, 1) := by decide +kernel
theorem dX1_step_64 : decode cX1_step 64 = .ok (.dup, 1) := by decide +kernel
theorem dX1_step_65 : decode cX1_step 65 = .ok (.getfield 37, 3) := by decide +kernel
theorem dX1_step_68 : decode cX1_step 68 = .ok (.iconst 1, 1) := by decide +kernel
theorem dX1_step_69 : decode cX1_step 69 = .ok (.iadd, 1) := by decide +kernel
theorem dX1_step_70 : decode cX1_step 70 = .ok (.putfield 37, 3) := by decide +kernel
theorem dX1_step_73 : decode cX1_step 73 = .ok (.iload 5, 2) := by decide +kernel
theorem dX1_step_75 : decode cX1_step 75 = .ok (.ireturn, 1) := by decide +kernel
theorem dX1_drive_0 : decode cX1_drive 0 = .ok (.aload_n 0, 1) := by decide +kernel
theorem dX1_drive_1 : decode cX1_drive 1 = .ok (.getfield 15, 3) := by decide +kernel
theorem dX1_drive_4 : decode cX1_drive 4 = .ok (.iload_n 1, 1) := by decide +kernel
theorem dX1_drive_5 : decode cX1_drive 5 = .ok (.iaload, 1) := by decide +kernel
theorem dX1_drive_6 : decode cX1_drive 6 = .ok (.iload_n 2, 1) := by decide +kernel
theorem dX1_drive_7 : decode cX1_drive 7 = .ok (.invokestatic 46, 3) := by decide +kernel
theorem dX1_drive_10 : decode cX1_drive 10 = .ok (.istore_n 3, 1) := by decide +kernel
theorem dX1_drive_11 : decode cX1_drive 11 = .ok (.iload_n 3, 1) := by decide +kernel
theorem dX1_drive_12 : decode cX1_drive 12 = .ok (.iconst (-1), 1) := by decide +kernel
theorem dX1_drive_13 : decode cX1_drive 13 = .ok (.if_icmp .ne 15, 3) := by decide +kernel
theorem dX1_drive_16 : decode cX1_drive 16 = .ok (.aload_n 0, 1) := by decide +kernel
theorem dX1_drive_17 : decode cX1_drive 17 = .ok (.getfield 18, 3) := by decide +kernel
theorem dX1_drive_20 : decode cX1_drive 20 = .ok (.iload_n 1, 1) := by decide +kernel
theorem dX1_drive_21 : decode cX1_drive 21 = .ok (.iload_n 2, 1) := by decide +kernel
theorem dX1_drive_22 : decode cX1_drive 22 = .ok (.invokestatic 81, 3) := by decide +kernel
theorem dX1_drive_25 : decode cX1_drive 25 = .ok (.iastore, 1) := by decide +kernel
theorem dX1_drive_26 : decode cX1_drive 26 = .ok (.iconst 0, 1) := by decide +kernel
theorem dX1_drive_27 : decode cX1_drive 27 = .ok (.ireturn, 1) := by decide +kernel
theorem dX1_drive_28 : decode cX1_drive 28 = .ok (.aload_n 0, 1) := by decide +kernel
theorem dX1_drive_29 : decode cX1_drive 29 = .ok (.iload_n 3, 1) := by decide +kernel
theorem dX1_drive_30 : decode cX1_drive 30 = .ok (.invokevirtual 50, 3) := by decide +kernel
theorem dX1_drive_33 : decode cX1_drive 33 = .ok (.istore 4, 2) := by decide +kernel
theorem dX1_drive_35 : decode cX1_drive 35 = .ok (.iload 4, 2) := by decide +kernel
theorem dX1_drive_37 : decode cX1_drive 37 = .ok (.iconst (-1), 1) := by decide +kernel
theorem dX1_drive_38 : decode cX1_drive 38 = .ok (.if_icmp .ne 19, 3) := by decide +kernel
theorem dX1_drive_41 : decode cX1_drive 41 = .ok (.aload_n 0, 1) := by decide +kernel
theorem dX1_drive_42 : decode cX1_drive 42 = .ok (.getfield 18, 3) := by decide +kernel
theorem dX1_drive_45 : decode cX1_drive 45 = .ok (.iload_n 1, 1) := by decide +kernel
theorem dX1_drive_46 : decode cX1_drive 46 = .ok (.iload_n 2, 1) := by decide +kernel
theorem dX1_drive_47 : decode cX1_drive 47 = .ok (.iastore, 1) := by decide +kernel
theorem dX1_drive_48 : decode cX1_drive 48 = .ok (.aload_n 0, 1) := by decide +kernel
theorem dX1_drive_49 : decode cX1_drive 49 = .ok (.getfield 15, 3) := by decide +kernel
theorem dX1_drive_52 : decode cX1_drive 52 = .ok (.iload_n 1, 1) := by decide +kernel
theorem dX1_drive_53 : decode cX1_drive 53 = .ok (.iload_n 3, 1) := by decide +kernel
theorem dX1_drive_54 : decode cX1_drive 54 = .ok (.iastore, 1) := by decide +kernel
theorem dX1_drive_55 : decode cX1_drive 55 = .ok (.iconst 0, 1) := by decide +kernel
theorem dX1_drive_56 : decode cX1_drive 56 = .ok (.ireturn, 1) := by decide +kernel
theorem dX1_drive_57 : decode cX1_drive 57 = .ok (.aload_n 0, 1) := by decide +kernel
theorem dX1_drive_58 : decode cX1_drive 58 = .ok (.getfield 21, 3) := by decide +kernel
theorem dX1_drive_61 : decode cX1_drive 61 = .ok (.iload 4, 2) := by decide +kernel
theorem dX1_drive_63 : decode cX1_drive 63 = .ok (.dup2, 1) := by decide +kernel
theorem dX1_drive_64 : decode cX1_drive 64 = .ok (.iaload, 1) := by decide +kernel
theorem dX1_drive_65 : decode cX1_drive 65 = .ok (.iconst 1, 1) := by decide +kernel
theorem dX1_drive_66 : decode cX1_drive 66 = .ok (.iadd, 1) := by decide +kernel
theorem dX1_drive_67 : decode cX1_drive 67 = .ok (.iastore, 1) := by decide +kernel
theorem dX1_drive_68 : decode cX1_drive 68 = .ok (.aload_n 0, 1) := by decide +kernel
theorem dX1_drive_69 : decode cX1_drive 69 = .ok (.getfield 27, 3) := by decide +kernel
theorem dX1_drive_72 : decode cX1_drive 72 = .ok (.iload 4, 2) := by decide +kernel
theorem dX1_drive_74 : decode cX1_drive 74 = .ok (.iload_n 1, 1) := by decide +kernel
theorem dX1_drive_75 : decode cX1_drive 75 = .ok (.iastore, 1) := by decide +kernel
theorem dX1_drive_76 : decode cX1_drive 76 = .ok (.aload_n 0, 1) := by decide +kernel
theorem dX1_drive_77 : decode cX1_drive 77 = .ok (.getfield 24, 3) := by decide +kernel
theorem dX1_drive_80 : decode cX1_drive 80 = .ok (.iload_n 1, 1) := by decide +kernel
theorem dX1_drive_81 : decode cX1_drive 81 = .ok (.dup2, 1) := by decide +kernel
theorem dX1_drive_82 : decode cX1_drive 82 = .ok (.iaload, 1) := by decide +kernel
theorem dX1_drive_83 : decode cX1_drive 83 = .ok (.iconst 1, 1) := by decide +kernel
theorem dX1_drive_84 : decode cX1_drive 84 = .ok (.iadd, 1) := by decide +kernel
theorem dX1_drive_85 : decode cX1_drive 85 = .ok (.iastore, 1) := by decide +kernel
theorem dX1_drive_86 : decode cX1_drive 86 = .ok (.aload_n 0, 1) := by decide +kernel
theorem dX1_drive_87 : decode cX1_drive 87 = .ok (.getfield 18, 3) := by decide +kernel
theorem dX1_drive_90 : decode cX1_drive 90 = .ok (.iload_n 1, 1) := by decide +kernel
theorem dX1_drive_91 : decode cX1_drive 91 = .ok (.iload_n 2, 1) := by decide +kernel
theorem dX1_drive_92 : decode cX1_drive 92 = .ok (.iconst 2, 1) := by decide +kernel
theorem dX1_drive_93 : decode cX1_drive 93 = .ok (.iadd, 1) := by decide +kernel
theorem dX1_drive_94 : decode cX1_drive 94 = .ok (.iconst 4, 1) := by decide +kernel
theorem dX1_drive_95 : decode cX1_drive 95 = .ok (.irem, 1) := by decide +kernel
theorem dX1_drive_96 : decode cX1_drive 96 = .ok (.iastore, 1) := by decide +kernel
theorem dX1_drive_97 : decode cX1_drive 97 = .ok (.iconst 1, 1) := by decide +kernel
theorem dX1_drive_98 : decode cX1_drive 98 = .ok (.ireturn, 1) := by decide +kernel
theorem dX1_run_0 : decode cX1_run 0 = .ok (.iconst 0, 1) := by decide +kernel
theorem dX1_run_1 : decode cX1_run 1 = .ok (.istore_n 2, 1) := by decide +kernel
theorem dX1_run_2 : decode cX1_run 2 = .ok (.iconst 0, 1) := by decide +kernel
theorem dX1_run_3 : decode cX1_run 3 = .ok (.istore_n 3, 1) := by decide +kernel
theorem dX1_run_4 : decode cX1_run 4 = .ok (.iload_n 3, 1) := by decide +kernel
theorem dX1_run_5 : decode cX1_run 5 = .ok (.iload_n 1, 1) := by decide +kernel
theorem dX1_run_6 : decode cX1_run 6 = .ok (.if_icmp .ge 20, 3) := by decide +kernel
theorem dX1_run_9 : decode cX1_run 9 = .ok (.iload_n 2, 1) := by decide +kernel
theorem dX1_run_10 : decode cX1_run 10 = .ok (.aload_n 0, 1) := by decide +kernel
theorem dX1_run_11 : decode cX1_run 11 = .ok (.iconst (-1), 1) := by decide +kernel
theorem dX1_run_12 : decode cX1_run 12 = .ok (.iconst 0, 1) := by decide +kernel
theorem dX1_run_13 : decode cX1_run 13 = .ok (.iconst (-1), 1) := by decide +kernel
theorem dX1_run_14 : decode cX1_run 14 = .ok (.iconst 0, 1) := by decide +kernel
theorem dX1_run_15 : decode cX1_run 15 = .ok (.invokevirtual 84, 3) := by decide +kernel
theorem dX1_run_18 : decode cX1_run 18 = .ok (.iadd, 1) := by decide +kernel
theorem dX1_run_19 : decode cX1_run 19 = .ok (.istore_n 2, 1) := by decide +kernel
theorem dX1_run_20 : decode cX1_run 20 = .ok (.iinc 3 1, 3) := by decide +kernel
theorem dX1_run_23 : decode cX1_run 23 = .ok (.goto (-19), 3) := by decide +kernel
theorem dX1_run_26 : decode cX1_run 26 = .ok (.iload_n 2, 1) := by decide +kernel
theorem dX1_run_27 : decode cX1_run 27 = .ok (.ireturn, 1) := by decide +kernel
theorem dX1_runBySeed_0 : decode cX1_runBySeed 0 = .ok (.aload_n 0, 1) := by decide +kernel
theorem dX1_runBySeed_1 : decode cX1_runBySeed 1 = .ok (.getfield 30, 3) := by decide +kernel
theorem dX1_runBySeed_4 : decode cX1_runBySeed 4 = .ok (.ifCond .ne 5, 3) := by decide +kernel
theorem dX1_runBySeed_7 : decode cX1_runBySeed 7 = .ok (.iconst 0, 1) := by decide +kernel
theorem dX1_runBySeed_8 : decode cX1_runBySeed 8 = .ok (.ireturn, 1) := by decide +kernel
theorem dX1_runBySeed_9 : decode cX1_runBySeed 9 = .ok (.iload_n 1, 1) := by decide +kernel
theorem dX1_runBySeed_10 : decode cX1_runBySeed 10 = .ok (.i2l, 1) := by decide +kernel
theorem dX1_runBySeed_11 : decode cX1_runBySeed 11 = .ok (.lstore_n 3, 1) := by decide +kernel
theorem dX1_runBySeed_12 : decode cX1_runBySeed 12 = .ok (.iconst 0, 1) := by decide +kernel
theorem dX1_runBySeed_13 : decode cX1_runBySeed 13 = .ok (.istore 5, 2) := by decide +kernel
theorem dX1_runBySeed_15 : decode cX1_runBySeed 15 = .ok (.iconst 0, 1) := by decide +kernel
theorem dX1_runBySeed_16 : decode cX1_runBySeed 16 = .ok (.istore 6, 2) := by decide +kernel
theorem dX1_runBySeed_18 : decode cX1_runBySeed 18 = .ok (.iload 6, 2) := by decide +kernel
theorem dX1_runBySeed_20 : decode cX1_runBySeed 20 = .ok (.iload_n 2, 1) := by decide +kernel
theorem dX1_runBySeed_21 : decode cX1_runBySeed 21 = .ok (.if_icmp .ge 67, 3) := by decide +kernel
theorem dX1_runBySeed_24 : decode cX1_runBySeed 24 = .ok (.lload_n 3, 1) := by decide +kernel
theorem dX1_runBySeed_25 : decode cX1_runBySeed 25 = .ok (.ldc2_w 88, 3) := by decide +kernel
theorem dX1_runBySeed_28 : decode cX1_runBySeed 28 = .ok (.lmul, 1) := by decide +kernel
theorem dX1_runBySeed_29 : decode cX1_runBySeed 29 = .ok (.ldc2_w 90, 3) := by decide +kernel
theorem dX1_runBySeed_32 : decode cX1_runBySeed 32 = .ok (.ladd, 1) := by decide +kernel
theorem dX1_runBySeed_33 : decode cX1_runBySeed 33 = .ok (.ldc2_w 92, 3) := by decide +kernel
theorem dX1_runBySeed_36 : decode cX1_runBySeed 36 = .ok (.lrem, 1) := by decide +kernel
theorem dX1_runBySeed_37 : decode cX1_runBySeed 37 = .ok (.lstore_n 3, 1) := by decide +kernel
theorem dX1_runBySeed_38 : decode cX1_runBySeed 38 = .ok (.lload_n 3, 1) := by decide +kernel
theorem dX1_runBySeed_39 : decode cX1_runBySeed 39 = .ok (.ldc2_w 94, 3) := by decide +kernel
theorem dX1_runBySeed_42 : decode cX1_runBySeed 42 = .ok (.ldiv, 1) := by decide +kernel
theorem dX1_runBySeed_43 : decode cX1_runBySeed 43 = .ok (.aload_n 0, 1) := by decide +kernel
theorem dX1_runBySeed_44 : decode cX1_runBySeed 44 = .ok (.getfield 30, 3) := by decide +kernel
theorem dX1_runBySeed_47 : decode cX1_runBySeed 47 = .ok (.i2l, 1) := by decide +kernel
theorem dX1_runBySeed_48 : decode cX1_runBySeed 48 = .ok (.lrem, 1) := by decide +kernel
theorem dX1_runBySeed_49 : decode cX1_runBySeed 49 = .ok (.l2i, 1) := by decide +kernel
theorem dX1_runBySeed_50 : decode cX1_runBySeed 50 = .ok (.istore 7, 2) := by decide +kernel
theorem dX1_runBySeed_52 : decode cX1_runBySeed 52 = .ok (.aload_n 0, 1) := by decide +kernel
theorem dX1_runBySeed_53 : decode cX1_runBySeed 53 = .ok (.getfield 18, 3) := by decide +kernel
theorem dX1_runBySeed_56 : decode cX1_runBySeed 56 = .ok (.iload 7, 2) := by decide +kernel
theorem dX1_runBySeed_58 : decode cX1_runBySeed 58 = .ok (.lload_n 3, 1) := by decide +kernel
theorem dX1_runBySeed_59 : decode cX1_runBySeed 59 = .ok (.ldc2_w 96, 3) := by decide +kernel
theorem dX1_runBySeed_62 : decode cX1_runBySeed 62 = .ok (.ldiv, 1) := by decide +kernel
theorem dX1_runBySeed_63 : decode cX1_runBySeed 63 = .ok (.ldc2_w 98, 3) := by decide +kernel
theorem dX1_runBySeed_66 : decode cX1_runBySeed 66 = .ok (.lrem, 1) := by decide +kernel
theorem dX1_runBySeed_67 : decode cX1_runBySeed 67 = .ok (.l2i, 1) := by decide +kernel
theorem dX1_runBySeed_68 : decode cX1_runBySeed 68 = .ok (.iastore, 1) := by decide +kernel
theorem dX1_runBySeed_69 : decode cX1_runBySeed 69 = .ok (.iload 5, 2) := by decide +kernel
theorem dX1_runBySeed_71 : decode cX1_runBySeed 71 = .ok (.aload_n 0, 1) := by decide +kernel
theorem dX1_runBySeed_72 : decode cX1_runBySeed 72 = .ok (.iconst (-1), 1) := by decide +kernel
theorem dX1_runBySeed_73 : decode cX1_runBySeed 73 = .ok (.iconst 0, 1) := by decide +kernel
theorem dX1_runBySeed_74 : decode cX1_runBySeed 74 = .ok (.iconst (-1), 1) := by decide +kernel
theorem dX1_runBySeed_75 : decode cX1_runBySeed 75 = .ok (.iconst 0, 1) := by decide +kernel
theorem dX1_runBySeed_76 : decode cX1_runBySeed 76 = .ok (.invokevirtual 84, 3) := by decide +kernel
theorem dX1_runBySeed_79 : decode cX1_runBySeed 79 = .ok (.iadd, 1) := by decide +kernel
theorem dX1_runBySeed_80 : decode cX1_runBySeed 80 = .ok (.istore 5, 2) := by decide +kernel
theorem dX1_runBySeed_82 : decode cX1_runBySeed 82 = .ok (.iinc 6 1, 3) := by decide +kernel
theorem dX1_runBySeed_85 : decode cX1_runBySeed 85 = .ok (.goto (-67), 3) := by decide +kernel
theorem dX1_runBySeed_88 : decode cX1_runBySeed 88 = .ok (.iload 5, 2) := by decide +kernel
theorem dX1_runBySeed_90 : decode cX1_runBySeed 90 = .ok (.ireturn, 1) := by decide +kernel
theorem dX1_givenByAll_0 : decode cX1_givenByAll 0 = .ok (.iconst 0, 1) := by decide +kernel
theorem dX1_givenByAll_1 : decode cX1_givenByAll 1 = .ok (.istore_n 1, 1) := by decide +kernel
theorem dX1_givenByAll_2 : decode cX1_givenByAll 2 = .ok (.iconst 0, 1) := by decide +kernel
theorem dX1_givenByAll_3 : decode cX1_givenByAll 3 = .ok (.istore_n 2, 1) := by decide +kernel
theorem dX1_givenByAll_4 : decode cX1_givenByAll 4 = .ok (.iload_n 2, 1) := by decide +kernel
theorem dX1_givenByAll_5 : decode cX1_givenByAll 5 = .ok (.aload_n 0, 1) := by decide +kernel
theorem dX1_givenByAll_6 : decode cX1_givenByAll 6 = .ok (.getfield 30, 3) := by decide +kernel
theorem dX1_givenByAll_9 : decode cX1_givenByAll 9 = .ok (.if_icmp .ge 18, 3) := by decide +kernel
theorem dX1_givenByAll_12 : decode cX1_givenByAll 12 = .ok (.iload_n 1, 1) := by decide +kernel
theorem dX1_givenByAll_13 : decode cX1_givenByAll 13 = .ok (.aload_n 0, 1) := by decide +kernel
theorem dX1_givenByAll_14 : decode cX1_givenByAll 14 = .ok (.getfield 24, 3) := by decide +kernel
theorem dX1_givenByAll_17 : decode cX1_givenByAll 17 = .ok (.iload_n 2, 1) := by decide +kernel
theorem dX1_givenByAll_18 : decode cX1_givenByAll 18 = .ok (.iaload, 1) := by decide +kernel
theorem dX1_givenByAll_19 : decode cX1_givenByAll 19 = .ok (.iadd, 1) := by decide +kernel
theorem dX1_givenByAll_20 : decode cX1_givenByAll 20 = .ok (.istore_n 1, 1) := by decide +kernel
theorem dX1_givenByAll_21 : decode cX1_givenByAll 21 = .ok (.iinc 2 1, 3) := by decide +kernel
theorem dX1_givenByAll_24 : decode cX1_givenByAll 24 = .ok (.goto (-20), 3) := by decide +kernel
theorem dX1_givenByAll_27 : decode cX1_givenByAll 27 = .ok (.iload_n 1, 1) := by decide +kernel
theorem dX1_givenByAll_28 : decode cX1_givenByAll 28 = .ok (.ireturn, 1) := by decide +kernel
theorem dX1_distance_0 : decode cX1_distance 0 = .ok (.iload_n 0, 1) := by decide +kernel
theorem dX1_distance_1 : decode cX1_distance 1 = .ok (.bipush 6, 2) := by decide +kernel
theorem dX1_distance_3 : decode cX1_distance 3 = .ok (.idiv, 1) := by decide +kernel
theorem dX1_distance_4 : decode cX1_distance 4 = .ok (.iload_n 1, 1) := by decide +kernel
theorem dX1_distance_5 : decode cX1_distance 5 = .ok (.bipush 6, 2) := by decide +kernel
theorem dX1_distance_7 : decode cX1_distance 7 = .ok (.idiv, 1) := by decide +kernel
theorem dX1_distance_8 : decode cX1_distance 8 = .ok (.isub, 1) := by decide +kernel
theorem dX1_distance_9 : decode cX1_distance 9 = .ok (.invokestatic 58, 3) := by decide +kernel
theorem dX1_distance_12 : decode cX1_distance 12 = .ok (.iload_n 0, 1) := by decide +kernel
theorem dX1_distance_13 : decode cX1_distance 13 = .ok (.bipush 6, 2) := by decide +kernel
theorem dX1_distance_15 : decode cX1_distance 15 = .ok (.irem, 1) := by decide +kernel
theorem dX1_distance_16 : decode cX1_distance 16 = .ok (.iload_n 1, 1) := by decide +kernel
theorem dX1_distance_17 : decode cX1_distance 17 = .ok (.bipush 6, 2) := by decide +kernel
theorem dX1_distance_19 : decode cX1_distance 19 = .ok (.irem, 1) := by decide +kernel
theorem dX1_distance_20 : decode cX1_distance 20 = .ok (.isub, 1) := by decide +kernel
theorem dX1_distance_21 : decode cX1_distance 21 = .ok (.invokestatic 58, 3) := by decide +kernel
theorem dX1_distance_24 : decode cX1_distance 24 = .ok (.iadd, 1) := by decide +kernel
theorem dX1_distance_25 : decode cX1_distance 25 = .ok (.ireturn, 1) := by decide +kernel
theorem dX1_greatestCluster_0 : decode cX1_greatestCluster 0 = .ok (.iconst 0, 1) := by decide +kernel
theorem dX1_greatestCluster_1 : decode cX1_greatestCluster 1 = .ok (.istore_n 1, 1) := by decide +kernel
theorem dX1_greatestCluster_2 : decode cX1_greatestCluster 2 = .ok (.iconst 0, 1) := by decide +kernel
theorem dX1_greatestCluster_3 : decode cX1_greatestCluster 3 = .ok (.istore_n 2, 1) := by decide +kernel
theorem dX1_greatestCluster_4 : decode cX1_greatestCluster 4 = .ok (.iload_n 2, 1) := by decide +kernel
theorem dX1_greatestCluster_5 : decode cX1_greatestCluster 5 = .ok (.aload_n 0, 1) := by decide +kernel
theorem dX1_greatestCluster_6 : decode cX1_greatestCluster 6 = .ok (.getfield 30, 3) := by decide +kernel
theorem dX1_greatestCluster_9 : decode cX1_greatestCluster 9 = .ok (.if_icmp .ge 28, 3) := by decide +kernel
theorem dX1_greatestCluster_12 : decode cX1_greatestCluster 12 = .ok (.aload_n 0, 1) := by decide +kernel
theorem dX1_greatestCluster_13 : decode cX1_greatestCluster 13 = .ok (.iload_n 2, 1) := by decide +kernel
theorem dX1_greatestCluster_14 : decode cX1_greatestCluster 14 = .ok (.invokevirtual 100, 3) := by decide +kernel
theorem dX1_greatestCluster_17 : decode cX1_greatestCluster 17 = .ok (.istore_n 3, 1) := by decide +kernel
theorem dX1_greatestCluster_18 : decode cX1_greatestCluster 18 = .ok (.iload_n 3, 1) := by decide +kernel
theorem dX1_greatestCluster_19 : decode cX1_greatestCluster 19 = .ok (.invokestatic 103, 3) := by decide +kernel
theorem dX1_greatestCluster_22 : decode cX1_greatestCluster 22 = .ok (.iload_n 1, 1) := by decide +kernel
theorem dX1_greatestCluster_23 : decode cX1_greatestCluster 23 = .ok (.invokestatic 103, 3) := by decide +kernel
theorem dX1_greatestCluster_26 : decode cX1_greatestCluster 26 = .ok (.if_icmp .le 5, 3) := by decide +kernel
theorem dX1_greatestCluster_29 : decode cX1_greatestCluster 29 = .ok (.iload_n 3, 1) := by decide +kernel
theorem dX1_greatestCluster_30 : decode cX1_greatestCluster 30 = .ok (.istore_n 1, 1) := by decide +kernel
theorem dX1_greatestCluster_31 : decode cX1_greatestCluster 31 = .ok (.iinc 2 1, 3) := by decide +kernel
theorem dX1_greatestCluster_34 : decode cX1_greatestCluster 34 = .ok (.goto (-30), 3) := by decide +kernel
theorem dX1_greatestCluster_37 : decode cX1_greatestCluster 37 = .ok (.iload_n 1, 1) := by decide +kernel
theorem dX1_greatestCluster_38 : decode cX1_greatestCluster 38 = .ok (.ireturn, 1) := by decide +kernel
theorem dX1_clusterWith_0 : decode cX1_clusterWith 0 = .ok (.iconst 1, 1) := by decide +kernel
theorem dX1_clusterWith_1 : decode cX1_clusterWith 1 = .ok (.iload_n 1, 1) := by decide +kernel
theorem dX1_clusterWith_2 : decode cX1_clusterWith 2 = .ok (.ishl, 1) := by decide +kernel
theorem dX1_clusterWith_3 : decode cX1_clusterWith 3 = .ok (.istore_n 2, 1) := by decide +kernel
theorem dX1_clusterWith_4 : decode cX1_clusterWith 4 = .ok (.iconst 1, 1) := by decide +kernel
theorem dX1_clusterWith_5 : decode cX1_clusterWith 5 = .ok (.istore_n 3, 1) := by decide +kernel
theorem dX1_clusterWith_6 : decode cX1_clusterWith 6 = .ok (.iload_n 3, 1) := by decide +kernel
theorem dX1_clusterWith_7 : decode cX1_clusterWith 7 = .ok (.aload_n 0, 1) := by decide +kernel
theorem dX1_clusterWith_8 : decode cX1_clusterWith 8 = .ok (.getfield 30, 3) := by decide +kernel
theorem dX1_clusterWith_11 : decode cX1_clusterWith 11 = .ok (.if_icmp .ge 44, 3) := by decide +kernel
theorem dX1_clusterWith_14 : decode cX1_clusterWith 14 = .ok (.iconst 0, 1) := by decide +kernel
theorem dX1_clusterWith_15 : decode cX1_clusterWith 15 = .ok (.istore 4, 2) := by decide +kernel
theorem dX1_clusterWith_17 : decode cX1_clusterWith 17 = .ok (.iload 4, 2) := by decide +kernel
theorem dX1_clusterWith_19 : decode cX1_clusterWith 19 = .ok (.aload_n 0, 1) := by decide +kernel
theorem dX1_clusterWith_20 : decode cX1_clusterWith 20 = .ok (.getfield 30, 3) := by decide +kernel
theorem dX1_clusterWith_23 : decode cX1_clusterWith 23 = .ok (.if_icmp .ge 26, 3) := by decide +kernel
theorem dX1_clusterWith_26 : decode cX1_clusterWith 26 = .ok (.aload_n 0, 1) := by decide +kernel
theorem dX1_clusterWith_27 : decode cX1_clusterWith 27 = .ok (.iload 4, 2) := by decide +kernel
theorem dX1_clusterWith_29 : decode cX1_clusterWith 29 = .ok (.iload_n 2, 1) := by decide +kernel
theorem dX1_clusterWith_30 : decode cX1_clusterWith 30 = .ok (.invokevirtual 108, 3) := by decide +kernel
theorem dX1_clusterWith_33 : decode cX1_clusterWith 33 = .ok (.ifCond .eq 10, 3) := by decide +kernel
theorem dX1_clusterWith_36 : decode cX1_clusterWith 36 = .ok (.iload_n 2, 1) := by decide +kernel
theorem dX1_clusterWith_37 : decode cX1_clusterWith 37 = .ok (.iconst 1, 1) := by decide +kernel
theorem dX1_clusterWith_38 : decode cX1_clusterWith 38 = .ok (.iload 4, 2) := by decide +kernel
theorem dX1_clusterWith_40 : decode cX1_clusterWith 40 = .ok (.ishl, 1) := by decide +kernel
theorem dX1_clusterWith_41 : decode cX1_clusterWith 41 = .ok (.ior, 1) := by decide +kernel
theorem dX1_clusterWith_42 : decode cX1_clusterWith 42 = .ok (.istore_n 2, 1) := by decide +kernel
theorem dX1_clusterWith_43 : decode cX1_clusterWith 43 = .ok (.iinc 4 1, 3) := by decide +kernel
theorem dX1_clusterWith_46 : decode cX1_clusterWith 46 = .ok (.goto (-29), 3) := by decide +kernel
theorem dX1_clusterWith_49 : decode cX1_clusterWith 49 = .ok (.iinc 3 1, 3) := by decide +kernel
theorem dX1_clusterWith_52 : decode cX1_clusterWith 52 = .ok (.goto (-46), 3) := by decide +kernel
theorem dX1_clusterWith_55 : decode cX1_clusterWith 55 = .ok (.iload_n 2, 1) := by decide +kernel
theorem dX1_clusterWith_56 : decode cX1_clusterWith 56 = .ok (.ireturn, 1) := by decide +kernel
theorem dX1_touches_0 : decode cX1_touches 0 = .ok (.iconst 0, 1) := by decide +kernel
theorem dX1_touches_1 : decode cX1_touches 1 = .ok (.istore_n 3, 1) := by decide +kernel
theorem dX1_touches_2 : decode cX1_touches 2 = .ok (.iload_n 3, 1) := by decide +kernel
theorem dX1_touches_3 : decode cX1_touches 3 = .ok (.aload_n 0, 1) := by decide +kernel
theorem dX1_touches_4 : decode cX1_touches 4 = .ok (.getfield 30, 3) := by decide +kernel
theorem dX1_touches_7 : decode cX1_touches 7 = .ok (.if_icmp .ge 39, 3) := by decide +kernel
theorem dX1_touches_10 : decode cX1_touches 10 = .ok (.iload_n 2, 1) := by decide +kernel
theorem dX1_touches_11 : decode cX1_touches 11 = .ok (.iload_n 3, 1) := by decide +kernel
theorem dX1_touches_12 : decode cX1_touches 12 = .ok (.ishr, 1) := by decide +kernel
theorem dX1_touches_13 : decode cX1_touches 13 = .ok (.iconst 1, 1) := by decide +kernel
theorem dX1_touches_14 : decode cX1_touches 14 = .ok (.iand, 1) := by decide +kernel
theorem dX1_touches_15 : decode cX1_touches 15 = .ok (.iconst 1, 1) := by decide +kernel
theorem dX1_touches_16 : decode cX1_touches 16 = .ok (.if_icmp .ne 24, 3) := by decide +kernel
theorem dX1_touches_19 : decode cX1_touches 19 = .ok (.aload_n 0, 1) := by decide +kernel
theorem dX1_touches_20 : decode cX1_touches 20 = .ok (.getfield 15, 3) := by decide +kernel
theorem dX1_touches_23 : decode cX1_touches 23 = .ok (.iload_n 3, 1) := by decide +kernel
theorem dX1_touches_24 : decode cX1_touches 24 = .ok (.iaload, 1) := by decide +kernel
theorem dX1_touches_25 : decode cX1_touches 25 = .ok (.aload_n 0, 1) := by decide +kernel
theorem dX1_touches_26 : decode cX1_touches 26 = .ok (.getfield 15, 3) := by decide +kernel
theorem dX1_touches_29 : decode cX1_touches 29 = .ok (.iload_n 1, 1) := by decide +kernel
theorem dX1_touches_30 : decode cX1_touches 30 = .ok (.iaload, 1) := by decide +kernel
theorem dX1_touches_31 : decode cX1_touches 31 = .ok (.invokestatic 112, 3) := by decide +kernel
theorem dX1_touches_34 : decode cX1_touches 34 = .ok (.iconst 1, 1) := by decide +kernel
theorem dX1_touches_35 : decode cX1_touches 35 = .ok (.if_icmp .ne 5, 3) := by decide +kernel
theorem dX1_touches_38 : decode cX1_touches 38 = .ok (.iconst 1, 1) := by decide +kernel
theorem dX1_touches_39 : decode cX1_touches 39 = .ok (.ireturn, 1) := by decide +kernel
theorem dX1_touches_40 : decode cX1_touches 40 = .ok (.iinc 3 1, 3) := by decide +kernel
theorem dX1_touches_43 : decode cX1_touches 43 = .ok (.goto (-41), 3) := by decide +kernel
theorem dX1_touches_46 : decode cX1_touches 46 = .ok (.iconst 0, 1) := by decide +kernel
theorem dX1_touches_47 : decode cX1_touches 47 = .ok (.ireturn, 1) := by decide +kernel
theorem dX1_nearestFreeCell_0 : decode cX1_nearestFreeCell 0 = .ok (.iconst (-1), 1) := by decide +kernel
theorem dX1_nearestFreeCell_1 : decode cX1_nearestFreeCell 1 = .ok (.istore_n 1, 1) := by decide +kernel
theorem dX1_nearestFreeCell_2 : decode cX1_nearestFreeCell 2 = .ok (.iconst 0, 1) := by decide +kernel
theorem dX1_nearestFreeCell_3 : decode cX1_nearestFreeCell 3 = .ok (.istore_n 2, 1) := by decide +kernel
theorem dX1_nearestFreeCell_4 : decode cX1_nearestFreeCell 4 = .ok (.iconst 0, 1) := by decide +kernel
theorem dX1_nearestFreeCell_5 : decode cX1_nearestFreeCell 5 = .ok (.istore_n 3, 1) := by decide +kernel
theorem dX1_nearestFreeCell_6 : decode cX1_nearestFreeCell 6 = .ok (.iload_n 3, 1) := by decide +kernel
theorem dX1_nearestFreeCell_7 : decode cX1_nearestFreeCell 7 = .ok (.bipush 24, 2) := by decide +kernel
theorem dX1_nearestFreeCell_9 : decode cX1_nearestFreeCell 9 = .ok (.if_icmp .ge 41, 3) := by decide +kernel
theorem dX1_nearestFreeCell_12 : decode cX1_nearestFreeCell 12 = .ok (.aload_n 0, 1) := by decide +kernel
theorem dX1_nearestFreeCell_13 : decode cX1_nearestFreeCell 13 = .ok (.iload_n 3, 1) := by decide +kernel
theorem dX1_nearestFreeCell_14 : decode cX1_nearestFreeCell 14 = .ok (.invokevirtual 50, 3) := by decide +kernel
theorem dX1_nearestFreeCell_17 : decode cX1_nearestFreeCell 17 = .ok (.iconst (-1), 1) := by decide +kernel
theorem dX1_nearestFreeCell_18 : decode cX1_nearestFreeCell 18 = .ok (.if_icmp .ne 26, 3) := by decide +kernel
theorem dX1_nearestFreeCell_21 : decode cX1_nearestFreeCell 21 = .ok (.aload_n 0, 1) := by decide +kernel
theorem dX1_nearestFreeCell_22 : decode cX1_nearestFreeCell 22 = .ok (.iload_n 3, 1) := by decide +kernel
theorem dX1_nearestFreeCell_23 : decode cX1_nearestFreeCell 23 = .ok (.invokevirtual 115, 3) := by decide +kernel
theorem dX1_nearestFreeCell_26 : decode cX1_nearestFreeCell 26 = .ok (.istore 4, 2) := by decide +kernel
theorem dX1_nearestFreeCell_28 : decode cX1_nearestFreeCell 28 = .ok (.iload_n 1, 1) := by decide +kernel
theorem dX1_nearestFreeCell_29 : decode cX1_nearestFreeCell 29 = .ok (.iconst (-1), 1) := by decide +kernel
theorem dX1_nearestFreeCell_30 : decode cX1_nearestFreeCell 30 = .ok (.if_icmp .eq 9, 3) := by decide +kernel
theorem dX1_nearestFreeCell_33 : decode cX1_nearestFreeCell 33 = .ok (.iload 4, 2) := by decide +kernel
theorem dX1_nearestFreeCell_35 : decode cX1_nearestFreeCell 35 = .ok (.iload_n 2, 1) := by decide +kernel
theorem dX1_nearestFreeCell_36 : decode cX1_nearestFreeCell 36 = .ok (.if_icmp .ge 8, 3) := by decide +kernel
theorem dX1_nearestFreeCell_39 : decode cX1_nearestFreeCell 39 = .ok (.iload_n 3, 1) := by decide +kernel
theorem dX1_nearestFreeCell_40 : decode cX1_nearestFreeCell 40 = .ok (.istore_n 1, 1) := by decide +kernel
theorem dX1_nearestFreeCell_41 : decode cX1_nearestFreeCell 41 = .ok (.iload 4, 2) := by decide +kernel
theorem dX1_nearestFreeCell_43 : decode cX1_nearestFreeCell 43 = .ok (.istore_n 2, 1) := by decide +kernel
theorem dX1_nearestFreeCell_44 : decode cX1_nearestFreeCell 44 = .ok (.iinc 3 1, 3) := by decide +kernel
theorem dX1_nearestFreeCell_47 : decode cX1_nearestFreeCell 47 = .ok (.goto (-41), 3) := by decide +kernel
theorem dX1_nearestFreeCell_50 : decode cX1_nearestFreeCell 50 = .ok (.iload_n 1, 1) := by decide +kernel
theorem dX1_nearestFreeCell_51 : decode cX1_nearestFreeCell 51 = .ok (.ireturn, 1) := by decide +kernel
theorem dX1_farFromAll_0 : decode cX1_farFromAll 0 = .ok (.iconst 0, 1) := by decide +kernel
theorem dX1_farFromAll_1 : decode cX1_farFromAll 1 = .ok (.istore_n 2, 1) := by decide +kernel
theorem dX1_farFromAll_2 : decode cX1_farFromAll 2 = .ok (.iconst 0, 1) := by decide +kernel
theorem dX1_farFromAll_3 : decode cX1_farFromAll 3 = .ok (.istore_n 3, 1) := by decide +kernel
theorem dX1_farFromAll_4 : decode cX1_farFromAll 4 = .ok (.iload_n 3, 1) := by decide +kernel
theorem dX1_farFromAll_5 : decode cX1_farFromAll 5 = .ok (.aload_n 0, 1) := by decide +kernel
theorem dX1_farFromAll_6 : decode cX1_farFromAll 6 = .ok (.getfield 30, 3) := by decide +kernel
theorem dX1_farFromAll_9 : decode cX1_farFromAll 9 = .ok (.if_icmp .ge 22, 3) := by decide +kernel
theorem dX1_farFromAll_12 : decode cX1_farFromAll 12 = .ok (.iload_n 2, 1) := by decide +kernel
theorem dX1_farFromAll_13 : decode cX1_farFromAll 13 = .ok (.aload_n 0, 1) := by decide +kernel
theorem dX1_farFromAll_14 : decode cX1_farFromAll 14 = .ok (.getfield 15, 3) := by decide +kernel
theorem dX1_farFromAll_17 : decode cX1_farFromAll 17 = .ok (.iload_n 3, 1) := by decide +kernel
theorem dX1_farFromAll_18 : decode cX1_farFromAll 18 = .ok (.iaload, 1) := by decide +kernel
theorem dX1_farFromAll_19 : decode cX1_farFromAll 19 = .ok (.iload_n 1, 1) := by decide +kernel
theorem dX1_farFromAll_20 : decode cX1_farFromAll 20 = .ok (.invokestatic 112, 3) := by decide +kernel
theorem dX1_farFromAll_23 : decode cX1_farFromAll 23 = .ok (.iadd, 1) := by decide +kernel
theorem dX1_farFromAll_24 : decode cX1_farFromAll 24 = .ok (.istore_n 2, 1) := by decide +kernel
theorem dX1_farFromAll_25 : decode cX1_farFromAll 25 = .ok (.iinc 3 1, 3) := by decide +kernel
theorem dX1_farFromAll_28 : decode cX1_farFromAll 28 = .ok (.goto (-24), 3) := by decide +kernel
theorem dX1_farFromAll_31 : decode cX1_farFromAll 31 = .ok (.iload_n 2, 1) := by decide +kernel
theorem dX1_farFromAll_32 : decode cX1_farFromAll 32 = .ok (.ireturn, 1) := by decide +kernel
theorem dX1_addTo_0 : decode cX1_addTo 0 = .ok (.ldc2_w 118, 3) := by decide +kernel
theorem dX1_addTo_3 : decode cX1_addTo 3 = .ok (.lload_n 1, 1) := by decide +kernel
theorem dX1_addTo_4 : decode cX1_addTo 4 = .ok (.lmul, 1) := by decide +kernel
theorem dX1_addTo_5 : decode cX1_addTo 5 = .ok (.aload_n 0, 1) := by decide +kernel
theorem dX1_addTo_6 : decode cX1_addTo 6 = .ok (.getfield 34, 3) := by decide +kernel
theorem dX1_addTo_9 : decode cX1_addTo 9 = .ok (.i2l, 1) := by decide +kernel
theorem dX1_addTo_10 : decode cX1_addTo 10 = .ok (.ladd, 1) := by decide +kernel
theorem dX1_addTo_11 : decode cX1_addTo 11 = .ok (.lstore_n 1, 1) := by decide +kernel
theorem dX1_addTo_12 : decode cX1_addTo 12 = .ok (.iconst 0, 1) := by decide +kernel
theorem dX1_addTo_13 : decode cX1_addTo 13 = .ok (.istore_n 3, 1) := by decide +kernel
theorem dX1_addTo_14 : decode cX1_addTo 14 = .ok (.iload_n 3, 1) := by decide +kernel
theorem dX1_addTo_15 : decode cX1_addTo 15 = .ok (.aload_n 0, 1) := by decide +kernel
theorem dX1_addTo_16 : decode cX1_addTo 16 = .ok (.getfield 30, 3) := by decide +kernel
theorem dX1_addTo_19 : decode cX1_addTo 19 = .ok (.if_icmp .ge 40, 3) := by decide +kernel
theorem dX1_addTo_22 : decode cX1_addTo 22 = .ok (.iconst 0, 1) := by decide +kernel
theorem dX1_addTo_23 : decode cX1_addTo 23 = .ok (.istore 4, 2) := by decide +kernel
theorem dX1_addTo_25 : decode cX1_addTo 25 = .ok (.iload 4, 2) := by decide +kernel
theorem dX1_addTo_27 : decode cX1_addTo 27 = .ok (.bipush 6, 2) := by decide +kernel
theorem dX1_addTo_29 : decode cX1_addTo 29 = .ok (.if_icmp .ge 24, 3) := by decide +kernel
theorem dX1_addTo_32 : decode cX1_addTo 32 = .ok (.ldc2_w 118, 3) := by decide +kernel
theorem dX1_addTo_35 : decode cX1_addTo 35 = .ok (.lload_n 1, 1) := by decide +kernel
theorem dX1_addTo_36 : decode cX1_addTo 36 = .ok (.lmul, 1) := by decide +kernel
theorem dX1_addTo_37 : decode cX1_addTo 37 = .ok (.aload_n 0, 1) := by decide +kernel
theorem dX1_addTo_38 : decode cX1_addTo 38 = .ok (.iload_n 3, 1) := by decide +kernel
theorem dX1_addTo_39 : decode cX1_addTo 39 = .ok (.iload 4, 2) := by decide +kernel
theorem dX1_addTo_41 : decode cX1_addTo 41 = .ok (.invokevirtual 120, 3) := by decide +kernel
theorem dX1_addTo_44 : decode cX1_addTo 44 = .ok (.i2l, 1) := by decide +kernel
theorem dX1_addTo_45 : decode cX1_addTo 45 = .ok (.ladd, 1) := by decide +kernel
theorem dX1_addTo_46 : decode cX1_addTo 46 = .ok (.lstore_n 1, 1) := by decide +kernel
theorem dX1_addTo_47 : decode cX1_addTo 47 = .ok (.iinc 4 1, 3) := by decide +kernel
theorem dX1_addTo_50 : decode cX1_addTo 50 = .ok (.goto (-25), 3) := by decide +kernel
theorem dX1_addTo_53 : decode cX1_addTo 53 = .ok (.iinc 3 1, 3) := by decide +kernel
theorem dX1_addTo_56 : decode cX1_addTo 56 = .ok (.goto (-42), 3) := by decide +kernel
theorem dX1_addTo_59 : decode cX1_addTo 59 = .ok (.lload_n 1, 1) := by decide +kernel
theorem dX1_addTo_60 : decode cX1_addTo 60 = .ok (.lreturn, 1) := by decide +kernel
theorem dX2_init_0 : decode cX2_init 0 = .ok (.aload_n 0, 1) := by decide +kernel
theorem dX2_init_1 : decode cX2_init 1 = .ok (.invokespecial 3, 3) := by decide +kernel
theorem dX2_init_4 : decode cX2_init 4 = .ok (.aload_n 0, 1) := by decide +kernel
theorem dX2_init_5 : decode cX2_init 5 = .ok (.bipush 42, 2) := by decide +kernel
theorem dX2_init_7 : decode cX2_init 7 = .ok (.newarray .int, 2) := by decide +kernel
theorem dX2_init_9 : decode cX2_init 9 = .ok (.putfield 11, 3) := by decide +kernel
theorem dX2_init_12 : decode cX2_init 12 = .ok (.aload_n 0, 1) := by decide +kernel
theorem dX2_init_13 : decode cX2_init 13 = .ok (.iconst 0, 1) := by decide +kernel
theorem dX2_init_14 : decode cX2_init 14 = .ok (.putfield 15, 3) := by decide +kernel
theorem dX2_init_17 : decode cX2_init 17 = .ok (.return_, 1) := by decide +kernel
theorem dX2_copyOf_0 : decode cX2_copyOf 0 = .ok (.aload_n 1, 1) := by decide +kernel
theorem dX2_copyOf_1 : decode cX2_copyOf 1 = .ok (.getfield 11, 3) := by decide +kernel
theorem dX2_copyOf_4 : decode cX2_copyOf 4 = .ok (.iconst 0, 1) := by decide +kernel
theorem dX2_copyOf_5 : decode cX2_copyOf 5 = .ok (.aload_n 0, 1) := by decide +kernel
theorem dX2_copyOf_6 : decode cX2_copyOf 6 = .ok (.getfield 11, 3) := by decide +kernel
theorem dX2_copyOf_9 : decode cX2_copyOf 9 = .ok (.iconst 0, 1) := by decide +kernel
theorem dX2_copyOf_10 : decode cX2_copyOf 10 = .ok (.bipush 42, 2) := by decide +kernel
theorem dX2_copyOf_12 : decode cX2_copyOf 12 = .ok (.invokestatic 19, 3) := by decide +kernel
theorem dX2_copyOf_15 : decode cX2_copyOf 15 = .ok (.aload_n 0, 1) := by decide +kernel
theorem dX2_copyOf_16 : decode cX2_copyOf 16 = .ok (.aload_n 1, 1) := by decide +kernel
theorem dX2_copyOf_17 : decode cX2_copyOf 17 = .ok (.getfield 15, 3) := by decide +kernel
theorem dX2_copyOf_20 : decode cX2_copyOf 20 = .ok (.putfield 15, 3) := by decide +kernel
theorem dX2_copyOf_23 : decode cX2_copyOf 23 = .ok (.return_, 1) := by decide +kernel
theorem dX2_add_0 : decode cX2_add 0 = .ok (.aload_n 0, 1) := by decide +kernel
theorem dX2_add_1 : decode cX2_add 1 = .ok (.getfield 15, 3) := by decide +kernel
theorem dX2_add_4 : decode cX2_add 4 = .ok (.bipush 6, 2) := by decide +kernel
theorem dX2_add_6 : decode cX2_add 6 = .ok (.if_icmp .lt 5, 3) := by decide +kernel
theorem dX2_add_9 : decode cX2_add 9 = .ok (.iconst 0, 1) := by decide +kernel
theorem dX2_add_10 : decode cX2_add 10 = .ok (.ireturn, 1) := by decide +kernel
theorem dX2_add_11 : decode cX2_add 11 = .ok (.aload_n 0, 1) := by decide +kernel
theorem dX2_add_12 : decode cX2_add 12 = .ok (.getfield 15, 3) := by decide +kernel
theorem dX2_add_15 : decode cX2_add 15 = .ok (.bipush 7, 2) := by decide +kernel
theorem dX2_add_17 : decode cX2_add 17 = .ok (.imul, 1) := by decide +kernel
theorem dX2_add_18 : decode cX2_add 18 = .ok (.istore 8, 2) := by decide +kernel
theorem dX2_add_20 : decode cX2_add 20 = .ok (.aload_n 0, 1) := by decide +kernel
theorem dX2_add_21 : decode cX2_add 21 = .ok (.getfield 11, 3) := by decide +kernel
theorem dX2_add_24 : decode cX2_add 24 = .ok (.iload 8, 2) := by decide +kernel
theorem dX2_add_26 : decode cX2_add 26 = .ok (.iload_n 1, 1) := by decide +kernel
theorem dX2_add_27 : decode cX2_add 27 = .ok (.iastore, 1) := by decide +kernel
theorem dX2_add_28 : decode cX2_add 28 = .ok (.aload_n 0, 1) := by decide +kernel
theorem dX2_add_29 : decode cX2_add 29 = .ok (.getfield 11, 3) := by decide +kernel
theorem dX2_add_32 : decode cX2_add 32 = .ok (.iload 8, 2) := by decide +kernel
theorem dX2_add_34 : decode cX2_add 34 = .ok (.iconst 1, 1) := by decide +kernel
theorem dX2_add_35 : decode cX2_add 35 = .ok (.iadd, 1) := by decide +kernel
theorem dX2_add_36 : decode cX2_add 36 = .ok (.iload_n 2, 1) := by decide +kernel
theorem dX2_add_37 : decode cX2_add 37 = .ok (.iastore, 1) := by decide +kernel
theorem dX2_add_38 : decode cX2_add 38 = .ok (.aload_n 0, 1) := by decide +kernel
theorem dX2_add_39 : decode cX2_add 39 = .ok (.getfield 11, 3) := by decide +kernel
theorem dX2_add_42 : decode cX2_add 42 = .ok (.iload 8, 2) := by decide +kernel
theorem dX2_add_44 : decode cX2_add 44 = .ok (.iconst 2, 1) := by decide +kernel
theorem dX2_add_45 : decode cX2_add 45 = .ok (.iadd, 1) := by decide +kernel
theorem dX2_add_46 : decode cX2_add 46 = .ok (.iload_n 3, 1) := by decide +kernel
theorem dX2_add_47 : decode cX2_add 47 = .ok (.iastore, 1) := by decide +kernel
theorem dX2_add_48 : decode cX2_add 48 = .ok (.aload_n 0, 1) := by decide +kernel
theorem dX2_add_49 : decode cX2_add 49 = .ok (.getfield 11, 3) := by decide +kernel
theorem dX2_add_52 : decode cX2_add 52 = .ok (.iload 8, 2) := by decide +kernel
theorem dX2_add_54 : decode cX2_add 54 = .ok (.iconst 3, 1) := by decide +kernel
theorem dX2_add_55 : decode cX2_add 55 = .ok (.iadd, 1) := by decide +kernel
theorem dX2_add_56 : decode cX2_add 56 = .ok (.iload 4, 2) := by decide +kernel
theorem dX2_add_58 : decode cX2_add 58 = .ok (.iastore, 1) := by decide +kernel
theorem dX2_add_59 : decode cX2_add 59 = .ok (.aload_n 0, 1) := by decide +kernel
theorem dX2_add_60 : decode cX2_add 60 = .ok (.getfield 11, 3) := by decide +kernel
theorem dX2_add_63 : decode cX2_add 63 = .ok (.iload 8, 2) := by decide +kernel
theorem dX2_add_65 : decode cX2_add 65 = .ok (.iconst 4, 1) := by decide +kernel
theorem dX2_add_66 : decode cX2_add 66 = .ok (.iadd, 1) := by decide +kernel
theorem dX2_add_67 : decode cX2_add 67 = .ok (.iload 5, 2) := by decide +kernel
theorem dX2_add_69 : decode cX2_add 69 = .ok (.iastore, 1) := by decide +kernel
theorem dX2_add_70 : decode cX2_add 70 = .ok (.aload_n 0, 1) := by decide +kernel
theorem dX2_add_71 : decode cX2_add 71 = .ok (.getfield 11, 3) := by decide +kernel
theorem dX2_add_74 : decode cX2_add 74 = .ok (.iload 8, 2) := by decide +kernel
theorem dX2_add_76 : decode cX2_add 76 = .ok (.iconst 5, 1) := by decide +kernel
theorem dX2_add_77 : decode cX2_add 77 = .ok (.iadd, 1) := by decide +kernel
theorem dX2_add_78 : decode cX2_add 78 = .ok (.iload 6, 2) := by decide +kernel
theorem dX2_add_80 : decode cX2_add 80 = .ok (.iastore, 1) := by decide +kernel
theorem dX2_add_81 : decode cX2_add 81 = .ok (.aload_n 0, 1) := by decide +kernel
theorem dX2_add_82 : decode cX2_add 82 = .ok (.getfield 11, 3) := by decide +kernel
theorem dX2_add_85 : decode cX2_add 85 = .ok (.iload 8, 2) := by decide +kernel
theorem dX2_add_87 : decode cX2_add 87 = .ok (.bipush 6, 2) := by decide +kernel
theorem dX2_add_89 : decode cX2_add 89 = .ok (.iadd, 1) := by decide +kernel
theorem dX2_add_90 : decode cX2_add 90 = .ok (.iload 7, 2) := by decide +kernel
theorem dX2_add_92 : decode cX2_add 92 = .ok (.iastore, 1) := by decide +kernel
theorem dX2_add_93 : decode cX2_add 93 = .ok (.aload_n 0, 1) := by decide +kernel
theorem dX2_add_94 : decode cX2_add 94 = .ok (.dup, 1) := by decide +kernel
theorem dX2_add_95 : decode cX2_add 95 = .ok (.getfield 15, 3) := by decide +kernel
theorem dX2_add_98 : decode cX2_add 98 = .ok (.iconst 1, 1) := by decide +kernel
theorem dX2_add_99 : decode cX2_add 99 = .ok (.iadd, 1) := by decide +kernel
theorem dX2_add_100 : decode cX2_add 100 = .ok (.putfield 15, 3) := by decide +kernel
theorem dX2_add_103 : decode cX2_add 103 = .ok (.iconst 1, 1) := by decide +kernel
theorem dX2_add_104 : decode cX2_add 104 = .ok (.ireturn, 1) := by decide +kernel
theorem dX2_kindsOf_0 : decode cX2_kindsOf 0 = .ok (.iconst 0, 1) := by decide +kernel
theorem dX2_kindsOf_1 : decode cX2_kindsOf 1 = .ok (.istore_n 2, 1) := by decide +kernel
theorem dX2_kindsOf_2 : decode cX2_kindsOf 2 = .ok (.iconst 0, 1) := by decide +kernel
theorem dX2_kindsOf_3 : decode cX2_kindsOf 3 = .ok (.istore_n 3, 1) := by decide +kernel
theorem dX2_kindsOf_4 : decode cX2_kindsOf 4 = .ok (.iload_n 3, 1) := by decide +kernel
theorem dX2_kindsOf_5 : decode cX2_kindsOf 5 = .ok (.bipush 6, 2) := by decide +kernel
theorem dX2_kindsOf_7 : decode cX2_kindsOf 7 = .ok (.if_icmp .ge 24, 3) := by decide +kernel
theorem dX2_kindsOf_10 : decode cX2_kindsOf 10 = .ok (.aload_n 0, 1) := by decide +kernel
theorem dX2_kindsOf_11 : decode cX2_kindsOf 11 = .ok (.iload_n 1, 1) := by decide +kernel
theorem dX2_kindsOf_12 : decode cX2_kindsOf 12 = .ok (.iload_n 3, 1) := by decide +kernel
theorem dX2_kindsOf_13 : decode cX2_kindsOf 13 = .ok (.invokevirtual 25, 3) := by decide +kernel
theorem dX2_kindsOf_16 : decode cX2_kindsOf 16 = .ok (.ifCond .eq 9, 3) := by decide +kernel
theorem dX2_kindsOf_19 : decode cX2_kindsOf 19 = .ok (.iload_n 2, 1) := by decide +kernel
theorem dX2_kindsOf_20 : decode cX2_kindsOf 20 = .ok (.iconst 1, 1) := by decide +kernel
theorem dX2_kindsOf_21 : decode cX2_kindsOf 21 = .ok (.iload_n 3, 1) := by decide +kernel
theorem dX2_kindsOf_22 : decode cX2_kindsOf 22 = .ok (.ishl, 1) := by decide +kernel
theorem dX2_kindsOf_23 : decode cX2_kindsOf 23 = .ok (.ior, 1) := by decide +kernel
theorem dX2_kindsOf_24 : decode cX2_kindsOf 24 = .ok (.istore_n 2, 1) := by decide +kernel
theorem dX2_kindsOf_25 : decode cX2_kindsOf 25 = .ok (.iinc 3 1, 3) := by decide +kernel
theorem dX2_kindsOf_28 : decode cX2_kindsOf 28 = .ok (.goto (-24), 3) := by decide +kernel
theorem dX2_kindsOf_31 : decode cX2_kindsOf 31 = .ok (.iload_n 2, 1) := by decide +kernel
theorem dX2_kindsOf_32 : decode cX2_kindsOf 32 = .ok (.ireturn, 1) := by decide +kernel
theorem dX2_fits_0 : decode cX2_fits 0 = .ok (.iconst 0, 1) := by decide +kernel
theorem dX2_fits_1 : decode cX2_fits 1 = .ok (.istore_n 3, 1) := by decide +kernel
theorem dX2_fits_2 : decode cX2_fits 2 = .ok (.iload_n 3, 1) := by decide +kernel
theorem dX2_fits_3 : decode cX2_fits 3 = .ok (.aload_n 0, 1) := by decide +kernel
theorem dX2_fits_4 : decode cX2_fits 4 = .ok (.getfield 15, 3) := by decide +kernel
theorem dX2_fits_7 : decode cX2_fits 7 = .ok (.if_icmp .ge 94, 3) := by decide +kernel
theorem dX2_fits_10 : decode cX2_fits 10 = .ok (.iload_n 3, 1) := by decide +kernel
theorem dX2_fits_11 : decode cX2_fits 11 = .ok (.bipush 7, 2) := by decide +kernel
theorem dX2_fits_13 : decode cX2_fits 13 = .ok (.imul, 1) := by decide +kernel
theorem dX2_fits_14 : decode cX2_fits 14 = .ok (.istore 4, 2) := by decide +kernel
theorem dX2_fits_16 : decode cX2_fits 16 = .ok (.aload_n 0, 1) := by decide +kernel
theorem dX2_fits_17 : decode cX2_fits 17 = .ok (.getfield 11, 3) := by decide +kernel
theorem dX2_fits_20 : decode cX2_fits 20 = .ok (.iload 4, 2) := by decide +kernel
theorem dX2_fits_22 : decode cX2_fits 22 = .ok (.iaload, 1) := by decide +kernel
theorem dX2_fits_23 : decode cX2_fits 23 = .ok (.iload_n 1, 1) := by decide +kernel
theorem dX2_fits_24 : decode cX2_fits 24 = .ok (.if_icmp .ne 71, 3) := by decide +kernel
theorem dX2_fits_27 : decode cX2_fits 27 = .ok (.iload_n 2, 1) := by decide +kernel
theorem dX2_fits_28 : decode cX2_fits 28 = .ok (.aload_n 0, 1) := by decide +kernel
theorem dX2_fits_29 : decode cX2_fits 29 = .ok (.getfield 11, 3) := by decide +kernel
theorem dX2_fits_32 : decode cX2_fits 32 = .ok (.iload 4, 2) := by decide +kernel
theorem dX2_fits_34 : decode cX2_fits 34 = .ok (.iconst 1, 1) := by decide +kernel
theorem dX2_fits_35 : decode cX2_fits 35 = .ok (.iadd, 1) := by decide +kernel
theorem dX2_fits_36 : decode cX2_fits 36 = .ok (.iaload, 1) := by decide +kernel
theorem dX2_fits_37 : decode cX2_fits 37 = .ok (.aload_n 0, 1) := by decide +kernel
theorem dX2_fits_38 : decode cX2_fits 38 = .ok (.getfield 11, 3) := by decide +kernel
theorem dX2_fits_41 : decode cX2_fits 41 = .ok (.iload 4, 2) := by decide +kernel
theorem dX2_fits_43 : decode cX2_fits 43 = .ok (.iconst 2, 1) := by decide +kernel
theorem dX2_fits_44 : decode cX2_fits 44 = .ok (.iadd, 1) := by decide +kernel
theorem dX2_fits_45 : decode cX2_fits 45 = .ok (.iaload, 1) := by decide +kernel
theorem dX2_fits_46 : decode cX2_fits 46 = .ok (.aload_n 0, 1) := by decide +kernel
theorem dX2_fits_47 : decode cX2_fits 47 = .ok (.getfield 11, 3) := by decide +kernel
theorem dX2_fits_50 : decode cX2_fits 50 = .ok (.iload 4, 2) := by decide +kernel
theorem dX2_fits_52 : decode cX2_fits 52 = .ok (.iconst 3, 1) := by decide +kernel
theorem dX2_fits_53 : decode cX2_fits 53 = .ok (.iadd, 1) := by decide +kernel
theorem dX2_fits_54 : decode cX2_fits 54 = .ok (.iaload, 1) := by decide +kernel
theorem dX2_fits_55 : decode cX2_fits 55 = .ok (.aload_n 0, 1) := by decide +kernel
theorem dX2_fits_56 : decode cX2_fits 56 = .ok (.getfield 11, 3) := by decide +kernel
theorem dX2_fits_59 : decode cX2_fits 59 = .ok (.iload 4, 2) := by decide +kernel
theorem dX2_fits_61 : decode cX2_fits 61 = .ok (.iconst 4, 1) := by decide +kernel
theorem dX2_fits_62 : decode cX2_fits 62 = .ok (.iadd, 1) := by decide +kernel
theorem dX2_fits_63 : decode cX2_fits 63 = .ok (.iaload, 1) := by decide +kernel
theorem dX2_fits_64 : decode cX2_fits 64 = .ok (.aload_n 0, 1) := by decide +kernel
theorem dX2_fits_65 : decode cX2_fits 65 = .ok (.getfield 11, 3) := by decide +kernel
theorem dX2_fits_68 : decode cX2_fits 68 = .ok (.iload 4, 2) := by decide +kernel
theorem dX2_fits_70 : decode cX2_fits 70 = .ok (.iconst 5, 1) := by decide +kernel
theorem dX2_fits_71 : decode cX2_fits 71 = .ok (.iadd, 1) := by decide +kernel
theorem dX2_fits_72 : decode cX2_fits 72 = .ok (.iaload, 1) := by decide +kernel
theorem dX2_fits_73 : decode cX2_fits 73 = .ok (.invokestatic 29, 3) := by decide +kernel
theorem dX2_fits_76 : decode cX2_fits 76 = .ok (.istore 5, 2) := by decide +kernel
theorem dX2_fits_78 : decode cX2_fits 78 = .ok (.iload 5, 2) := by decide +kernel
theorem dX2_fits_80 : decode cX2_fits 80 = .ok (.aload_n 0, 1) := by decide +kernel
theorem dX2_fits_81 : decode cX2_fits 81 = .ok (.getfield 11, 3) := by decide +kernel
theorem dX2_fits_84 : decode cX2_fits 84 = .ok (.iload 4, 2) := by decide +kernel
theorem dX2_fits_86 : decode cX2_fits 86 = .ok (.bipush 6, 2) := by decide +kernel
theorem dX2_fits_88 : decode cX2_fits 88 = .ok (.iadd, 1) := by decide +kernel
theorem dX2_fits_89 : decode cX2_fits 89 = .ok (.iaload, 1) := by decide +kernel
theorem dX2_fits_90 : decode cX2_fits 90 = .ok (.if_icmp .eq 5, 3) := by decide +kernel
theorem dX2_fits_93 : decode cX2_fits 93 = .ok (.iconst 0, 1) := by decide +kernel
theorem dX2_fits_94 : decode cX2_fits 94 = .ok (.ireturn, 1) := by decide +kernel
theorem dX2_fits_95 : decode cX2_fits 95 = .ok (.iinc 3 1, 3) := by decide +kernel
theorem dX2_fits_98 : decode cX2_fits 98 = .ok (.goto (-96), 3) := by decide +kernel
theorem dX2_fits_101 : decode cX2_fits 101 = .ok (.iconst 1, 1) := by decide +kernel
theorem dX2_fits_102 : decode cX2_fits 102 = .ok (.ireturn, 1) := by decide +kernel
theorem dX2_addTo_0 : decode cX2_addTo 0 = .ok (.iconst 0, 1) := by decide +kernel
theorem dX2_addTo_1 : decode cX2_addTo 1 = .ok (.istore_n 3, 1) := by decide +kernel
theorem dX2_addTo_2 : decode cX2_addTo 2 = .ok (.iload_n 3, 1) := by decide +kernel
theorem dX2_addTo_3 : decode cX2_addTo 3 = .ok (.aload_n 0, 1) := by decide +kernel
theorem dX2_addTo_4 : decode cX2_addTo 4 = .ok (.getfield 15, 3) := by decide +kernel
theorem dX2_addTo_7 : decode cX2_addTo 7 = .ok (.bipush 7, 2) := by decide +kernel
theorem dX2_addTo_9 : decode cX2_addTo 9 = .ok (.imul, 1) := by decide +kernel
theorem dX2_addTo_10 : decode cX2_addTo 10 = .ok (.if_icmp .ge 23, 3) := by decide +kernel
theorem dX2_addTo_13 : decode cX2_addTo 13 = .ok (.ldc2_w 35, 3) := by decide +kernel
theorem dX2_addTo_16 : decode cX2_addTo 16 = .ok (.lload_n 1, 1) := by decide +kernel
theorem dX2_addTo_17 : decode cX2_addTo 17 = .ok (.lmul, 1) := by decide +kernel
theorem dX2_addTo_18 : decode cX2_addTo 18 = .ok (.aload_n 0, 1) := by decide +kernel
theorem dX2_addTo_19 : decode cX2_addTo 19 = .ok (.getfield 11, 3) := by decide +kernel
theorem dX2_addTo_22 : decode cX2_addTo 22 = .ok (.iload_n 3, 1) := by decide +kernel
theorem dX2_addTo_23 : decode cX2_addTo 23 = .ok (.iaload, 1) := by decide +kernel
theorem dX2_addTo_24 : decode cX2_addTo 24 = .ok (.i2l, 1) := by decide +kernel
theorem dX2_addTo_25 : decode cX2_addTo 25 = .ok (.ladd, 1) := by decide +kernel
theorem dX2_addTo_26 : decode cX2_addTo 26 = .ok (.lstore_n 1, 1) := by decide +kernel
theorem dX2_addTo_27 : decode cX2_addTo 27 = .ok (.iinc 3 1, 3) := by decide +kernel
theorem dX2_addTo_30 : decode cX2_addTo 30 = .ok (.goto (-28), 3) := by decide +kernel
theorem dX2_addTo_33 : decode cX2_addTo 33 = .ok (.lload_n 1, 1) := by decide +kernel
theorem dX2_addTo_34 : decode cX2_addTo 34 = .ok (.lreturn, 1) := by decide +kernel
theorem dX3_init_0 : decode cX3_init 0 = .ok (.aload_n 0, 1) := by decide +kernel
theorem dX3_init_1 : decode cX3_init 1 = .ok (.invokespecial 3, 3) := by decide +kernel
theorem dX3_init_4 : decode cX3_init 4 = .ok (.aload_n 0, 1) := by decide +kernel
theorem dX3_init_5 : decode cX3_init 5 = .ok (.new 9, 3) := by decide +kernel
theorem dX3_init_8 : decode cX3_init 8 = .ok (.dup, 1) := by decide +kernel
theorem dX3_init_9 : decode cX3_init 9 = .ok (.invokespecial 11, 3) := by decide +kernel
theorem dX3_init_12 : decode cX3_init 12 = .ok (.putfield 12, 3) := by decide +kernel
theorem dX3_init_15 : decode cX3_init 15 = .ok (.aload_n 0, 1) := by decide +kernel
theorem dX3_init_16 : decode cX3_init 16 = .ok (.new 18, 3) := by decide +kernel
theorem dX3_init_19 : decode cX3_init 19 = .ok (.dup, 1) := by decide +kernel
theorem dX3_init_20 : decode cX3_init 20 = .ok (.invokespecial 20, 3) := by decide +kernel
theorem dX3_init_23 : decode cX3_init 23 = .ok (.putfield 21, 3) := by decide +kernel
theorem dX3_init_26 : decode cX3_init 26 = .ok (.aload_n 0, 1) := by decide +kernel
theorem dX3_init_27 : decode cX3_init 27 = .ok (.bipush 8, 2) := by decide +kernel
theorem dX3_init_29 : decode cX3_init 29 = .ok (.anewarray 9, 3) := by decide +kernel
theorem dX3_init_32 : decode cX3_init 32 = .ok (.putfield 25, 3) := by decide +kernel
theorem dX3_init_35 : decode cX3_init 35 = .ok (.aload_n 0, 1) := by decide +kernel
theorem dX3_init_36 : decode cX3_init 36 = .ok (.iconst 0, 1) := by decide +kernel
theorem dX3_init_37 : decode cX3_init 37 = .ok (.putfield 29, 3) := by decide +kernel
theorem dX3_init_40 : decode cX3_init 40 = .ok (.iconst 0, 1) := by decide +kernel
theorem dX3_init_41 : decode cX3_init 41 = .ok (.istore_n 1, 1) := by decide +kernel
theorem dX3_init_42 : decode cX3_init 42 = .ok (.iload_n 1, 1) := by decide +kernel
theorem dX3_init_43 : decode cX3_init 43 = .ok (.bipush 8, 2) := by decide +kernel
theorem dX3_init_45 : decode cX3_init 45 = .ok (.if_icmp .ge 22, 3) := by decide +kernel
theorem dX3_init_48 : decode cX3_init 48 = .ok (.aload_n 0, 1) := by decide +kernel
theorem dX3_init_49 : decode cX3_init 49 = .ok (.getfield 25, 3) := by decide +kernel
theorem dX3_init_52 : decode cX3_init 52 = .ok (.iload_n 1, 1) := by decide +kernel
theorem dX3_init_53 : decode cX3_init 53 = .ok (.new 9, 3) := by decide +kernel
theorem dX3_init_56 : decode cX3_init 56 = .ok (.dup, 1) := by decide +kernel
theorem dX3_init_57 : decode cX3_init 57 = .ok (.invokespecial 11, 3) := by decide +kernel
theorem dX3_init_60 : decode cX3_init 60 = .ok (.aastore, 1) := by decide +kernel
theorem dX3_init_61 : decode cX3_init 61 = .ok (.iinc 1 1, 3) := by decide +kernel
theorem dX3_init_64 : decode cX3_init 64 = .ok (.goto (-22), 3) := by decide +kernel
theorem dX3_init_67 : decode cX3_init 67 = .ok (.return_, 1) := by decide +kernel
theorem dX3_restart_0 : decode cX3_restart 0 = .ok (.aload_n 0, 1) := by decide +kernel
theorem dX3_restart_1 : decode cX3_restart 1 = .ok (.getfield 12, 3) := by decide +kernel
theorem dX3_restart_4 : decode cX3_restart 4 = .ok (.invokevirtual 33, 3) := by decide +kernel
theorem dX3_restart_7 : decode cX3_restart 7 = .ok (.aload_n 0, 1) := by decide +kernel
theorem dX3_restart_8 : decode cX3_restart 8 = .ok (.getfield 21, 3) := by decide +kernel
theorem dX3_restart_11 : decode cX3_restart 11 = .ok (.iconst 0, 1) := by decide +kernel
theorem dX3_restart_12 : decode cX3_restart 12 = .ok (.putfield 36, 3) := by decide +kernel
theorem dX3_restart_15 : decode cX3_restart 15 = .ok (.aload_n 0, 1) := by decide +kernel
theorem dX3_restart_16 : decode cX3_restart 16 = .ok (.iconst 0, 1) := by decide +kernel
theorem dX3_restart_17 : decode cX3_restart 17 = .ok (.putfield 29, 3) := by decide +kernel
theorem dX3_restart_20 : decode cX3_restart 20 = .ok (.return_, 1) := by decide +kernel
theorem dX3_copyOf_0 : decode cX3_copyOf 0 = .ok (.aload_n 0, 1) := by decide +kernel
theorem dX3_copyOf_1 : decode cX3_copyOf 1 = .ok (.getfield 12, 3) := by decide +kernel
theorem dX3_copyOf_4 : decode cX3_copyOf 4 = .ok (.aload_n 1, 1) := by decide +kernel
theorem dX3_copyOf_5 : decode cX3_copyOf 5 = .ok (.getfield 12, 3) := by decide +kernel
theorem dX3_copyOf_8 : decode cX3_copyOf 8 = .ok (.invokevirtual 39, 3) := by decide +kernel
theorem dX3_copyOf_11 : decode cX3_copyOf 11 = .ok (.aload_n 0, 1) := by decide +kernel
theorem dX3_copyOf_12 : decode cX3_copyOf 12 = .ok (.getfield 21, 3) := by decide +kernel
theorem dX3_copyOf_15 : decode cX3_copyOf 15 = .ok (.aload_n 1, 1) := by decide +kernel
theorem dX3_copyOf_16 : decode cX3_copyOf 16 = .ok (.getfield 21, 3) := by decide +kernel
theorem dX3_copyOf_19 : decode cX3_copyOf 19 = .ok (.invokevirtual 43, 3) := by decide +kernel
theorem dX3_copyOf_22 : decode cX3_copyOf 22 = .ok (.aload_n 0, 1) := by decide +kernel
theorem dX3_copyOf_23 : decode cX3_copyOf 23 = .ok (.aload_n 1, 1) := by decide +kernel
theorem dX3_copyOf_24 : decode cX3_copyOf 24 = .ok (.getfield 29, 3) := by decide +kernel
theorem dX3_copyOf_27 : decode cX3_copyOf 27 = .ok (.putfield 29, 3) := by decide +kernel
theorem dX3_copyOf_30 : decode cX3_copyOf 30 = .ok (.iconst 0, 1) := by decide +kernel
theorem dX3_copyOf_31 : decode cX3_copyOf 31 = .ok (.istore_n 2, 1) := by decide +kernel
theorem dX3_copyOf_32 : decode cX3_copyOf 32 = .ok (.iload_n 2, 1) := by decide +kernel
theorem dX3_copyOf_33 : decode cX3_copyOf 33 = .ok (.aload_n 0, 1) := by decide +kernel
theorem dX3_copyOf_34 : decode cX3_copyOf 34 = .ok (.getfield 29, 3) := by decide +kernel
theorem dX3_copyOf_37 : decode cX3_copyOf 37 = .ok (.if_icmp .ge 30, 3) := by decide +kernel
theorem dX3_copyOf_40 : decode cX3_copyOf 40 = .ok (.iload_n 2, 1) := by decide +kernel
theorem dX3_copyOf_41 : decode cX3_copyOf 41 = .ok (.bipush 8, 2) := by decide +kernel
theorem dX3_copyOf_43 : decode cX3_copyOf 43 = .ok (.if_icmp .ge 24, 3) := by decide +kernel
theorem dX3_copyOf_46 : decode cX3_copyOf 46 = .ok (.aload_n 0, 1) := by decide +kernel
theorem dX3_copyOf_47 : decode cX3_copyOf 47 = .ok (.getfield 25, 3) := by decide +kernel
theorem dX3_copyOf_50 : decode cX3_copyOf 50 = .ok (.iload_n 2, 1) := by decide +kernel
theorem dX3_copyOf_51 : decode cX3_copyOf 51 = .ok (.aaload, 1) := by decide +kernel
theorem dX3_copyOf_52 : decode cX3_copyOf 52 = .ok (.aload_n 1, 1) := by decide +kernel
theorem dX3_copyOf_53 : decode cX3_copyOf 53 = .ok (.getfield 25, 3) := by decide +kernel
theorem dX3_copyOf_56 : decode cX3_copyOf 56 = .ok (.iload_n 2, 1) := by decide +kernel
theorem dX3_copyOf_57 : decode cX3_copyOf 57 = .ok (.aaload, 1) := by decide +kernel
theorem dX3_copyOf_58 : decode cX3_copyOf 58 = .ok (.invokevirtual 39, 3) := by decide +kernel
theorem dX3_copyOf_61 : decode cX3_copyOf 61 = .ok (.iinc 2 1, 3) := by decide +kernel
theorem dX3_copyOf_64 : decode cX3_copyOf 64 = .ok (.goto (-32), 3) := by decide +kernel
theorem dX3_copyOf_67 : decode cX3_copyOf 67 = .ok (.return_, 1) := by decide +kernel
theorem dX3_keep_0 : decode cX3_keep 0 = .ok (.aload_n 0, 1) := by decide +kernel
theorem dX3_keep_1 : decode cX3_keep 1 = .ok (.getfield 29, 3) := by decide +kernel
theorem dX3_keep_4 : decode cX3_keep 4 = .ok (.bipush 8, 2) := by decide +kernel
theorem dX3_keep_6 : decode cX3_keep 6 = .ok (.if_icmp .lt 52, 3) := by decide +kernel
theorem dX3_keep_9 : decode cX3_keep 9 = .ok (.aload_n 0, 1) := by decide +kernel
theorem dX3_keep_10 : decode cX3_keep 10 = .ok (.getfield 25, 3) := by decide +kernel
theorem dX3_keep_13 : decode cX3_keep 13 = .ok (.iconst 0, 1) := by decide +kernel
theorem dX3_keep_14 : decode cX3_keep 14 = .ok (.aaload, 1) := by decide +kernel
theorem dX3_keep_15 : decode cX3_keep 15 = .ok (.astore_n 1, 1) := by decide +kernel
theorem dX3_keep_16 : decode cX3_keep 16 = .ok (.iconst 1, 1) := by decide +kernel
theorem dX3_keep_17 : decode cX3_keep 17 = .ok (.istore_n 2, 1) := by decide +kernel
theorem dX3_keep_18 : decode cX3_keep 18 = .ok (.iload_n 2, 1) := by decide +kernel
theorem dX3_keep_19 : decode cX3_keep 19 = .ok (.bipush 8, 2) := by decide +kernel
theorem dX3_keep_21 : decode cX3_keep 21 = .ok (.if_icmp .ge 23, 3) := by decide +kernel
theorem dX3_keep_24 : decode cX3_keep 24 = .ok (.aload_n 0, 1) := by decide +kernel
theorem dX3_keep_25 : decode cX3_keep 25 = .ok (.getfield 25, 3) := by decide +kernel
theorem dX3_keep_28 : decode cX3_keep 28 = .ok (.iload_n 2, 1) := by decide +kernel
theorem dX3_keep_29 : decode cX3_keep 29 = .ok (.iconst 1, 1) := by decide +kernel
theorem dX3_keep_30 : decode cX3_keep 30 = .ok (.isub, 1) := by decide +kernel
theorem dX3_keep_31 : decode cX3_keep 31 = .ok (.aload_n 0, 1) := by decide +kernel
theorem dX3_keep_32 : decode cX3_keep 32 = .ok (.getfield 25, 3) := by decide +kernel
theorem dX3_keep_35 : decode cX3_keep 35 = .ok (.iload_n 2, 1) := by decide +kernel
theorem dX3_keep_36 : decode cX3_keep 36 = .ok (.aaload, 1) := by decide +kernel
theorem dX3_keep_37 : decode cX3_keep 37 = .ok (.aastore, 1) := by decide +kernel
theorem dX3_keep_38 : decode cX3_keep 38 = .ok (.iinc 2 1, 3) := by decide +kernel
theorem dX3_keep_41 : decode cX3_keep 41 = .ok (.goto (-23), 3) := by decide +kernel
theorem dX3_keep_44 : decode cX3_keep 44 = .ok (.aload_n 0, 1) := by decide +kernel
theorem dX3_keep_45 : decode cX3_keep 45 = .ok (.getfield 25, 3) := by decide +kernel
theorem dX3_keep_48 : decode cX3_keep 48 = .ok (.bipush 7, 2) := by decide +kernel
theorem dX3_keep_50 : decode cX3_keep 50 = .ok (.aload_n 1, 1) := by decide +kernel
theorem dX3_keep_51 : decode cX3_keep 51 = .ok (.aastore, 1) := by decide +kernel
theorem dX3_keep_52 : decode cX3_keep 52 = .ok (.aload_n 0, 1) := by decide +kernel
theorem dX3_keep_53 : decode cX3_keep 53 = .ok (.bipush 7, 2) := by decide +kernel
theorem dX3_keep_55 : decode cX3_keep 55 = .ok (.putfield 29, 3) := by decide +kernel
theorem dX3_keep_58 : decode cX3_keep 58 = .ok (.aload_n 0, 1) := by decide +kernel
theorem dX3_keep_59 : decode cX3_keep 59 = .ok (.getfield 25, 3) := by decide +kernel
theorem dX3_keep_62 : decode cX3_keep 62 = .ok (.aload_n 0, 1) := by decide +kernel
theorem dX3_keep_63 : decode cX3_keep 63 = .ok (.getfield 29, 3) := by decide +kernel
theorem dX3_keep_66 : decode cX3_keep 66 = .ok (.aaload, 1) := by decide +kernel
theorem dX3_keep_67 : decode cX3_keep 67 = .ok (.aload_n 0, 1) := by decide +kernel
theorem dX3_keep_68 : decode cX3_keep 68 = .ok (.getfield 12, 3) := by decide +kernel
theorem dX3_keep_71 : decode cX3_keep 71 = .ok (.invokevirtual 39, 3) := by decide +kernel
theorem dX3_keep_74 : decode cX3_keep 74 = .ok (.aload_n 0, 1) := by decide +kernel
theorem dX3_keep_75 : decode cX3_keep 75 = .ok (.dup, 1) := by decide +kernel
theorem dX3_keep_76 : decode cX3_keep 76 = .ok (.getfield 29, 3) := by decide +kernel
theorem dX3_keep_79 : decode cX3_keep 79 = .ok (.iconst 1, 1) := by decide +kernel
theorem dX3_keep_80 : decode cX3_keep 80 = .ok (.iadd, 1) := by decide +kernel
theorem dX3_keep_81 : decode cX3_keep 81 = .ok (.putfield 29, 3) := by decide +kernel
theorem dX3_keep_84 : decode cX3_keep 84 = .ok (.return_, 1) := by decide +kernel
theorem dX3_takeBack_0 : decode cX3_takeBack 0 = .ok (.aload_n 0, 1) := by decide +kernel
theorem dX3_takeBack_1 : decode cX3_takeBack 1 = .ok (.getfield 29, 3) := by decide +kernel
theorem dX3_takeBack_4 : decode cX3_takeBack 4 = .ok (.ifCond .gt 5, 3) := by decide +kernel
theorem dX3_takeBack_7 : decode cX3_takeBack 7 = .ok (.iconst 0, 1) := by decide +kernel
theorem dX3_takeBack_8 : decode cX3_takeBack 8 = .ok (.ireturn, 1) := by decide +kernel
theorem dX3_takeBack_9 : decode cX3_takeBack 9 = .ok (.aload_n 0, 1) := by decide +kernel
theorem dX3_takeBack_10 : decode cX3_takeBack 10 = .ok (.dup, 1) := by decide +kernel
theorem dX3_takeBack_11 : decode cX3_takeBack 11 = .ok (.getfield 29, 3) := by decide +kernel
theorem dX3_takeBack_14 : decode cX3_takeBack 14 = .ok (.iconst 1, 1) := by decide +kernel
theorem dX3_takeBack_15 : decode cX3_takeBack 15 = .ok (.isub, 1) := by decide +kernel
theorem dX3_takeBack_16 : decode cX3_takeBack 16 = .ok (.putfield 29, 3) := by decide +kernel
theorem dX3_takeBack_19 : decode cX3_takeBack 19 = .ok (.aload_n 0, 1) := by decide +kernel
theorem dX3_takeBack_20 : decode cX3_takeBack 20 = .ok (.getfield 12, 3) := by decide +kernel
theorem dX3_takeBack_23 : decode cX3_takeBack 23 = .ok (.aload_n 0, 1) := by decide +kernel
theorem dX3_takeBack_24 : decode cX3_takeBack 24 = .ok (.getfield 25, 3) := by decide +kernel
theorem dX3_takeBack_27 : decode cX3_takeBack 27 = .ok (.aload_n 0, 1) := by decide +kernel
theorem dX3_takeBack_28 : decode cX3_takeBack 28 = .ok (.getfield 29, 3) := by decide +kernel
theorem dX3_takeBack_31 : decode cX3_takeBack 31 = .ok (.aaload, 1) := by decide +kernel
theorem dX3_takeBack_32 : decode cX3_takeBack 32 = .ok (.invokevirtual 39, 3) := by decide +kernel
theorem dX3_takeBack_35 : decode cX3_takeBack 35 = .ok (.iconst 1, 1) := by decide +kernel
theorem dX3_takeBack_36 : decode cX3_takeBack 36 = .ok (.ireturn, 1) := by decide +kernel
theorem dX4_init_0 : decode cX4_init 0 = .ok (.aload_n 0, 1) := by decide +kernel
theorem dX4_init_1 : decode cX4_init 1 = .ok (.invokespecial 3, 3) := by decide +kernel
theorem dX4_init_4 : decode cX4_init 4 = .ok (.aload_n 0, 1) := by decide +kernel
theorem dX4_init_5 : decode cX4_init 5 = .ok (.sipush 150, 3) := by decide +kernel
theorem dX4_init_8 : decode cX4_init 8 = .ok (.newarray .byte, 2) := by decide +kernel
theorem dX4_init_10 : decode cX4_init 10 = .ok (.putfield 9, 3) := by decide +kernel
theorem dX4_init_13 : decode cX4_init 13 = .ok (.aload_n 0, 1) := by decide +kernel
theorem dX4_init_14 : decode cX4_init 14 = .ok (.iconst 0, 1) := by decide +kernel
theorem dX4_init_15 : decode cX4_init 15 = .ok (.putfield 15, 3) := by decide +kernel
theorem dX4_init_18 : decode cX4_init 18 = .ok (.aload_n 0, 1) := by decide +kernel
theorem dX4_init_19 : decode cX4_init 19 = .ok (.new 19, 3) := by decide +kernel
theorem dX4_init_22 : decode cX4_init 22 = .ok (.dup, 1) := by decide +kernel
theorem dX4_init_23 : decode cX4_init 23 = .ok (.invokespecial 21, 3) := by decide +kernel
theorem dX4_init_26 : decode cX4_init 26 = .ok (.putfield 22, 3) := by decide +kernel
theorem dX4_init_29 : decode cX4_init 29 = .ok (.aload_n 0, 1) := by decide +kernel
theorem dX4_init_30 : decode cX4_init 30 = .ok (.iconst 0, 1) := by decide +kernel
theorem dX4_init_31 : decode cX4_init 31 = .ok (.putfield 26, 3) := by decide +kernel
theorem dX4_init_34 : decode cX4_init 34 = .ok (.aload_n 0, 1) := by decide +kernel
theorem dX4_init_35 : decode cX4_init 35 = .ok (.iconst 0, 1) := by decide +kernel
theorem dX4_init_36 : decode cX4_init 36 = .ok (.putfield 29, 3) := by decide +kernel
theorem dX4_init_39 : decode cX4_init 39 = .ok (.aload_n 0, 1) := by decide +kernel
theorem dX4_init_40 : decode cX4_init 40 = .ok (.iconst 0, 1) := by decide +kernel
theorem dX4_init_41 : decode cX4_init 41 = .ok (.putfield 32, 3) := by decide +kernel
theorem dX4_init_44 : decode cX4_init 44 = .ok (.aload_n 0, 1) := by decide +kernel
theorem dX4_init_45 : decode cX4_init 45 = .ok (.iconst 0, 1) := by decide +kernel
theorem dX4_init_46 : decode cX4_init 46 = .ok (.putfield 35, 3) := by decide +kernel
theorem dX4_init_49 : decode cX4_init 49 = .ok (.aload_n 0, 1) := by decide +kernel
theorem dX4_init_50 : decode cX4_init 50 = .ok (.iconst 0, 1) := by decide +kernel
theorem dX4_init_51 : decode cX4_init 51 = .ok (.putfield 38, 3) := by decide +kernel
