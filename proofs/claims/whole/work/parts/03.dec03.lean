theorem dX7_towards_79 : decode cX7_towards 79 = .ok (.iconst 1, 1) := by decide +kernel
theorem dX7_towards_80 : decode cX7_towards 80 = .ok (.goto 4, 3) := by decide +kernel
theorem dX7_towards_83 : decode cX7_towards 83 = .ok (.iconst 0, 1) := by decide +kernel
theorem dX7_towards_84 : decode cX7_towards 84 = .ok (.istore 7, 2) := by decide +kernel
theorem dX7_towards_86 : decode cX7_towards 86 = .ok (.iload 7, 2) := by decide +kernel
theorem dX7_towards_88 : decode cX7_towards 88 = .ok (.ifCond .eq 17, 3) := by decide +kernel
theorem dX7_towards_91 : decode cX7_towards 91 = .ok (.iload 5, 2) := by decide +kernel
theorem dX7_towards_93 : decode cX7_towards 93 = .ok (.iload_n 3, 1) := by decide +kernel
theorem dX7_towards_94 : decode cX7_towards 94 = .ok (.if_icmp .le 7, 3) := by decide +kernel
theorem dX7_towards_97 : decode cX7_towards 97 = .ok (.iconst 0, 1) := by decide +kernel
theorem dX7_towards_98 : decode cX7_towards 98 = .ok (.goto 19, 3) := by decide +kernel
theorem dX7_towards_101 : decode cX7_towards 101 = .ok (.iconst 2, 1) := by decide +kernel
theorem dX7_towards_102 : decode cX7_towards 102 = .ok (.goto 15, 3) := by decide +kernel
theorem dX7_towards_105 : decode cX7_towards 105 = .ok (.iload 6, 2) := by decide +kernel
theorem dX7_towards_107 : decode cX7_towards 107 = .ok (.iload 4, 2) := by decide +kernel
theorem dX7_towards_109 : decode cX7_towards 109 = .ok (.if_icmp .le 7, 3) := by decide +kernel
theorem dX7_towards_112 : decode cX7_towards 112 = .ok (.iconst 1, 1) := by decide +kernel
theorem dX7_towards_113 : decode cX7_towards 113 = .ok (.goto 4, 3) := by decide +kernel
theorem dX7_towards_116 : decode cX7_towards 116 = .ok (.iconst 3, 1) := by decide +kernel
theorem dX7_towards_117 : decode cX7_towards 117 = .ok (.ireturn, 1) := by decide +kernel
theorem dX7_wayAs_0 : decode cX7_wayAs 0 = .ok (.iload_n 3, 1) := by decide +kernel
theorem dX7_wayAs_1 : decode cX7_wayAs 1 = .ok (.iconst 1, 1) := by decide +kernel
theorem dX7_wayAs_2 : decode cX7_wayAs 2 = .ok (.if_icmp .ne 10, 3) := by decide +kernel
theorem dX7_wayAs_5 : decode cX7_wayAs 5 = .ok (.iload_n 2, 1) := by decide +kernel
theorem dX7_wayAs_6 : decode cX7_wayAs 6 = .ok (.invokestatic 107, 3) := by decide +kernel
theorem dX7_wayAs_9 : decode cX7_wayAs 9 = .ok (.goto 4, 3) := by decide +kernel
theorem dX7_wayAs_12 : decode cX7_wayAs 12 = .ok (.iload_n 2, 1) := by decide +kernel
theorem dX7_wayAs_13 : decode cX7_wayAs 13 = .ok (.istore 6, 2) := by decide +kernel
theorem dX7_wayAs_15 : decode cX7_wayAs 15 = .ok (.iload 4, 2) := by decide +kernel
theorem dX7_wayAs_17 : decode cX7_wayAs 17 = .ok (.iconst (-1), 1) := by decide +kernel
theorem dX7_wayAs_18 : decode cX7_wayAs 18 = .ok (.if_icmp .ne 8, 3) := by decide +kernel
theorem dX7_wayAs_21 : decode cX7_wayAs 21 = .ok (.iload 6, 2) := by decide +kernel
theorem dX7_wayAs_23 : decode cX7_wayAs 23 = .ok (.goto 5, 3) := by decide +kernel
theorem dX7_wayAs_26 : decode cX7_wayAs 26 = .ok (.iload 4, 2) := by decide +kernel
theorem dX7_wayAs_28 : decode cX7_wayAs 28 = .ok (.istore 7, 2) := by decide +kernel
theorem dX7_wayAs_30 : decode cX7_wayAs 30 = .ok (.iload_n 3, 1) := by decide +kernel
theorem dX7_wayAs_31 : decode cX7_wayAs 31 = .ok (.iconst 2, 1) := by decide +kernel
theorem dX7_wayAs_32 : decode cX7_wayAs 32 = .ok (.if_icmp .ne 10, 3) := by decide +kernel
theorem dX7_wayAs_35 : decode cX7_wayAs 35 = .ok (.iload_n 2, 1) := by decide +kernel
theorem dX7_wayAs_36 : decode cX7_wayAs 36 = .ok (.invokestatic 107, 3) := by decide +kernel
theorem dX7_wayAs_39 : decode cX7_wayAs 39 = .ok (.goto 5, 3) := by decide +kernel
theorem dX7_wayAs_42 : decode cX7_wayAs 42 = .ok (.iload 6, 2) := by decide +kernel
theorem dX7_wayAs_44 : decode cX7_wayAs 44 = .ok (.istore 8, 2) := by decide +kernel
theorem dX7_wayAs_46 : decode cX7_wayAs 46 = .ok (.iload_n 0, 1) := by decide +kernel
theorem dX7_wayAs_47 : decode cX7_wayAs 47 = .ok (.tableswitch 83 1 5 #[33, 36, 39, 53, 70], 33) := by decide +kernel
theorem dX7_wayAs_80 : decode cX7_wayAs 80 = .ok (.iload 7, 2) := by decide +kernel
theorem dX7_wayAs_82 : decode cX7_wayAs 82 = .ok (.ireturn, 1) := by decide +kernel
theorem dX7_wayAs_83 : decode cX7_wayAs 83 = .ok (.iload 8, 2) := by decide +kernel
theorem dX7_wayAs_85 : decode cX7_wayAs 85 = .ok (.ireturn, 1) := by decide +kernel
theorem dX7_wayAs_86 : decode cX7_wayAs 86 = .ok (.iload 5, 2) := by decide +kernel
theorem dX7_wayAs_88 : decode cX7_wayAs 88 = .ok (.iconst (-1), 1) := by decide +kernel
theorem dX7_wayAs_89 : decode cX7_wayAs 89 = .ok (.if_icmp .ne 8, 3) := by decide +kernel
theorem dX7_wayAs_92 : decode cX7_wayAs 92 = .ok (.iload 7, 2) := by decide +kernel
theorem dX7_wayAs_94 : decode cX7_wayAs 94 = .ok (.goto 5, 3) := by decide +kernel
theorem dX7_wayAs_97 : decode cX7_wayAs 97 = .ok (.iload 5, 2) := by decide +kernel
theorem dX7_wayAs_99 : decode cX7_wayAs 99 = .ok (.ireturn, 1) := by decide +kernel
theorem dX7_wayAs_100 : decode cX7_wayAs 100 = .ok (.iload_n 1, 1) := by decide +kernel
theorem dX7_wayAs_101 : decode cX7_wayAs 101 = .ok (.iconst 2, 1) := by decide +kernel
theorem dX7_wayAs_102 : decode cX7_wayAs 102 = .ok (.irem, 1) := by decide +kernel
theorem dX7_wayAs_103 : decode cX7_wayAs 103 = .ok (.iconst 1, 1) := by decide +kernel
theorem dX7_wayAs_104 : decode cX7_wayAs 104 = .ok (.if_icmp .ne 10, 3) := by decide +kernel
theorem dX7_wayAs_107 : decode cX7_wayAs 107 = .ok (.iload_n 2, 1) := by decide +kernel
theorem dX7_wayAs_108 : decode cX7_wayAs 108 = .ok (.invokestatic 107, 3) := by decide +kernel
theorem dX7_wayAs_111 : decode cX7_wayAs 111 = .ok (.goto 5, 3) := by decide +kernel
theorem dX7_wayAs_114 : decode cX7_wayAs 114 = .ok (.iload 6, 2) := by decide +kernel
theorem dX7_wayAs_116 : decode cX7_wayAs 116 = .ok (.ireturn, 1) := by decide +kernel
theorem dX7_wayAs_117 : decode cX7_wayAs 117 = .ok (.iload_n 1, 1) := by decide +kernel
theorem dX7_wayAs_118 : decode cX7_wayAs 118 = .ok (.iconst 3, 1) := by decide +kernel
theorem dX7_wayAs_119 : decode cX7_wayAs 119 = .ok (.irem, 1) := by decide +kernel
theorem dX7_wayAs_120 : decode cX7_wayAs 120 = .ok (.ifCond .ne 7, 3) := by decide +kernel
theorem dX7_wayAs_123 : decode cX7_wayAs 123 = .ok (.iload_n 2, 1) := by decide +kernel
theorem dX7_wayAs_124 : decode cX7_wayAs 124 = .ok (.goto 5, 3) := by decide +kernel
theorem dX7_wayAs_127 : decode cX7_wayAs 127 = .ok (.iload 8, 2) := by decide +kernel
theorem dX7_wayAs_129 : decode cX7_wayAs 129 = .ok (.ireturn, 1) := by decide +kernel
theorem dX7_wayAs_130 : decode cX7_wayAs 130 = .ok (.iload 6, 2) := by decide +kernel
theorem dX7_wayAs_132 : decode cX7_wayAs 132 = .ok (.ireturn, 1) := by decide +kernel
theorem dX7_wayOf_0 : decode cX7_wayOf 0 = .ok (.aload_n 0, 1) := by decide +kernel
theorem dX7_wayOf_1 : decode cX7_wayOf 1 = .ok (.getfield 27, 3) := by decide +kernel
theorem dX7_wayOf_4 : decode cX7_wayOf 4 = .ok (.iconst 5, 1) := by decide +kernel
theorem dX7_wayOf_5 : decode cX7_wayOf 5 = .ok (.iload_n 1, 1) := by decide +kernel
theorem dX7_wayOf_6 : decode cX7_wayOf 6 = .ok (.iadd, 1) := by decide +kernel
theorem dX7_wayOf_7 : decode cX7_wayOf 7 = .ok (.iaload, 1) := by decide +kernel
theorem dX7_wayOf_8 : decode cX7_wayOf 8 = .ok (.istore_n 2, 1) := by decide +kernel
theorem dX7_wayOf_9 : decode cX7_wayOf 9 = .ok (.aload_n 0, 1) := by decide +kernel
theorem dX7_wayOf_10 : decode cX7_wayOf 10 = .ok (.getfield 7, 3) := by decide +kernel
theorem dX7_wayOf_13 : decode cX7_wayOf 13 = .ok (.bipush 30, 2) := by decide +kernel
theorem dX7_wayOf_15 : decode cX7_wayOf 15 = .ok (.iload_n 1, 1) := by decide +kernel
theorem dX7_wayOf_16 : decode cX7_wayOf 16 = .ok (.iadd, 1) := by decide +kernel
theorem dX7_wayOf_17 : decode cX7_wayOf 17 = .ok (.iaload, 1) := by decide +kernel
theorem dX7_wayOf_18 : decode cX7_wayOf 18 = .ok (.aload_n 0, 1) := by decide +kernel
theorem dX7_wayOf_19 : decode cX7_wayOf 19 = .ok (.getfield 27, 3) := by decide +kernel
theorem dX7_wayOf_22 : decode cX7_wayOf 22 = .ok (.bipush 26, 2) := by decide +kernel
theorem dX7_wayOf_24 : decode cX7_wayOf 24 = .ok (.iaload, 1) := by decide +kernel
theorem dX7_wayOf_25 : decode cX7_wayOf 25 = .ok (.iload_n 2, 1) := by decide +kernel
theorem dX7_wayOf_26 : decode cX7_wayOf 26 = .ok (.aload_n 0, 1) := by decide +kernel
theorem dX7_wayOf_27 : decode cX7_wayOf 27 = .ok (.iload_n 1, 1) := by decide +kernel
theorem dX7_wayOf_28 : decode cX7_wayOf 28 = .ok (.iload_n 2, 1) := by decide +kernel
theorem dX7_wayOf_29 : decode cX7_wayOf 29 = .ok (.invokevirtual 110, 3) := by decide +kernel
theorem dX7_wayOf_32 : decode cX7_wayOf 32 = .ok (.aload_n 0, 1) := by decide +kernel
theorem dX7_wayOf_33 : decode cX7_wayOf 33 = .ok (.iload_n 1, 1) := by decide +kernel
theorem dX7_wayOf_34 : decode cX7_wayOf 34 = .ok (.aload_n 0, 1) := by decide +kernel
theorem dX7_wayOf_35 : decode cX7_wayOf 35 = .ok (.getfield 27, 3) := by decide +kernel
theorem dX7_wayOf_38 : decode cX7_wayOf 38 = .ok (.bipush 25, 2) := by decide +kernel
theorem dX7_wayOf_40 : decode cX7_wayOf 40 = .ok (.iaload, 1) := by decide +kernel
theorem dX7_wayOf_41 : decode cX7_wayOf 41 = .ok (.invokevirtual 113, 3) := by decide +kernel
theorem dX7_wayOf_44 : decode cX7_wayOf 44 = .ok (.aload_n 0, 1) := by decide +kernel
theorem dX7_wayOf_45 : decode cX7_wayOf 45 = .ok (.iload_n 1, 1) := by decide +kernel
theorem dX7_wayOf_46 : decode cX7_wayOf 46 = .ok (.aload_n 0, 1) := by decide +kernel
theorem dX7_wayOf_47 : decode cX7_wayOf 47 = .ok (.getfield 27, 3) := by decide +kernel
theorem dX7_wayOf_50 : decode cX7_wayOf 50 = .ok (.bipush 20, 2) := by decide +kernel
theorem dX7_wayOf_52 : decode cX7_wayOf 52 = .ok (.iload_n 1, 1) := by decide +kernel
theorem dX7_wayOf_53 : decode cX7_wayOf 53 = .ok (.iadd, 1) := by decide +kernel
theorem dX7_wayOf_54 : decode cX7_wayOf 54 = .ok (.iaload, 1) := by decide +kernel
theorem dX7_wayOf_55 : decode cX7_wayOf 55 = .ok (.invokevirtual 113, 3) := by decide +kernel
theorem dX7_wayOf_58 : decode cX7_wayOf 58 = .ok (.invokestatic 116, 3) := by decide +kernel
theorem dX7_wayOf_61 : decode cX7_wayOf 61 = .ok (.ireturn, 1) := by decide +kernel
theorem dX7_goCar_0 : decode cX7_goCar 0 = .ok (.aload_n 0, 1) := by decide +kernel
theorem dX7_goCar_1 : decode cX7_goCar 1 = .ok (.getfield 27, 3) := by decide +kernel
theorem dX7_goCar_4 : decode cX7_goCar 4 = .ok (.iconst 0, 1) := by decide +kernel
theorem dX7_goCar_5 : decode cX7_goCar 5 = .ok (.iload_n 1, 1) := by decide +kernel
theorem dX7_goCar_6 : decode cX7_goCar 6 = .ok (.iadd, 1) := by decide +kernel
theorem dX7_goCar_7 : decode cX7_goCar 7 = .ok (.iaload, 1) := by decide +kernel
theorem dX7_goCar_8 : decode cX7_goCar 8 = .ok (.iload_n 2, 1) := by decide +kernel
theorem dX7_goCar_9 : decode cX7_goCar 9 = .ok (.invokestatic 97, 3) := by decide +kernel
theorem dX7_goCar_12 : decode cX7_goCar 12 = .ok (.istore_n 3, 1) := by decide +kernel
theorem dX7_goCar_13 : decode cX7_goCar 13 = .ok (.iload_n 3, 1) := by decide +kernel
theorem dX7_goCar_14 : decode cX7_goCar 14 = .ok (.iconst (-1), 1) := by decide +kernel
theorem dX7_goCar_15 : decode cX7_goCar 15 = .ok (.if_icmp .ne 7, 3) := by decide +kernel
theorem dX7_goCar_18 : decode cX7_goCar 18 = .ok (.iconst (-1), 1) := by decide +kernel
theorem dX7_goCar_19 : decode cX7_goCar 19 = .ok (.goto 8, 3) := by decide +kernel
theorem dX7_goCar_22 : decode cX7_goCar 22 = .ok (.aload_n 0, 1) := by decide +kernel
theorem dX7_goCar_23 : decode cX7_goCar 23 = .ok (.iload_n 3, 1) := by decide +kernel
theorem dX7_goCar_24 : decode cX7_goCar 24 = .ok (.invokevirtual 101, 3) := by decide +kernel
theorem dX7_goCar_27 : decode cX7_goCar 27 = .ok (.istore 4, 2) := by decide +kernel
theorem dX7_goCar_29 : decode cX7_goCar 29 = .ok (.iload_n 3, 1) := by decide +kernel
theorem dX7_goCar_30 : decode cX7_goCar 30 = .ok (.iconst (-1), 1) := by decide +kernel
theorem dX7_goCar_31 : decode cX7_goCar 31 = .ok (.if_icmp .ne 17, 3) := by decide +kernel
theorem dX7_goCar_34 : decode cX7_goCar 34 = .ok (.aload_n 0, 1) := by decide +kernel
theorem dX7_goCar_35 : decode cX7_goCar 35 = .ok (.getfield 27, 3) := by decide +kernel
theorem dX7_goCar_38 : decode cX7_goCar 38 = .ok (.iconst 5, 1) := by decide +kernel
theorem dX7_goCar_39 : decode cX7_goCar 39 = .ok (.iload_n 1, 1) := by decide +kernel
theorem dX7_goCar_40 : decode cX7_goCar 40 = .ok (.iadd, 1) := by decide +kernel
theorem dX7_goCar_41 : decode cX7_goCar 41 = .ok (.iload_n 2, 1) := by decide +kernel
theorem dX7_goCar_42 : decode cX7_goCar 42 = .ok (.invokestatic 107, 3) := by decide +kernel
theorem dX7_goCar_45 : decode cX7_goCar 45 = .ok (.iastore, 1) := by decide +kernel
theorem dX7_goCar_46 : decode cX7_goCar 46 = .ok (.iconst 0, 1) := by decide +kernel
theorem dX7_goCar_47 : decode cX7_goCar 47 = .ok (.ireturn, 1) := by decide +kernel
theorem dX7_goCar_48 : decode cX7_goCar 48 = .ok (.iload 4, 2) := by decide +kernel
theorem dX7_goCar_50 : decode cX7_goCar 50 = .ok (.iconst (-1), 1) := by decide +kernel
theorem dX7_goCar_51 : decode cX7_goCar 51 = .ok (.if_icmp .eq 56, 3) := by decide +kernel
theorem dX7_goCar_54 : decode cX7_goCar 54 = .ok (.aload_n 0, 1) := by decide +kernel
theorem dX7_goCar_55 : decode cX7_goCar 55 = .ok (.getfield 27, 3) := by decide +kernel
theorem dX7_goCar_58 : decode cX7_goCar 58 = .ok (.bipush 10, 2) := by decide +kernel
theorem dX7_goCar_60 : decode cX7_goCar 60 = .ok (.iload 4, 2) := by decide +kernel
theorem dX7_goCar_62 : decode cX7_goCar 62 = .ok (.iadd, 1) := by decide +kernel
theorem dX7_goCar_63 : decode cX7_goCar 63 = .ok (.dup2, 1) := by decide +kernel
theorem dX7_goCar_64 : decode cX7_goCar 64 = .ok (.iaload, 1) := by decide +kernel
theorem dX7_goCar_65 : decode cX7_goCar 65 = .ok (.iconst 1, 1) := by decide +kernel
theorem dX7_goCar_66 : decode cX7_goCar 66 = .ok (.iadd, 1) := by decide +kernel
theorem dX7_goCar_67 : decode cX7_goCar 67 = .ok (.iastore, 1) := by decide +kernel
theorem dX7_goCar_68 : decode cX7_goCar 68 = .ok (.aload_n 0, 1) := by decide +kernel
theorem dX7_goCar_69 : decode cX7_goCar 69 = .ok (.getfield 27, 3) := by decide +kernel
theorem dX7_goCar_72 : decode cX7_goCar 72 = .ok (.bipush 20, 2) := by decide +kernel
theorem dX7_goCar_74 : decode cX7_goCar 74 = .ok (.iload 4, 2) := by decide +kernel
theorem dX7_goCar_76 : decode cX7_goCar 76 = .ok (.iadd, 1) := by decide +kernel
theorem dX7_goCar_77 : decode cX7_goCar 77 = .ok (.iload_n 1, 1) := by decide +kernel
theorem dX7_goCar_78 : decode cX7_goCar 78 = .ok (.iastore, 1) := by decide +kernel
theorem dX7_goCar_79 : decode cX7_goCar 79 = .ok (.aload_n 0, 1) := by decide +kernel
theorem dX7_goCar_80 : decode cX7_goCar 80 = .ok (.getfield 27, 3) := by decide +kernel
theorem dX7_goCar_83 : decode cX7_goCar 83 = .ok (.bipush 15, 2) := by decide +kernel
theorem dX7_goCar_85 : decode cX7_goCar 85 = .ok (.iload_n 1, 1) := by decide +kernel
theorem dX7_goCar_86 : decode cX7_goCar 86 = .ok (.iadd, 1) := by decide +kernel
theorem dX7_goCar_87 : decode cX7_goCar 87 = .ok (.dup2, 1) := by decide +kernel
theorem dX7_goCar_88 : decode cX7_goCar 88 = .ok (.iaload, 1) := by decide +kernel
theorem dX7_goCar_89 : decode cX7_goCar 89 = .ok (.iconst 1, 1) := by decide +kernel
theorem dX7_goCar_90 : decode cX7_goCar 90 = .ok (.iadd, 1) := by decide +kernel
theorem dX7_goCar_91 : decode cX7_goCar 91 = .ok (.iastore, 1) := by decide +kernel
theorem dX7_goCar_92 : decode cX7_goCar 92 = .ok (.aload_n 0, 1) := by decide +kernel
theorem dX7_goCar_93 : decode cX7_goCar 93 = .ok (.getfield 27, 3) := by decide +kernel
theorem dX7_goCar_96 : decode cX7_goCar 96 = .ok (.iconst 5, 1) := by decide +kernel
theorem dX7_goCar_97 : decode cX7_goCar 97 = .ok (.iload_n 1, 1) := by decide +kernel
theorem dX7_goCar_98 : decode cX7_goCar 98 = .ok (.iadd, 1) := by decide +kernel
theorem dX7_goCar_99 : decode cX7_goCar 99 = .ok (.iload_n 2, 1) := by decide +kernel
theorem dX7_goCar_100 : decode cX7_goCar 100 = .ok (.iconst 2, 1) := by decide +kernel
theorem dX7_goCar_101 : decode cX7_goCar 101 = .ok (.iadd, 1) := by decide +kernel
theorem dX7_goCar_102 : decode cX7_goCar 102 = .ok (.iconst 4, 1) := by decide +kernel
theorem dX7_goCar_103 : decode cX7_goCar 103 = .ok (.irem, 1) := by decide +kernel
theorem dX7_goCar_104 : decode cX7_goCar 104 = .ok (.iastore, 1) := by decide +kernel
theorem dX7_goCar_105 : decode cX7_goCar 105 = .ok (.iconst 1, 1) := by decide +kernel
theorem dX7_goCar_106 : decode cX7_goCar 106 = .ok (.ireturn, 1) := by decide +kernel
theorem dX7_goCar_107 : decode cX7_goCar 107 = .ok (.aload_n 0, 1) := by decide +kernel
theorem dX7_goCar_108 : decode cX7_goCar 108 = .ok (.getfield 27, 3) := by decide +kernel
theorem dX7_goCar_111 : decode cX7_goCar 111 = .ok (.iconst 0, 1) := by decide +kernel
theorem dX7_goCar_112 : decode cX7_goCar 112 = .ok (.iload_n 1, 1) := by decide +kernel
theorem dX7_goCar_113 : decode cX7_goCar 113 = .ok (.iadd, 1) := by decide +kernel
theorem dX7_goCar_114 : decode cX7_goCar 114 = .ok (.iload_n 3, 1) := by decide +kernel
theorem dX7_goCar_115 : decode cX7_goCar 115 = .ok (.iastore, 1) := by decide +kernel
theorem dX7_goCar_116 : decode cX7_goCar 116 = .ok (.aload_n 0, 1) := by decide +kernel
theorem dX7_goCar_117 : decode cX7_goCar 117 = .ok (.getfield 27, 3) := by decide +kernel
theorem dX7_goCar_120 : decode cX7_goCar 120 = .ok (.iconst 5, 1) := by decide +kernel
theorem dX7_goCar_121 : decode cX7_goCar 121 = .ok (.iload_n 1, 1) := by decide +kernel
theorem dX7_goCar_122 : decode cX7_goCar 122 = .ok (.iadd, 1) := by decide +kernel
theorem dX7_goCar_123 : decode cX7_goCar 123 = .ok (.iload_n 2, 1) := by decide +kernel
theorem dX7_goCar_124 : decode cX7_goCar 124 = .ok (.iastore, 1) := by decide +kernel
theorem dX7_goCar_125 : decode cX7_goCar 125 = .ok (.iconst 0, 1) := by decide +kernel
theorem dX7_goCar_126 : decode cX7_goCar 126 = .ok (.ireturn, 1) := by decide +kernel
theorem dX7_goTick_0 : decode cX7_goTick 0 = .ok (.iconst 0, 1) := by decide +kernel
theorem dX7_goTick_1 : decode cX7_goTick 1 = .ok (.istore 5, 2) := by decide +kernel
theorem dX7_goTick_3 : decode cX7_goTick 3 = .ok (.iconst 0, 1) := by decide +kernel
theorem dX7_goTick_4 : decode cX7_goTick 4 = .ok (.istore 6, 2) := by decide +kernel
theorem dX7_goTick_6 : decode cX7_goTick 6 = .ok (.iload 6, 2) := by decide +kernel
theorem dX7_goTick_8 : decode cX7_goTick 8 = .ok (.aload_n 0, 1) := by decide +kernel
theorem dX7_goTick_9 : decode cX7_goTick 9 = .ok (.invokevirtual 58, 3) := by decide +kernel
theorem dX7_goTick_12 : decode cX7_goTick 12 = .ok (.if_icmp .ge 47, 3) := by decide +kernel
theorem dX7_goTick_15 : decode cX7_goTick 15 = .ok (.iload 5, 2) := by decide +kernel
theorem dX7_goTick_17 : decode cX7_goTick 17 = .ok (.aload_n 0, 1) := by decide +kernel
theorem dX7_goTick_18 : decode cX7_goTick 18 = .ok (.iload 6, 2) := by decide +kernel
theorem dX7_goTick_20 : decode cX7_goTick 20 = .ok (.iload 6, 2) := by decide +kernel
theorem dX7_goTick_22 : decode cX7_goTick 22 = .ok (.iload_n 1, 1) := by decide +kernel
theorem dX7_goTick_23 : decode cX7_goTick 23 = .ok (.if_icmp .ne 7, 3) := by decide +kernel
theorem dX7_goTick_26 : decode cX7_goTick 26 = .ok (.iload_n 2, 1) := by decide +kernel
theorem dX7_goTick_27 : decode cX7_goTick 27 = .ok (.goto 20, 3) := by decide +kernel
theorem dX7_goTick_30 : decode cX7_goTick 30 = .ok (.iload 6, 2) := by decide +kernel
theorem dX7_goTick_32 : decode cX7_goTick 32 = .ok (.iload_n 3, 1) := by decide +kernel
theorem dX7_goTick_33 : decode cX7_goTick 33 = .ok (.if_icmp .ne 8, 3) := by decide +kernel
theorem dX7_goTick_36 : decode cX7_goTick 36 = .ok (.iload 4, 2) := by decide +kernel
theorem dX7_goTick_38 : decode cX7_goTick 38 = .ok (.goto 9, 3) := by decide +kernel
theorem dX7_goTick_41 : decode cX7_goTick 41 = .ok (.aload_n 0, 1) := by decide +kernel
theorem dX7_goTick_42 : decode cX7_goTick 42 = .ok (.iload 6, 2) := by decide +kernel
theorem dX7_goTick_44 : decode cX7_goTick 44 = .ok (.invokevirtual 120, 3) := by decide +kernel
theorem dX7_goTick_47 : decode cX7_goTick 47 = .ok (.invokevirtual 123, 3) := by decide +kernel
theorem dX7_goTick_50 : decode cX7_goTick 50 = .ok (.iadd, 1) := by decide +kernel
theorem dX7_goTick_51 : decode cX7_goTick 51 = .ok (.istore 5, 2) := by decide +kernel
theorem dX7_goTick_53 : decode cX7_goTick 53 = .ok (.iinc 6 1, 3) := by decide +kernel
theorem dX7_goTick_56 : decode cX7_goTick 56 = .ok (.goto (-50), 3) := by decide +kernel
theorem dX7_goTick_59 : decode cX7_goTick 59 = .ok (.aload_n 0, 1) := by decide +kernel
theorem dX7_goTick_60 : decode cX7_goTick 60 = .ok (.getfield 27, 3) := by decide +kernel
theorem dX7_goTick_63 : decode cX7_goTick 63 = .ok (.bipush 26, 2) := by decide +kernel
theorem dX7_goTick_65 : decode cX7_goTick 65 = .ok (.dup2, 1) := by decide +kernel
theorem dX7_goTick_66 : decode cX7_goTick 66 = .ok (.iaload, 1) := by decide +kernel
theorem dX7_goTick_67 : decode cX7_goTick 67 = .ok (.iconst 1, 1) := by decide +kernel
theorem dX7_goTick_68 : decode cX7_goTick 68 = .ok (.iadd, 1) := by decide +kernel
theorem dX7_goTick_69 : decode cX7_goTick 69 = .ok (.iastore, 1) := by decide +kernel
theorem dX7_goTick_70 : decode cX7_goTick 70 = .ok (.iload 5, 2) := by decide +kernel
theorem dX7_goTick_72 : decode cX7_goTick 72 = .ok (.ireturn, 1) := by decide +kernel
theorem dX7_goTicks_0 : decode cX7_goTicks 0 = .ok (.iconst 0, 1) := by decide +kernel
theorem dX7_goTicks_1 : decode cX7_goTicks 1 = .ok (.istore_n 2, 1) := by decide +kernel
theorem dX7_goTicks_2 : decode cX7_goTicks 2 = .ok (.iconst 0, 1) := by decide +kernel
theorem dX7_goTicks_3 : decode cX7_goTicks 3 = .ok (.istore_n 3, 1) := by decide +kernel
theorem dX7_goTicks_4 : decode cX7_goTicks 4 = .ok (.iload_n 3, 1) := by decide +kernel
theorem dX7_goTicks_5 : decode cX7_goTicks 5 = .ok (.iload_n 1, 1) := by decide +kernel
theorem dX7_goTicks_6 : decode cX7_goTicks 6 = .ok (.if_icmp .ge 20, 3) := by decide +kernel
theorem dX7_goTicks_9 : decode cX7_goTicks 9 = .ok (.iload_n 2, 1) := by decide +kernel
theorem dX7_goTicks_10 : decode cX7_goTicks 10 = .ok (.aload_n 0, 1) := by decide +kernel
theorem dX7_goTicks_11 : decode cX7_goTicks 11 = .ok (.iconst (-1), 1) := by decide +kernel
theorem dX7_goTicks_12 : decode cX7_goTicks 12 = .ok (.iconst 0, 1) := by decide +kernel
theorem dX7_goTicks_13 : decode cX7_goTicks 13 = .ok (.iconst (-1), 1) := by decide +kernel
theorem dX7_goTicks_14 : decode cX7_goTicks 14 = .ok (.iconst 0, 1) := by decide +kernel
theorem dX7_goTicks_15 : decode cX7_goTicks 15 = .ok (.invokevirtual 126, 3) := by decide +kernel
theorem dX7_goTicks_18 : decode cX7_goTicks 18 = .ok (.iadd, 1) := by decide +kernel
theorem dX7_goTicks_19 : decode cX7_goTicks 19 = .ok (.istore_n 2, 1) := by decide +kernel
theorem dX7_goTicks_20 : decode cX7_goTicks 20 = .ok (.iinc 3 1, 3) := by decide +kernel
theorem dX7_goTicks_23 : decode cX7_goTicks 23 = .ok (.goto (-19), 3) := by decide +kernel
theorem dX7_goTicks_26 : decode cX7_goTicks 26 = .ok (.iload_n 2, 1) := by decide +kernel
theorem dX7_goTicks_27 : decode cX7_goTicks 27 = .ok (.ireturn, 1) := by decide +kernel
theorem dX7_keep_0 : decode cX7_keep 0 = .ok (.aload_n 0, 1) := by decide +kernel
theorem dX7_keep_1 : decode cX7_keep 1 = .ok (.getfield 7, 3) := by decide +kernel
theorem dX7_keep_4 : decode cX7_keep 4 = .ok (.iconst 2, 1) := by decide +kernel
theorem dX7_keep_5 : decode cX7_keep 5 = .ok (.iaload, 1) := by decide +kernel
theorem dX7_keep_6 : decode cX7_keep 6 = .ok (.bipush 8, 2) := by decide +kernel
theorem dX7_keep_8 : decode cX7_keep 8 = .ok (.if_icmp .ne 44, 3) := by decide +kernel
theorem dX7_keep_11 : decode cX7_keep 11 = .ok (.iconst 0, 1) := by decide +kernel
theorem dX7_keep_12 : decode cX7_keep 12 = .ok (.istore_n 1, 1) := by decide +kernel
theorem dX7_keep_13 : decode cX7_keep 13 = .ok (.iload_n 1, 1) := by decide +kernel
theorem dX7_keep_14 : decode cX7_keep 14 = .ok (.sipush 189, 3) := by decide +kernel
theorem dX7_keep_17 : decode cX7_keep 17 = .ok (.if_icmp .ge 27, 3) := by decide +kernel
theorem dX7_keep_20 : decode cX7_keep 20 = .ok (.aload_n 0, 1) := by decide +kernel
theorem dX7_keep_21 : decode cX7_keep 21 = .ok (.getfield 7, 3) := by decide +kernel
theorem dX7_keep_24 : decode cX7_keep 24 = .ok (.bipush 77, 2) := by decide +kernel
theorem dX7_keep_26 : decode cX7_keep 26 = .ok (.iload_n 1, 1) := by decide +kernel
theorem dX7_keep_27 : decode cX7_keep 27 = .ok (.iadd, 1) := by decide +kernel
theorem dX7_keep_28 : decode cX7_keep 28 = .ok (.aload_n 0, 1) := by decide +kernel
theorem dX7_keep_29 : decode cX7_keep 29 = .ok (.getfield 7, 3) := by decide +kernel
theorem dX7_keep_32 : decode cX7_keep 32 = .ok (.bipush 104, 2) := by decide +kernel
theorem dX7_keep_34 : decode cX7_keep 34 = .ok (.iload_n 1, 1) := by decide +kernel
theorem dX7_keep_35 : decode cX7_keep 35 = .ok (.iadd, 1) := by decide +kernel
theorem dX7_keep_36 : decode cX7_keep 36 = .ok (.iaload, 1) := by decide +kernel
theorem dX7_keep_37 : decode cX7_keep 37 = .ok (.iastore, 1) := by decide +kernel
theorem dX7_keep_38 : decode cX7_keep 38 = .ok (.iinc 1 1, 3) := by decide +kernel
theorem dX7_keep_41 : decode cX7_keep 41 = .ok (.goto (-28), 3) := by decide +kernel
theorem dX7_keep_44 : decode cX7_keep 44 = .ok (.aload_n 0, 1) := by decide +kernel
theorem dX7_keep_45 : decode cX7_keep 45 = .ok (.getfield 7, 3) := by decide +kernel
theorem dX7_keep_48 : decode cX7_keep 48 = .ok (.iconst 2, 1) := by decide +kernel
theorem dX7_keep_49 : decode cX7_keep 49 = .ok (.bipush 7, 2) := by decide +kernel
theorem dX7_keep_51 : decode cX7_keep 51 = .ok (.iastore, 1) := by decide +kernel
theorem dX7_keep_52 : decode cX7_keep 52 = .ok (.iconst 0, 1) := by decide +kernel
theorem dX7_keep_53 : decode cX7_keep 53 = .ok (.istore_n 1, 1) := by decide +kernel
theorem dX7_keep_54 : decode cX7_keep 54 = .ok (.iload_n 1, 1) := by decide +kernel
theorem dX7_keep_55 : decode cX7_keep 55 = .ok (.bipush 27, 2) := by decide +kernel
theorem dX7_keep_57 : decode cX7_keep 57 = .ok (.if_icmp .ge 36, 3) := by decide +kernel
theorem dX7_keep_60 : decode cX7_keep 60 = .ok (.aload_n 0, 1) := by decide +kernel
theorem dX7_keep_61 : decode cX7_keep 61 = .ok (.getfield 7, 3) := by decide +kernel
theorem dX7_keep_64 : decode cX7_keep 64 = .ok (.bipush 77, 2) := by decide +kernel
theorem dX7_keep_66 : decode cX7_keep 66 = .ok (.bipush 27, 2) := by decide +kernel
theorem dX7_keep_68 : decode cX7_keep 68 = .ok (.aload_n 0, 1) := by decide +kernel
theorem dX7_keep_69 : decode cX7_keep 69 = .ok (.getfield 7, 3) := by decide +kernel
theorem dX7_keep_72 : decode cX7_keep 72 = .ok (.iconst 2, 1) := by decide +kernel
theorem dX7_keep_73 : decode cX7_keep 73 = .ok (.iaload, 1) := by decide +kernel
theorem dX7_keep_74 : decode cX7_keep 74 = .ok (.imul, 1) := by decide +kernel
theorem dX7_keep_75 : decode cX7_keep 75 = .ok (.iadd, 1) := by decide +kernel
theorem dX7_keep_76 : decode cX7_keep 76 = .ok (.iload_n 1, 1) := by decide +kernel
theorem dX7_keep_77 : decode cX7_keep 77 = .ok (.iadd, 1) := by decide +kernel
theorem dX7_keep_78 : decode cX7_keep 78 = .ok (.aload_n 0, 1) := by decide +kernel
theorem dX7_keep_79 : decode cX7_keep 79 = .ok (.getfield 7, 3) := by decide +kernel
theorem dX7_keep_82 : decode cX7_keep 82 = .ok (.iconst 3, 1) := by decide +kernel
theorem dX7_keep_83 : decode cX7_keep 83 = .ok (.iload_n 1, 1) := by decide +kernel
theorem dX7_keep_84 : decode cX7_keep 84 = .ok (.iadd, 1) := by decide +kernel
theorem dX7_keep_85 : decode cX7_keep 85 = .ok (.iaload, 1) := by decide +kernel
theorem dX7_keep_86 : decode cX7_keep 86 = .ok (.iastore, 1) := by decide +kernel
theorem dX7_keep_87 : decode cX7_keep 87 = .ok (.iinc 1 1, 3) := by decide +kernel
theorem dX7_keep_90 : decode cX7_keep 90 = .ok (.goto (-36), 3) := by decide +kernel
theorem dX7_keep_93 : decode cX7_keep 93 = .ok (.aload_n 0, 1) := by decide +kernel
theorem dX7_keep_94 : decode cX7_keep 94 = .ok (.getfield 7, 3) := by decide +kernel
theorem dX7_keep_97 : decode cX7_keep 97 = .ok (.iconst 2, 1) := by decide +kernel
theorem dX7_keep_98 : decode cX7_keep 98 = .ok (.dup2, 1) := by decide +kernel
theorem dX7_keep_99 : decode cX7_keep 99 = .ok (.iaload, 1) := by decide +kernel
theorem dX7_keep_100 : decode cX7_keep 100 = .ok (.iconst 1, 1) := by decide +kernel
theorem dX7_keep_101 : decode cX7_keep 101 = .ok (.iadd, 1) := by decide +kernel
theorem dX7_keep_102 : decode cX7_keep 102 = .ok (.iastore, 1) := by decide +kernel
theorem dX7_keep_103 : decode cX7_keep 103 = .ok (.return_, 1) := by decide +kernel
theorem dX7_tick_0 : decode cX7_tick 0 = .ok (.iload_n 1, 1) := by decide +kernel
theorem dX7_tick_1 : decode cX7_tick 1 = .ok (.i2l, 1) := by decide +kernel
theorem dX7_tick_2 : decode cX7_tick 2 = .ok (.lconst 1, 1) := by decide +kernel
theorem dX7_tick_3 : decode cX7_tick 3 = .ok (.ldc2_w 130, 3) := by decide +kernel
theorem dX7_tick_6 : decode cX7_tick 6 = .ok (.invokestatic 62, 3) := by decide +kernel
theorem dX7_tick_9 : decode cX7_tick 9 = .ok (.ifCond .ne 10, 3) := by decide +kernel
theorem dX7_tick_12 : decode cX7_tick 12 = .ok (.aload_n 0, 1) := by decide +kernel
theorem dX7_tick_13 : decode cX7_tick 13 = .ok (.bipush (-2), 2) := by decide +kernel
theorem dX7_tick_15 : decode cX7_tick 15 = .ok (.invokevirtual 79, 3) := by decide +kernel
theorem dX7_tick_18 : decode cX7_tick 18 = .ok (.ireturn, 1) := by decide +kernel
theorem dX7_tick_19 : decode cX7_tick 19 = .ok (.aload_n 0, 1) := by decide +kernel
theorem dX7_tick_20 : decode cX7_tick 20 = .ok (.invokevirtual 132, 3) := by decide +kernel
theorem dX7_tick_23 : decode cX7_tick 23 = .ok (.aload_n 0, 1) := by decide +kernel
theorem dX7_tick_24 : decode cX7_tick 24 = .ok (.invokevirtual 135, 3) := by decide +kernel
theorem dX7_tick_27 : decode cX7_tick 27 = .ok (.aload_n 0, 1) := by decide +kernel
theorem dX7_tick_28 : decode cX7_tick 28 = .ok (.iload_n 1, 1) := by decide +kernel
theorem dX7_tick_29 : decode cX7_tick 29 = .ok (.invokevirtual 138, 3) := by decide +kernel
theorem dX7_tick_32 : decode cX7_tick 32 = .ok (.istore_n 2, 1) := by decide +kernel
theorem dX7_tick_33 : decode cX7_tick 33 = .ok (.iconst 0, 1) := by decide +kernel
theorem dX7_tick_34 : decode cX7_tick 34 = .ok (.istore_n 3, 1) := by decide +kernel
theorem dX7_tick_35 : decode cX7_tick 35 = .ok (.iload_n 3, 1) := by decide +kernel
theorem dX7_tick_36 : decode cX7_tick 36 = .ok (.bipush 27, 2) := by decide +kernel
theorem dX7_tick_38 : decode cX7_tick 38 = .ok (.if_icmp .ge 23, 3) := by decide +kernel
theorem dX7_tick_41 : decode cX7_tick 41 = .ok (.aload_n 0, 1) := by decide +kernel
theorem dX7_tick_42 : decode cX7_tick 42 = .ok (.getfield 7, 3) := by decide +kernel
theorem dX7_tick_45 : decode cX7_tick 45 = .ok (.iconst 3, 1) := by decide +kernel
theorem dX7_tick_46 : decode cX7_tick 46 = .ok (.iload_n 3, 1) := by decide +kernel
theorem dX7_tick_47 : decode cX7_tick 47 = .ok (.iadd, 1) := by decide +kernel
theorem dX7_tick_48 : decode cX7_tick 48 = .ok (.aload_n 0, 1) := by decide +kernel
theorem dX7_tick_49 : decode cX7_tick 49 = .ok (.getfield 27, 3) := by decide +kernel
theorem dX7_tick_52 : decode cX7_tick 52 = .ok (.iload_n 3, 1) := by decide +kernel
theorem dX7_tick_53 : decode cX7_tick 53 = .ok (.iaload, 1) := by decide +kernel
theorem dX7_tick_54 : decode cX7_tick 54 = .ok (.iastore, 1) := by decide +kernel
theorem dX7_tick_55 : decode cX7_tick 55 = .ok (.iinc 3 1, 3) := by decide +kernel
theorem dX7_tick_58 : decode cX7_tick 58 = .ok (.goto (-23), 3) := by decide +kernel
theorem dX7_tick_61 : decode cX7_tick 61 = .ok (.iload_n 2, 1) := by decide +kernel
theorem dX7_tick_62 : decode cX7_tick 62 = .ok (.ireturn, 1) := by decide +kernel
theorem dX7_hat_0 : decode cX7_hat 0 = .ok (.iload_n 1, 1) := by decide +kernel
theorem dX7_hat_1 : decode cX7_hat 1 = .ok (.i2l, 1) := by decide +kernel
theorem dX7_hat_2 : decode cX7_hat 2 = .ok (.ldc2_w 141, 3) := by decide +kernel
theorem dX7_hat_5 : decode cX7_hat 5 = .ok (.aload_n 0, 1) := by decide +kernel
theorem dX7_hat_6 : decode cX7_hat 6 = .ok (.invokevirtual 58, 3) := by decide +kernel
theorem dX7_hat_9 : decode cX7_hat 9 = .ok (.iconst 1, 1) := by decide +kernel
theorem dX7_hat_10 : decode cX7_hat 10 = .ok (.isub, 1) := by decide +kernel
theorem dX7_hat_11 : decode cX7_hat 11 = .ok (.i2l, 1) := by decide +kernel
theorem dX7_hat_12 : decode cX7_hat 12 = .ok (.invokestatic 62, 3) := by decide +kernel
theorem dX7_hat_15 : decode cX7_hat 15 = .ok (.ifCond .ne 10, 3) := by decide +kernel
theorem dX7_hat_18 : decode cX7_hat 18 = .ok (.aload_n 0, 1) := by decide +kernel
theorem dX7_hat_19 : decode cX7_hat 19 = .ok (.bipush (-10), 2) := by decide +kernel
theorem dX7_hat_21 : decode cX7_hat 21 = .ok (.invokevirtual 79, 3) := by decide +kernel
theorem dX7_hat_24 : decode cX7_hat 24 = .ok (.ireturn, 1) := by decide +kernel
theorem dX7_hat_25 : decode cX7_hat 25 = .ok (.aload_n 0, 1) := by decide +kernel
theorem dX7_hat_26 : decode cX7_hat 26 = .ok (.bipush 25, 2) := by decide +kernel
theorem dX7_hat_28 : decode cX7_hat 28 = .ok (.iconst 0, 1) := by decide +kernel
theorem dX7_hat_29 : decode cX7_hat 29 = .ok (.invokevirtual 143, 3) := by decide +kernel
theorem dX7_hat_32 : decode cX7_hat 32 = .ok (.istore_n 2, 1) := by decide +kernel
theorem dX7_hat_33 : decode cX7_hat 33 = .ok (.aload_n 0, 1) := by decide +kernel
theorem dX7_hat_34 : decode cX7_hat 34 = .ok (.invokevirtual 132, 3) := by decide +kernel
theorem dX7_hat_37 : decode cX7_hat 37 = .ok (.aload_n 0, 1) := by decide +kernel
theorem dX7_hat_38 : decode cX7_hat 38 = .ok (.getfield 7, 3) := by decide +kernel
theorem dX7_hat_41 : decode cX7_hat 41 = .ok (.bipush 28, 2) := by decide +kernel
theorem dX7_hat_43 : decode cX7_hat 43 = .ok (.iload_n 1, 1) := by decide +kernel
theorem dX7_hat_44 : decode cX7_hat 44 = .ok (.iastore, 1) := by decide +kernel
theorem dX7_hat_45 : decode cX7_hat 45 = .ok (.iload_n 2, 1) := by decide +kernel
theorem dX7_hat_46 : decode cX7_hat 46 = .ok (.ireturn, 1) := by decide +kernel
theorem dX7_push_0 : decode cX7_push 0 = .ok (.aload_n 0, 1) := by decide +kernel
theorem dX7_push_1 : decode cX7_push 1 = .ok (.iload_n 1, 1) := by decide +kernel
theorem dX7_push_2 : decode cX7_push 2 = .ok (.invokevirtual 146, 3) := by decide +kernel
theorem dX7_push_5 : decode cX7_push 5 = .ok (.ifCond .eq 17, 3) := by decide +kernel
theorem dX7_push_8 : decode cX7_push 8 = .ok (.iload_n 2, 1) := by decide +kernel
theorem dX7_push_9 : decode cX7_push 9 = .ok (.invokestatic 72, 3) := by decide +kernel
theorem dX7_push_12 : decode cX7_push 12 = .ok (.ifCond .eq 10, 3) := by decide +kernel
theorem dX7_push_15 : decode cX7_push 15 = .ok (.iload_n 3, 1) := by decide +kernel
theorem dX7_push_16 : decode cX7_push 16 = .ok (.invokestatic 76, 3) := by decide +kernel
theorem dX7_push_19 : decode cX7_push 19 = .ok (.ifCond .ne 10, 3) := by decide +kernel
theorem dX7_push_22 : decode cX7_push 22 = .ok (.aload_n 0, 1) := by decide +kernel
theorem dX7_push_23 : decode cX7_push 23 = .ok (.bipush (-2), 2) := by decide +kernel
theorem dX7_push_25 : decode cX7_push 25 = .ok (.invokevirtual 79, 3) := by decide +kernel
theorem dX7_push_28 : decode cX7_push 28 = .ok (.ireturn, 1) := by decide +kernel
theorem dX7_push_29 : decode cX7_push 29 = .ok (.aload_n 0, 1) := by decide +kernel
theorem dX7_push_30 : decode cX7_push 30 = .ok (.getfield 7, 3) := by decide +kernel
theorem dX7_push_33 : decode cX7_push 33 = .ok (.iload_n 2, 1) := by decide +kernel
theorem dX7_push_34 : decode cX7_push 34 = .ok (.invokestatic 83, 3) := by decide +kernel
theorem dX7_push_37 : decode cX7_push 37 = .ok (.istore 4, 2) := by decide +kernel
theorem dX7_push_39 : decode cX7_push 39 = .ok (.iload 4, 2) := by decide +kernel
theorem dX7_push_41 : decode cX7_push 41 = .ok (.iconst (-1), 1) := by decide +kernel
theorem dX7_push_42 : decode cX7_push 42 = .ok (.if_icmp .eq 14, 3) := by decide +kernel
theorem dX7_push_45 : decode cX7_push 45 = .ok (.iload 4, 2) := by decide +kernel
theorem dX7_push_47 : decode cX7_push 47 = .ok (.iload_n 1, 1) := by decide +kernel
theorem dX7_push_48 : decode cX7_push 48 = .ok (.if_icmp .eq 8, 3) := by decide +kernel
theorem dX7_push_51 : decode cX7_push 51 = .ok (.aload_n 0, 1) := by decide +kernel
theorem dX7_push_52 : decode cX7_push 52 = .ok (.invokevirtual 87, 3) := by decide +kernel
theorem dX7_push_55 : decode cX7_push 55 = .ok (.ireturn, 1) := by decide +kernel
theorem dX7_push_56 : decode cX7_push 56 = .ok (.aload_n 0, 1) := by decide +kernel
theorem dX7_push_57 : decode cX7_push 57 = .ok (.iconst 0, 1) := by decide +kernel
theorem dX7_push_58 : decode cX7_push 58 = .ok (.iload_n 1, 1) := by decide +kernel
theorem dX7_push_59 : decode cX7_push 59 = .ok (.invokevirtual 143, 3) := by decide +kernel
theorem dX7_push_62 : decode cX7_push 62 = .ok (.istore 5, 2) := by decide +kernel
theorem dX7_push_64 : decode cX7_push 64 = .ok (.aload_n 0, 1) := by decide +kernel
theorem dX7_push_65 : decode cX7_push 65 = .ok (.invokevirtual 132, 3) := by decide +kernel
theorem dX7_push_68 : decode cX7_push 68 = .ok (.aload_n 0, 1) := by decide +kernel
theorem dX7_push_69 : decode cX7_push 69 = .ok (.getfield 7, 3) := by decide +kernel
theorem dX7_push_72 : decode cX7_push 72 = .ok (.iconst 3, 1) := by decide +kernel
theorem dX7_push_73 : decode cX7_push 73 = .ok (.iload_n 1, 1) := by decide +kernel
theorem dX7_push_74 : decode cX7_push 74 = .ok (.iadd, 1) := by decide +kernel
theorem dX7_push_75 : decode cX7_push 75 = .ok (.iload_n 2, 1) := by decide +kernel
theorem dX7_push_76 : decode cX7_push 76 = .ok (.iastore, 1) := by decide +kernel
theorem dX7_push_77 : decode cX7_push 77 = .ok (.aload_n 0, 1) := by decide +kernel
theorem dX7_push_78 : decode cX7_push 78 = .ok (.getfield 7, 3) := by decide +kernel
theorem dX7_push_81 : decode cX7_push 81 = .ok (.bipush 8, 2) := by decide +kernel
theorem dX7_push_83 : decode cX7_push 83 = .ok (.iload_n 1, 1) := by decide +kernel
theorem dX7_push_84 : decode cX7_push 84 = .ok (.iadd, 1) := by decide +kernel
theorem dX7_push_85 : decode cX7_push 85 = .ok (.iload_n 3, 1) := by decide +kernel
theorem dX7_push_86 : decode cX7_push 86 = .ok (.iastore, 1) := by decide +kernel
theorem dX7_push_87 : decode cX7_push 87 = .ok (.iload 5, 2) := by decide +kernel
theorem dX7_push_89 : decode cX7_push 89 = .ok (.ireturn, 1) := by decide +kernel
theorem dX7_undo_0 : decode cX7_undo 0 = .ok (.aload_n 0, 1) := by decide +kernel
theorem dX7_undo_1 : decode cX7_undo 1 = .ok (.getfield 7, 3) := by decide +kernel
theorem dX7_undo_4 : decode cX7_undo 4 = .ok (.iconst 2, 1) := by decide +kernel
theorem dX7_undo_5 : decode cX7_undo 5 = .ok (.iaload, 1) := by decide +kernel
theorem dX7_undo_6 : decode cX7_undo 6 = .ok (.ifCond .ne 8, 3) := by decide +kernel
theorem dX7_undo_9 : decode cX7_undo 9 = .ok (.aload_n 0, 1) := by decide +kernel
theorem dX7_undo_10 : decode cX7_undo 10 = .ok (.invokevirtual 87, 3) := by decide +kernel
theorem dX7_undo_13 : decode cX7_undo 13 = .ok (.ireturn, 1) := by decide +kernel
theorem dX7_undo_14 : decode cX7_undo 14 = .ok (.aload_n 0, 1) := by decide +kernel
theorem dX7_undo_15 : decode cX7_undo 15 = .ok (.getfield 7, 3) := by decide +kernel
theorem dX7_undo_18 : decode cX7_undo 18 = .ok (.iconst 2, 1) := by decide +kernel
theorem dX7_undo_19 : decode cX7_undo 19 = .ok (.dup2, 1) := by decide +kernel
theorem dX7_undo_20 : decode cX7_undo 20 = .ok (.iaload, 1) := by decide +kernel
theorem dX7_undo_21 : decode cX7_undo 21 = .ok (.iconst 1, 1) := by decide +kernel
theorem dX7_undo_22 : decode cX7_undo 22 = .ok (.isub, 1) := by decide +kernel
theorem dX7_undo_23 : decode cX7_undo 23 = .ok (.iastore, 1) := by decide +kernel
theorem dX7_undo_24 : decode cX7_undo 24 = .ok (.iconst 0, 1) := by decide +kernel
theorem dX7_undo_25 : decode cX7_undo 25 = .ok (.istore_n 1, 1) := by decide +kernel
theorem dX7_undo_26 : decode cX7_undo 26 = .ok (.iload_n 1, 1) := by decide +kernel
theorem dX7_undo_27 : decode cX7_undo 27 = .ok (.bipush 27, 2) := by decide +kernel
theorem dX7_undo_29 : decode cX7_undo 29 = .ok (.if_icmp .ge 36, 3) := by decide +kernel
theorem dX7_undo_32 : decode cX7_undo 32 = .ok (.aload_n 0, 1) := by decide +kernel
theorem dX7_undo_33 : decode cX7_undo 33 = .ok (.getfield 7, 3) := by decide +kernel
theorem dX7_undo_36 : decode cX7_undo 36 = .ok (.iconst 3, 1) := by decide +kernel
theorem dX7_undo_37 : decode cX7_undo 37 = .ok (.iload_n 1, 1) := by decide +kernel
theorem dX7_undo_38 : decode cX7_undo 38 = .ok (.iadd, 1) := by decide +kernel
theorem dX7_undo_39 : decode cX7_undo 39 = .ok (.aload_n 0, 1) := by decide +kernel
theorem dX7_undo_40 : decode cX7_undo 40 = .ok (.getfield 7, 3) := by decide +kernel
theorem dX7_undo_43 : decode cX7_undo 43 = .ok (.bipush 77, 2) := by decide +kernel
theorem dX7_undo_45 : decode cX7_undo 45 = .ok (.bipush 27, 2) := by decide +kernel
theorem dX7_undo_47 : decode cX7_undo 47 = .ok (.aload_n 0, 1) := by decide +kernel
theorem dX7_undo_48 : decode cX7_undo 48 = .ok (.getfield 7, 3) := by decide +kernel
theorem dX7_undo_51 : decode cX7_undo 51 = .ok (.iconst 2, 1) := by decide +kernel
theorem dX7_undo_52 : decode cX7_undo 52 = .ok (.iaload, 1) := by decide +kernel
theorem dX7_undo_53 : decode cX7_undo 53 = .ok (.imul, 1) := by decide +kernel
theorem dX7_undo_54 : decode cX7_undo 54 = .ok (.iadd, 1) := by decide +kernel
theorem dX7_undo_55 : decode cX7_undo 55 = .ok (.iload_n 1, 1) := by decide +kernel
theorem dX7_undo_56 : decode cX7_undo 56 = .ok (.iadd, 1) := by decide +kernel
theorem dX7_undo_57 : decode cX7_undo 57 = .ok (.iaload, 1) := by decide +kernel
theorem dX7_undo_58 : decode cX7_undo 58 = .ok (.iastore, 1) := by decide +kernel
theorem dX7_undo_59 : decode cX7_undo 59 = .ok (.iinc 1 1, 3) := by decide +kernel
theorem dX7_undo_62 : decode cX7_undo 62 = .ok (.goto (-36), 3) := by decide +kernel
theorem dX7_undo_65 : decode cX7_undo 65 = .ok (.aload_n 0, 1) := by decide +kernel
theorem dX7_undo_66 : decode cX7_undo 66 = .ok (.bipush 26, 2) := by decide +kernel
theorem dX7_undo_68 : decode cX7_undo 68 = .ok (.iconst 0, 1) := by decide +kernel
theorem dX7_undo_69 : decode cX7_undo 69 = .ok (.invokevirtual 143, 3) := by decide +kernel
theorem dX7_undo_72 : decode cX7_undo 72 = .ok (.ireturn, 1) := by decide +kernel
theorem dX7_of_0 : decode cX7_of 0 = .ok (.aload_n 0, 1) := by decide +kernel
theorem dX7_of_1 : decode cX7_of 1 = .ok (.iload_n 1, 1) := by decide +kernel
theorem dX7_of_2 : decode cX7_of 2 = .ok (.invokevirtual 146, 3) := by decide +kernel
theorem dX7_of_5 : decode cX7_of 5 = .ok (.ifCond .eq 15, 3) := by decide +kernel
theorem dX7_of_8 : decode cX7_of 8 = .ok (.iload_n 2, 1) := by decide +kernel
theorem dX7_of_9 : decode cX7_of 9 = .ok (.i2l, 1) := by decide +kernel
theorem dX7_of_10 : decode cX7_of 10 = .ok (.lconst 0, 1) := by decide +kernel
theorem dX7_of_11 : decode cX7_of 11 = .ok (.ldc2_w 149, 3) := by decide +kernel
theorem dX7_of_14 : decode cX7_of 14 = .ok (.invokestatic 62, 3) := by decide +kernel
theorem dX7_of_17 : decode cX7_of 17 = .ok (.ifCond .ne 10, 3) := by decide +kernel
theorem dX7_of_20 : decode cX7_of 20 = .ok (.aload_n 0, 1) := by decide +kernel
theorem dX7_of_21 : decode cX7_of 21 = .ok (.bipush (-10), 2) := by decide +kernel
theorem dX7_of_23 : decode cX7_of 23 = .ok (.invokevirtual 79, 3) := by decide +kernel
theorem dX7_of_26 : decode cX7_of 26 = .ok (.ireturn, 1) := by decide +kernel
theorem dX7_of_27 : decode cX7_of 27 = .ok (.aload_n 0, 1) := by decide +kernel
theorem dX7_of_28 : decode cX7_of 28 = .ok (.invokevirtual 135, 3) := by decide +kernel
theorem dX7_of_31 : decode cX7_of 31 = .ok (.iload_n 2, 1) := by decide +kernel
theorem dX7_of_32 : decode cX7_of 32 = .ok (.ifCond .ne 15, 3) := by decide +kernel
theorem dX7_of_35 : decode cX7_of 35 = .ok (.aload_n 0, 1) := by decide +kernel
theorem dX7_of_36 : decode cX7_of 36 = .ok (.getfield 7, 3) := by decide +kernel
theorem dX7_of_39 : decode cX7_of 39 = .ok (.bipush 30, 2) := by decide +kernel
theorem dX7_of_41 : decode cX7_of 41 = .ok (.iload_n 1, 1) := by decide +kernel
theorem dX7_of_42 : decode cX7_of 42 = .ok (.iadd, 1) := by decide +kernel
theorem dX7_of_43 : decode cX7_of 43 = .ok (.iaload, 1) := by decide +kernel
theorem dX7_of_44 : decode cX7_of 44 = .ok (.goto 37, 3) := by decide +kernel
theorem dX7_of_47 : decode cX7_of 47 = .ok (.iload_n 2, 1) := by decide +kernel
theorem dX7_of_48 : decode cX7_of 48 = .ok (.bipush 6, 2) := by decide +kernel
theorem dX7_of_50 : decode cX7_of 50 = .ok (.if_icmp .ne 19, 3) := by decide +kernel
theorem dX7_of_53 : decode cX7_of 53 = .ok (.aload_n 0, 1) := by decide +kernel
theorem dX7_of_54 : decode cX7_of 54 = .ok (.iload_n 1, 1) := by decide +kernel
theorem dX7_of_55 : decode cX7_of 55 = .ok (.aload_n 0, 1) := by decide +kernel
theorem dX7_of_56 : decode cX7_of 56 = .ok (.getfield 27, 3) := by decide +kernel
theorem dX7_of_59 : decode cX7_of 59 = .ok (.iconst 5, 1) := by decide +kernel
theorem dX7_of_60 : decode cX7_of 60 = .ok (.iload_n 1, 1) := by decide +kernel
theorem dX7_of_61 : decode cX7_of 61 = .ok (.iadd, 1) := by decide +kernel
theorem dX7_of_62 : decode cX7_of 62 = .ok (.iaload, 1) := by decide +kernel
theorem dX7_of_63 : decode cX7_of 63 = .ok (.invokevirtual 110, 3) := by decide +kernel
theorem dX7_of_66 : decode cX7_of 66 = .ok (.goto 15, 3) := by decide +kernel
theorem dX7_of_69 : decode cX7_of 69 = .ok (.aload_n 0, 1) := by decide +kernel
theorem dX7_of_70 : decode cX7_of 70 = .ok (.getfield 27, 3) := by decide +kernel
theorem dX7_of_73 : decode cX7_of 73 = .ok (.iconst 5, 1) := by decide +kernel
theorem dX7_of_74 : decode cX7_of 74 = .ok (.iload_n 2, 1) := by decide +kernel
theorem dX7_of_75 : decode cX7_of 75 = .ok (.iconst 1, 1) := by decide +kernel
theorem dX7_of_76 : decode cX7_of 76 = .ok (.isub, 1) := by decide +kernel
theorem dX7_of_77 : decode cX7_of 77 = .ok (.imul, 1) := by decide +kernel
theorem dX7_of_78 : decode cX7_of 78 = .ok (.iload_n 1, 1) := by decide +kernel
theorem dX7_of_79 : decode cX7_of 79 = .ok (.iadd, 1) := by decide +kernel
theorem dX7_of_80 : decode cX7_of 80 = .ok (.iaload, 1) := by decide +kernel
theorem dX7_of_81 : decode cX7_of 81 = .ok (.ireturn, 1) := by decide +kernel
theorem dX7_at_0 : decode cX7_at 0 = .ok (.iload_n 1, 1) := by decide +kernel
theorem dX7_at_1 : decode cX7_at 1 = .ok (.invokestatic 72, 3) := by decide +kernel
theorem dX7_at_4 : decode cX7_at 4 = .ok (.ifCond .eq 14, 3) := by decide +kernel
theorem dX7_at_7 : decode cX7_at 7 = .ok (.aload_n 0, 1) := by decide +kernel
theorem dX7_at_8 : decode cX7_at 8 = .ok (.getfield 7, 3) := by decide +kernel
theorem dX7_at_11 : decode cX7_at 11 = .ok (.iload_n 1, 1) := by decide +kernel
theorem dX7_at_12 : decode cX7_at 12 = .ok (.invokestatic 83, 3) := by decide +kernel
theorem dX7_at_15 : decode cX7_at 15 = .ok (.goto 9, 3) := by decide +kernel
theorem dX7_at_18 : decode cX7_at 18 = .ok (.aload_n 0, 1) := by decide +kernel
theorem dX7_at_19 : decode cX7_at 19 = .ok (.bipush (-10), 2) := by decide +kernel
theorem dX7_at_21 : decode cX7_at 21 = .ok (.invokevirtual 79, 3) := by decide +kernel
theorem dX7_at_24 : decode cX7_at 24 = .ok (.ireturn, 1) := by decide +kernel
theorem dX7_way_0 : decode cX7_way 0 = .ok (.aload_n 0, 1) := by decide +kernel
theorem dX7_way_1 : decode cX7_way 1 = .ok (.iload_n 1, 1) := by decide +kernel
theorem dX7_way_2 : decode cX7_way 2 = .ok (.invokevirtual 146, 3) := by decide +kernel
theorem dX7_way_5 : decode cX7_way 5 = .ok (.ifCond .ne 10, 3) := by decide +kernel
theorem dX7_way_8 : decode cX7_way 8 = .ok (.aload_n 0, 1) := by decide +kernel
theorem dX7_way_9 : decode cX7_way 9 = .ok (.bipush (-2), 2) := by decide +kernel
theorem dX7_way_11 : decode cX7_way 11 = .ok (.invokevirtual 79, 3) := by decide +kernel
theorem dX7_way_14 : decode cX7_way 14 = .ok (.ireturn, 1) := by decide +kernel
theorem dX7_way_15 : decode cX7_way 15 = .ok (.aload_n 0, 1) := by decide +kernel
theorem dX7_way_16 : decode cX7_way 16 = .ok (.invokevirtual 135, 3) := by decide +kernel
theorem dX7_way_19 : decode cX7_way 19 = .ok (.aload_n 0, 1) := by decide +kernel
theorem dX7_way_20 : decode cX7_way 20 = .ok (.iload_n 1, 1) := by decide +kernel
theorem dX7_way_21 : decode cX7_way 21 = .ok (.invokevirtual 120, 3) := by decide +kernel
theorem dX7_way_24 : decode cX7_way 24 = .ok (.ireturn, 1) := by decide +kernel
theorem dX7_then_0 : decode cX7_then 0 = .ok (.aload_n 0, 1) := by decide +kernel
theorem dX7_then_1 : decode cX7_then 1 = .ok (.iload_n 1, 1) := by decide +kernel
theorem dX7_then_2 : decode cX7_then 2 = .ok (.invokevirtual 146, 3) := by decide +kernel
theorem dX7_then_5 : decode cX7_then 5 = .ok (.ifCond .eq 27, 3) := by decide +kernel
theorem dX7_then_8 : decode cX7_then 8 = .ok (.iload_n 2, 1) := by decide +kernel
theorem dX7_then_9 : decode cX7_then 9 = .ok (.i2l, 1) := by decide +kernel
theorem dX7_then_10 : decode cX7_then 10 = .ok (.lconst 0, 1) := by decide +kernel
theorem dX7_then_11 : decode cX7_then 11 = .ok (.ldc2_w 130, 3) := by decide +kernel
theorem dX7_then_14 : decode cX7_then 14 = .ok (.invokestatic 62, 3) := by decide +kernel
theorem dX7_then_17 : decode cX7_then 17 = .ok (.ifCond .eq 15, 3) := by decide +kernel
theorem dX7_then_20 : decode cX7_then 20 = .ok (.iload_n 3, 1) := by decide +kernel
theorem dX7_then_21 : decode cX7_then 21 = .ok (.i2l, 1) := by decide +kernel
theorem dX7_then_22 : decode cX7_then 22 = .ok (.lconst 0, 1) := by decide +kernel
theorem dX7_then_23 : decode cX7_then 23 = .ok (.ldc2_w 68, 3) := by decide +kernel
theorem dX7_then_26 : decode cX7_then 26 = .ok (.invokestatic 62, 3) := by decide +kernel
theorem dX7_then_29 : decode cX7_then 29 = .ok (.ifCond .ne 10, 3) := by decide +kernel
theorem dX7_then_32 : decode cX7_then 32 = .ok (.aload_n 0, 1) := by decide +kernel
theorem dX7_then_33 : decode cX7_then 33 = .ok (.bipush (-2), 2) := by decide +kernel
theorem dX7_then_35 : decode cX7_then 35 = .ok (.invokevirtual 79, 3) := by decide +kernel
theorem dX7_then_38 : decode cX7_then 38 = .ok (.ireturn, 1) := by decide +kernel
theorem dX7_then_39 : decode cX7_then 39 = .ok (.aload_n 0, 1) := by decide +kernel
theorem dX7_then_40 : decode cX7_then 40 = .ok (.invokevirtual 135, 3) := by decide +kernel
theorem dX7_then_43 : decode cX7_then 43 = .ok (.aload_n 0, 1) := by decide +kernel
theorem dX7_then_44 : decode cX7_then 44 = .ok (.iload_n 2, 1) := by decide +kernel
theorem dX7_then_45 : decode cX7_then 45 = .ok (.invokevirtual 138, 3) := by decide +kernel
theorem dX7_then_48 : decode cX7_then 48 = .ok (.istore 4, 2) := by decide +kernel
theorem dX7_then_50 : decode cX7_then 50 = .ok (.aload_n 0, 1) := by decide +kernel
theorem dX7_then_51 : decode cX7_then 51 = .ok (.getfield 27, 3) := by decide +kernel
theorem dX7_then_54 : decode cX7_then 54 = .ok (.iconst 5, 1) := by decide +kernel
theorem dX7_then_55 : decode cX7_then 55 = .ok (.iload_n 3, 1) := by decide +kernel
theorem dX7_then_56 : decode cX7_then 56 = .ok (.imul, 1) := by decide +kernel
theorem dX7_then_57 : decode cX7_then 57 = .ok (.iload_n 1, 1) := by decide +kernel
theorem dX7_then_58 : decode cX7_then 58 = .ok (.iadd, 1) := by decide +kernel
theorem dX7_then_59 : decode cX7_then 59 = .ok (.iaload, 1) := by decide +kernel
theorem dX7_then_60 : decode cX7_then 60 = .ok (.ireturn, 1) := by decide +kernel
theorem dX7_when_0 : decode cX7_when 0 = .ok (.aload_n 0, 1) := by decide +kernel
theorem dX7_when_1 : decode cX7_when 1 = .ok (.iload_n 1, 1) := by decide +kernel
theorem dX7_when_2 : decode cX7_when 2 = .ok (.invokevirtual 146, 3) := by decide +kernel
theorem dX7_when_5 : decode cX7_when 5 = .ok (.ifCond .ne 10, 3) := by decide +kernel
theorem dX7_when_8 : decode cX7_when 8 = .ok (.aload_n 0, 1) := by decide +kernel
theorem dX7_when_9 : decode cX7_when 9 = .ok (.bipush (-2), 2) := by decide +kernel
theorem dX7_when_11 : decode cX7_when 11 = .ok (.invokevirtual 79, 3) := by decide +kernel
theorem dX7_when_14 : decode cX7_when 14 = .ok (.ireturn, 1) := by decide +kernel
theorem dX7_when_15 : decode cX7_when 15 = .ok (.aload_n 0, 1) := by decide +kernel
theorem dX7_when_16 : decode cX7_when 16 = .ok (.invokevirtual 135, 3) := by decide +kernel
theorem dX7_when_19 : decode cX7_when 19 = .ok (.iconst 1, 1) := by decide +kernel
theorem dX7_when_20 : decode cX7_when 20 = .ok (.istore_n 2, 1) := by decide +kernel
theorem dX7_when_21 : decode cX7_when 21 = .ok (.iload_n 2, 1) := by decide +kernel
theorem dX7_when_22 : decode cX7_when 22 = .ok (.bipush 60, 2) := by decide +kernel
theorem dX7_when_24 : decode cX7_when 24 = .ok (.if_icmp .gt 36, 3) := by decide +kernel
theorem dX7_when_27 : decode cX7_when 27 = .ok (.aload_n 0, 1) := by decide +kernel
theorem dX7_when_28 : decode cX7_when 28 = .ok (.iconst 1, 1) := by decide +kernel
theorem dX7_when_29 : decode cX7_when 29 = .ok (.invokevirtual 138, 3) := by decide +kernel
theorem dX7_when_32 : decode cX7_when 32 = .ok (.istore_n 3, 1) := by decide +kernel
theorem dX7_when_33 : decode cX7_when 33 = .ok (.aload_n 0, 1) := by decide +kernel
theorem dX7_when_34 : decode cX7_when 34 = .ok (.getfield 27, 3) := by decide +kernel
theorem dX7_when_37 : decode cX7_when 37 = .ok (.bipush 10, 2) := by decide +kernel
theorem dX7_when_39 : decode cX7_when 39 = .ok (.iload_n 1, 1) := by decide +kernel
theorem dX7_when_40 : decode cX7_when 40 = .ok (.iadd, 1) := by decide +kernel
theorem dX7_when_41 : decode cX7_when 41 = .ok (.iaload, 1) := by decide +kernel
theorem dX7_when_42 : decode cX7_when 42 = .ok (.aload_n 0, 1) := by decide +kernel
theorem dX7_when_43 : decode cX7_when 43 = .ok (.bipush 10, 2) := by decide +kernel
theorem dX7_when_45 : decode cX7_when 45 = .ok (.iload_n 1, 1) := by decide +kernel
theorem dX7_when_46 : decode cX7_when 46 = .ok (.invokevirtual 143, 3) := by decide +kernel
theorem dX7_when_49 : decode cX7_when 49 = .ok (.if_icmp .le 5, 3) := by decide +kernel
theorem dX7_when_52 : decode cX7_when 52 = .ok (.iload_n 2, 1) := by decide +kernel
theorem dX7_when_53 : decode cX7_when 53 = .ok (.ireturn, 1) := by decide +kernel
theorem dX7_when_54 : decode cX7_when 54 = .ok (.iinc 2 1, 3) := by decide +kernel
theorem dX7_when_57 : decode cX7_when 57 = .ok (.goto (-36), 3) := by decide +kernel
theorem dX7_when_60 : decode cX7_when 60 = .ok (.iconst (-1), 1) := by decide +kernel
theorem dX7_when_61 : decode cX7_when 61 = .ok (.ireturn, 1) := by decide +kernel
theorem dX7_bumps_0 : decode cX7_bumps 0 = .ok (.iload_n 1, 1) := by decide +kernel
theorem dX7_bumps_1 : decode cX7_bumps 1 = .ok (.i2l, 1) := by decide +kernel
theorem dX7_bumps_2 : decode cX7_bumps 2 = .ok (.lconst 0, 1) := by decide +kernel
theorem dX7_bumps_3 : decode cX7_bumps 3 = .ok (.ldc2_w 130, 3) := by decide +kernel
theorem dX7_bumps_6 : decode cX7_bumps 6 = .ok (.invokestatic 62, 3) := by decide +kernel
theorem dX7_bumps_9 : decode cX7_bumps 9 = .ok (.ifCond .ne 10, 3) := by decide +kernel
theorem dX7_bumps_12 : decode cX7_bumps 12 = .ok (.aload_n 0, 1) := by decide +kernel
theorem dX7_bumps_13 : decode cX7_bumps 13 = .ok (.bipush (-2), 2) := by decide +kernel
theorem dX7_bumps_15 : decode cX7_bumps 15 = .ok (.invokevirtual 79, 3) := by decide +kernel
theorem dX7_bumps_18 : decode cX7_bumps 18 = .ok (.ireturn, 1) := by decide +kernel
theorem dX7_bumps_19 : decode cX7_bumps 19 = .ok (.aload_n 0, 1) := by decide +kernel
theorem dX7_bumps_20 : decode cX7_bumps 20 = .ok (.invokevirtual 135, 3) := by decide +kernel
theorem dX7_bumps_23 : decode cX7_bumps 23 = .ok (.aload_n 0, 1) := by decide +kernel
theorem dX7_bumps_24 : decode cX7_bumps 24 = .ok (.iload_n 1, 1) := by decide +kernel
theorem dX7_bumps_25 : decode cX7_bumps 25 = .ok (.invokevirtual 138, 3) := by decide +kernel
theorem dX7_bumps_28 : decode cX7_bumps 28 = .ok (.ireturn, 1) := by decide +kernel
theorem dX7_miles_0 : decode cX7_miles 0 = .ok (.iload_n 0, 1) := by decide +kernel
theorem dX7_miles_1 : decode cX7_miles 1 = .ok (.bipush 6, 2) := by decide +kernel
theorem dX7_miles_3 : decode cX7_miles 3 = .ok (.irem, 1) := by decide +kernel
theorem dX7_miles_4 : decode cX7_miles 4 = .ok (.iload_n 1, 1) := by decide +kernel
theorem dX7_miles_5 : decode cX7_miles 5 = .ok (.bipush 6, 2) := by decide +kernel
theorem dX7_miles_7 : decode cX7_miles 7 = .ok (.irem, 1) := by decide +kernel
theorem dX7_miles_8 : decode cX7_miles 8 = .ok (.invokestatic 104, 3) := by decide +kernel
theorem dX7_miles_11 : decode cX7_miles 11 = .ok (.iload_n 0, 1) := by decide +kernel
theorem dX7_miles_12 : decode cX7_miles 12 = .ok (.bipush 6, 2) := by decide +kernel
theorem dX7_miles_14 : decode cX7_miles 14 = .ok (.idiv, 1) := by decide +kernel
theorem dX7_miles_15 : decode cX7_miles 15 = .ok (.iload_n 1, 1) := by decide +kernel
theorem dX7_miles_16 : decode cX7_miles 16 = .ok (.bipush 6, 2) := by decide +kernel
theorem dX7_miles_18 : decode cX7_miles 18 = .ok (.idiv, 1) := by decide +kernel
theorem dX7_miles_19 : decode cX7_miles 19 = .ok (.invokestatic 104, 3) := by decide +kernel
theorem dX7_miles_22 : decode cX7_miles 22 = .ok (.iadd, 1) := by decide +kernel
theorem dX7_miles_23 : decode cX7_miles 23 = .ok (.ireturn, 1) := by decide +kernel
theorem dX7_joined_0 : decode cX7_joined 0 = .ok (.iconst 1, 1) := by decide +kernel
theorem dX7_joined_1 : decode cX7_joined 1 = .ok (.iload_n 1, 1) := by decide +kernel
theorem dX7_joined_2 : decode cX7_joined 2 = .ok (.ishl, 1) := by decide +kernel
theorem dX7_joined_3 : decode cX7_joined 3 = .ok (.istore_n 2, 1) := by decide +kernel
theorem dX7_joined_4 : decode cX7_joined 4 = .ok (.iconst 0, 1) := by decide +kernel
theorem dX7_joined_5 : decode cX7_joined 5 = .ok (.istore_n 3, 1) := by decide +kernel
theorem dX7_joined_6 : decode cX7_joined 6 = .ok (.iload_n 3, 1) := by decide +kernel
theorem dX7_joined_7 : decode cX7_joined 7 = .ok (.iconst 5, 1) := by decide +kernel
theorem dX7_joined_8 : decode cX7_joined 8 = .ok (.if_icmp .ge 86, 3) := by decide +kernel
theorem dX7_joined_11 : decode cX7_joined 11 = .ok (.iconst 0, 1) := by decide +kernel
theorem dX7_joined_12 : decode cX7_joined 12 = .ok (.istore 4, 2) := by decide +kernel
theorem dX7_joined_14 : decode cX7_joined 14 = .ok (.iload 4, 2) := by decide +kernel
theorem dX7_joined_16 : decode cX7_joined 16 = .ok (.aload_n 0, 1) := by decide +kernel
theorem dX7_joined_17 : decode cX7_joined 17 = .ok (.invokevirtual 58, 3) := by decide +kernel
theorem dX7_joined_20 : decode cX7_joined 20 = .ok (.if_icmp .ge 68, 3) := by decide +kernel
theorem dX7_joined_23 : decode cX7_joined 23 = .ok (.iconst 0, 1) := by decide +kernel
theorem dX7_joined_24 : decode cX7_joined 24 = .ok (.istore 5, 2) := by decide +kernel
theorem dX7_joined_26 : decode cX7_joined 26 = .ok (.iload 5, 2) := by decide +kernel
theorem dX7_joined_28 : decode cX7_joined 28 = .ok (.aload_n 0, 1) := by decide +kernel
theorem dX7_joined_29 : decode cX7_joined 29 = .ok (.invokevirtual 58, 3) := by decide +kernel
theorem dX7_joined_32 : decode cX7_joined 32 = .ok (.if_icmp .ge 50, 3) := by decide +kernel
theorem dX7_joined_35 : decode cX7_joined 35 = .ok (.iload_n 2, 1) := by decide +kernel
theorem dX7_joined_36 : decode cX7_joined 36 = .ok (.iload_n 2, 1) := by decide +kernel
theorem dX7_joined_37 : decode cX7_joined 37 = .ok (.iload 4, 2) := by decide +kernel
theorem dX7_joined_39 : decode cX7_joined 39 = .ok (.invokestatic 151, 3) := by decide +kernel
theorem dX7_joined_42 : decode cX7_joined 42 = .ok (.ifCond .eq 31, 3) := by decide +kernel
theorem dX7_joined_45 : decode cX7_joined 45 = .ok (.aload_n 0, 1) := by decide +kernel
theorem dX7_joined_46 : decode cX7_joined 46 = .ok (.iconst 0, 1) := by decide +kernel
theorem dX7_joined_47 : decode cX7_joined 47 = .ok (.iload 4, 2) := by decide +kernel
theorem dX7_joined_49 : decode cX7_joined 49 = .ok (.invokevirtual 143, 3) := by decide +kernel
theorem dX7_joined_52 : decode cX7_joined 52 = .ok (.aload_n 0, 1) := by decide +kernel
theorem dX7_joined_53 : decode cX7_joined 53 = .ok (.iconst 0, 1) := by decide +kernel
theorem dX7_joined_54 : decode cX7_joined 54 = .ok (.iload 5, 2) := by decide +kernel
theorem dX7_joined_56 : decode cX7_joined 56 = .ok (.invokevirtual 143, 3) := by decide +kernel
theorem dX7_joined_59 : decode cX7_joined 59 = .ok (.invokestatic 155, 3) := by decide +kernel
theorem dX7_joined_62 : decode cX7_joined 62 = .ok (.iconst 1, 1) := by decide +kernel
theorem dX7_joined_63 : decode cX7_joined 63 = .ok (.if_icmp .ne 10, 3) := by decide +kernel
theorem dX7_joined_66 : decode cX7_joined 66 = .ok (.iconst 1, 1) := by decide +kernel
theorem dX7_joined_67 : decode cX7_joined 67 = .ok (.iload 5, 2) := by decide +kernel
theorem dX7_joined_69 : decode cX7_joined 69 = .ok (.ishl, 1) := by decide +kernel
theorem dX7_joined_70 : decode cX7_joined 70 = .ok (.goto 4, 3) := by decide +kernel
theorem dX7_joined_73 : decode cX7_joined 73 = .ok (.iconst 0, 1) := by decide +kernel
theorem dX7_joined_74 : decode cX7_joined 74 = .ok (.ior, 1) := by decide +kernel
theorem dX7_joined_75 : decode cX7_joined 75 = .ok (.istore_n 2, 1) := by decide +kernel
theorem dX7_joined_76 : decode cX7_joined 76 = .ok (.iinc 5 1, 3) := by decide +kernel
theorem dX7_joined_79 : decode cX7_joined 79 = .ok (.goto (-53), 3) := by decide +kernel
theorem dX7_joined_82 : decode cX7_joined 82 = .ok (.iinc 4 1, 3) := by decide +kernel
theorem dX7_joined_85 : decode cX7_joined 85 = .ok (.goto (-71), 3) := by decide +kernel
theorem dX7_joined_88 : decode cX7_joined 88 = .ok (.iinc 3 1, 3) := by decide +kernel
theorem dX7_joined_91 : decode cX7_joined 91 = .ok (.goto (-85), 3) := by decide +kernel
theorem dX7_joined_94 : decode cX7_joined 94 = .ok (.iload_n 2, 1) := by decide +kernel
theorem dX7_joined_95 : decode cX7_joined 95 = .ok (.ireturn, 1) := by decide +kernel
theorem dX7_cluster_0 : decode cX7_cluster 0 = .ok (.iload_n 1, 1) := by decide +kernel
theorem dX7_cluster_1 : decode cX7_cluster 1 = .ok (.i2l, 1) := by decide +kernel
theorem dX7_cluster_2 : decode cX7_cluster 2 = .ok (.lconst 0, 1) := by decide +kernel
theorem dX7_cluster_3 : decode cX7_cluster 3 = .ok (.lconst 1, 1) := by decide +kernel
theorem dX7_cluster_4 : decode cX7_cluster 4 = .ok (.invokestatic 62, 3) := by decide +kernel
theorem dX7_cluster_7 : decode cX7_cluster 7 = .ok (.ifCond .ne 10, 3) := by decide +kernel
theorem dX7_cluster_10 : decode cX7_cluster 10 = .ok (.aload_n 0, 1) := by decide +kernel
theorem dX7_cluster_11 : decode cX7_cluster 11 = .ok (.bipush (-2), 2) := by decide +kernel
theorem dX7_cluster_13 : decode cX7_cluster 13 = .ok (.invokevirtual 79, 3) := by decide +kernel
theorem dX7_cluster_16 : decode cX7_cluster 16 = .ok (.ireturn, 1) := by decide +kernel
theorem dX7_cluster_17 : decode cX7_cluster 17 = .ok (.iconst 0, 1) := by decide +kernel
theorem dX7_cluster_18 : decode cX7_cluster 18 = .ok (.istore_n 2, 1) := by decide +kernel
theorem dX7_cluster_19 : decode cX7_cluster 19 = .ok (.iconst 0, 1) := by decide +kernel
theorem dX7_cluster_20 : decode cX7_cluster 20 = .ok (.istore_n 3, 1) := by decide +kernel
theorem dX7_cluster_21 : decode cX7_cluster 21 = .ok (.iload_n 3, 1) := by decide +kernel
theorem dX7_cluster_22 : decode cX7_cluster 22 = .ok (.aload_n 0, 1) := by decide +kernel
theorem dX7_cluster_23 : decode cX7_cluster 23 = .ok (.invokevirtual 58, 3) := by decide +kernel
theorem dX7_cluster_26 : decode cX7_cluster 26 = .ok (.if_icmp .ge 34, 3) := by decide +kernel
theorem dX7_cluster_29 : decode cX7_cluster 29 = .ok (.aload_n 0, 1) := by decide +kernel
theorem dX7_cluster_30 : decode cX7_cluster 30 = .ok (.iload_n 3, 1) := by decide +kernel
theorem dX7_cluster_31 : decode cX7_cluster 31 = .ok (.invokevirtual 158, 3) := by decide +kernel
theorem dX7_cluster_34 : decode cX7_cluster 34 = .ok (.invokestatic 161, 3) := by decide +kernel
theorem dX7_cluster_37 : decode cX7_cluster 37 = .ok (.iload_n 2, 1) := by decide +kernel
theorem dX7_cluster_38 : decode cX7_cluster 38 = .ok (.invokestatic 161, 3) := by decide +kernel
theorem dX7_cluster_41 : decode cX7_cluster 41 = .ok (.if_icmp .le 11, 3) := by decide +kernel
theorem dX7_cluster_44 : decode cX7_cluster 44 = .ok (.aload_n 0, 1) := by decide +kernel
theorem dX7_cluster_45 : decode cX7_cluster 45 = .ok (.iload_n 3, 1) := by decide +kernel
theorem dX7_cluster_46 : decode cX7_cluster 46 = .ok (.invokevirtual 158, 3) := by decide +kernel
theorem dX7_cluster_49 : decode cX7_cluster 49 = .ok (.goto 4, 3) := by decide +kernel
theorem dX7_cluster_52 : decode cX7_cluster 52 = .ok (.iload_n 2, 1) := by decide +kernel
theorem dX7_cluster_53 : decode cX7_cluster 53 = .ok (.istore_n 2, 1) := by decide +kernel
theorem dX7_cluster_54 : decode cX7_cluster 54 = .ok (.iinc 3 1, 3) := by decide +kernel
theorem dX7_cluster_57 : decode cX7_cluster 57 = .ok (.goto (-36), 3) := by decide +kernel
theorem dX7_cluster_60 : decode cX7_cluster 60 = .ok (.iload_n 1, 1) := by decide +kernel
theorem dX7_cluster_61 : decode cX7_cluster 61 = .ok (.ifCond .ne 10, 3) := by decide +kernel
theorem dX7_cluster_64 : decode cX7_cluster 64 = .ok (.iload_n 2, 1) := by decide +kernel
theorem dX7_cluster_65 : decode cX7_cluster 65 = .ok (.invokestatic 161, 3) := by decide +kernel
theorem dX7_cluster_68 : decode cX7_cluster 68 = .ok (.goto 4, 3) := by decide +kernel
theorem dX7_cluster_71 : decode cX7_cluster 71 = .ok (.iload_n 2, 1) := by decide +kernel
theorem dX7_cluster_72 : decode cX7_cluster 72 = .ok (.ireturn, 1) := by decide +kernel
theorem dX7_stand_0 : decode cX7_stand 0 = .ok (.iload_n 1, 1) := by decide +kernel
theorem dX7_stand_1 : decode cX7_stand 1 = .ok (.i2l, 1) := by decide +kernel
theorem dX7_stand_2 : decode cX7_stand 2 = .ok (.lconst 0, 1) := by decide +kernel
theorem dX7_stand_3 : decode cX7_stand 3 = .ok (.lconst 1, 1) := by decide +kernel
theorem dX7_stand_4 : decode cX7_stand 4 = .ok (.invokestatic 62, 3) := by decide +kernel
theorem dX7_stand_7 : decode cX7_stand 7 = .ok (.ifCond .ne 10, 3) := by decide +kernel
theorem dX7_stand_10 : decode cX7_stand 10 = .ok (.aload_n 0, 1) := by decide +kernel
theorem dX7_stand_11 : decode cX7_stand 11 = .ok (.bipush (-2), 2) := by decide +kernel
theorem dX7_stand_13 : decode cX7_stand 13 = .ok (.invokevirtual 79, 3) := by decide +kernel
theorem dX7_stand_16 : decode cX7_stand 16 = .ok (.ireturn, 1) := by decide +kernel
theorem dX7_stand_17 : decode cX7_stand 17 = .ok (.iconst (-1), 1) := by decide +kernel
theorem dX7_stand_18 : decode cX7_stand 18 = .ok (.istore_n 2, 1) := by decide +kernel
theorem dX7_stand_19 : decode cX7_stand 19 = .ok (.ldc 164, 2) := by decide +kernel
theorem dX7_stand_21 : decode cX7_stand 21 = .ok (.istore_n 3, 1) := by decide +kernel
theorem dX7_stand_22 : decode cX7_stand 22 = .ok (.iconst 0, 1) := by decide +kernel
theorem dX7_stand_23 : decode cX7_stand 23 = .ok (.istore 4, 2) := by decide +kernel
theorem dX7_stand_25 : decode cX7_stand 25 = .ok (.iload 4, 2) := by decide +kernel
theorem dX7_stand_27 : decode cX7_stand 27 = .ok (.bipush 24, 2) := by decide +kernel
theorem dX7_stand_29 : decode cX7_stand 29 = .ok (.if_icmp .ge 91, 3) := by decide +kernel
theorem dX7_stand_32 : decode cX7_stand 32 = .ok (.aload_n 0, 1) := by decide +kernel
theorem dX7_stand_33 : decode cX7_stand 33 = .ok (.getfield 7, 3) := by decide +kernel
theorem dX7_stand_36 : decode cX7_stand 36 = .ok (.iload 4, 2) := by decide +kernel
theorem dX7_stand_38 : decode cX7_stand 38 = .ok (.invokestatic 83, 3) := by decide +kernel
theorem dX7_stand_41 : decode cX7_stand 41 = .ok (.iconst (-1), 1) := by decide +kernel
theorem dX7_stand_42 : decode cX7_stand 42 = .ok (.if_icmp .ne 7, 3) := by decide +kernel
theorem dX7_stand_45 : decode cX7_stand 45 = .ok (.iconst 0, 1) := by decide +kernel
theorem dX7_stand_46 : decode cX7_stand 46 = .ok (.goto 5, 3) := by decide +kernel
theorem dX7_stand_49 : decode cX7_stand 49 = .ok (.ldc 164, 2) := by decide +kernel
theorem dX7_stand_51 : decode cX7_stand 51 = .ok (.istore 5, 2) := by decide +kernel
theorem dX7_stand_53 : decode cX7_stand 53 = .ok (.iconst 0, 1) := by decide +kernel
theorem dX7_stand_54 : decode cX7_stand 54 = .ok (.istore 6, 2) := by decide +kernel
theorem dX7_stand_56 : decode cX7_stand 56 = .ok (.iload 6, 2) := by decide +kernel
theorem dX7_stand_58 : decode cX7_stand 58 = .ok (.aload_n 0, 1) := by decide +kernel
theorem dX7_stand_59 : decode cX7_stand 59 = .ok (.invokevirtual 58, 3) := by decide +kernel
theorem dX7_stand_62 : decode cX7_stand 62 = .ok (.if_icmp .ge 26, 3) := by decide +kernel
theorem dX7_stand_65 : decode cX7_stand 65 = .ok (.iload 5, 2) := by decide +kernel
theorem dX7_stand_67 : decode cX7_stand 67 = .ok (.iload 4, 2) := by decide +kernel
theorem dX7_stand_69 : decode cX7_stand 69 = .ok (.aload_n 0, 1) := by decide +kernel
theorem dX7_stand_70 : decode cX7_stand 70 = .ok (.iconst 0, 1) := by decide +kernel
theorem dX7_stand_71 : decode cX7_stand 71 = .ok (.iload 6, 2) := by decide +kernel
theorem dX7_stand_73 : decode cX7_stand 73 = .ok (.invokevirtual 143, 3) := by decide +kernel
theorem dX7_stand_76 : decode cX7_stand 76 = .ok (.invokestatic 155, 3) := by decide +kernel
theorem dX7_stand_79 : decode cX7_stand 79 = .ok (.iadd, 1) := by decide +kernel
theorem dX7_stand_80 : decode cX7_stand 80 = .ok (.istore 5, 2) := by decide +kernel
theorem dX7_stand_82 : decode cX7_stand 82 = .ok (.iinc 6 1, 3) := by decide +kernel
theorem dX7_stand_85 : decode cX7_stand 85 = .ok (.goto (-29), 3) := by decide +kernel
theorem dX7_stand_88 : decode cX7_stand 88 = .ok (.iload 5, 2) := by decide +kernel
theorem dX7_stand_90 : decode cX7_stand 90 = .ok (.iload_n 3, 1) := by decide +kernel
theorem dX7_stand_91 : decode cX7_stand 91 = .ok (.if_icmp .ge 8, 3) := by decide +kernel
theorem dX7_stand_94 : decode cX7_stand 94 = .ok (.iload 4, 2) := by decide +kernel
theorem dX7_stand_96 : decode cX7_stand 96 = .ok (.goto 4, 3) := by decide +kernel
theorem dX7_stand_99 : decode cX7_stand 99 = .ok (.iload_n 2, 1) := by decide +kernel
theorem dX7_stand_100 : decode cX7_stand 100 = .ok (.istore_n 2, 1) := by decide +kernel
theorem dX7_stand_101 : decode cX7_stand 101 = .ok (.iload 5, 2) := by decide +kernel
theorem dX7_stand_103 : decode cX7_stand 103 = .ok (.iload_n 3, 1) := by decide +kernel
theorem dX7_stand_104 : decode cX7_stand 104 = .ok (.if_icmp .ge 8, 3) := by decide +kernel
theorem dX7_stand_107 : decode cX7_stand 107 = .ok (.iload 5, 2) := by decide +kernel
theorem dX7_stand_109 : decode cX7_stand 109 = .ok (.goto 4, 3) := by decide +kernel
theorem dX7_stand_112 : decode cX7_stand 112 = .ok (.iload_n 3, 1) := by decide +kernel
theorem dX7_stand_113 : decode cX7_stand 113 = .ok (.istore_n 3, 1) := by decide +kernel
theorem dX7_stand_114 : decode cX7_stand 114 = .ok (.iinc 4 1, 3) := by decide +kernel
theorem dX7_stand_117 : decode cX7_stand 117 = .ok (.goto (-92), 3) := by decide +kernel
theorem dX7_stand_120 : decode cX7_stand 120 = .ok (.iload_n 1, 1) := by decide +kernel
theorem dX7_stand_121 : decode cX7_stand 121 = .ok (.ifCond .ne 7, 3) := by decide +kernel
theorem dX7_stand_124 : decode cX7_stand 124 = .ok (.iload_n 2, 1) := by decide +kernel
theorem dX7_stand_125 : decode cX7_stand 125 = .ok (.goto 4, 3) := by decide +kernel
theorem dX7_stand_128 : decode cX7_stand 128 = .ok (.iload_n 3, 1) := by decide +kernel
theorem dX7_stand_129 : decode cX7_stand 129 = .ok (.ireturn, 1) := by decide +kernel
theorem dX7_layWays_0 : decode cX7_layWays 0 = .ok (.aload_n 0, 1) := by decide +kernel
theorem dX7_layWays_1 : decode cX7_layWays 1 = .ok (.iconst (-1), 1) := by decide +kernel
theorem dX7_layWays_2 : decode cX7_layWays 2 = .ok (.putfield 165, 3) := by decide +kernel
theorem dX7_layWays_5 : decode cX7_layWays 5 = .ok (.iconst 0, 1) := by decide +kernel
theorem dX7_layWays_6 : decode cX7_layWays 6 = .ok (.istore 4, 2) := by decide +kernel
theorem dX7_layWays_8 : decode cX7_layWays 8 = .ok (.iload 4, 2) := by decide +kernel
theorem dX7_layWays_10 : decode cX7_layWays 10 = .ok (.iconst 1, 1) := by decide +kernel
theorem dX7_layWays_11 : decode cX7_layWays 11 = .ok (.iconst 2, 1) := by decide +kernel
theorem dX7_layWays_12 : decode cX7_layWays 12 = .ok (.iload_n 2, 1) := by decide +kernel
theorem dX7_layWays_13 : decode cX7_layWays 13 = .ok (.imul, 1) := by decide +kernel
theorem dX7_layWays_14 : decode cX7_layWays 14 = .ok (.ishl, 1) := by decide +kernel
theorem dX7_layWays_15 : decode cX7_layWays 15 = .ok (.if_icmp .ge 199, 3) := by decide +kernel
theorem dX7_layWays_18 : decode cX7_layWays 18 = .ok (.aload_n 0, 1) := by decide +kernel
theorem dX7_layWays_19 : decode cX7_layWays 19 = .ok (.invokevirtual 135, 3) := by decide +kernel
theorem dX7_layWays_22 : decode cX7_layWays 22 = .ok (.iconst 0, 1) := by decide +kernel
theorem dX7_layWays_23 : decode cX7_layWays 23 = .ok (.istore 5, 2) := by decide +kernel
theorem dX7_layWays_25 : decode cX7_layWays 25 = .ok (.iload 5, 2) := by decide +kernel
theorem dX7_layWays_27 : decode cX7_layWays 27 = .ok (.iload_n 2, 1) := by decide +kernel
theorem dX7_layWays_28 : decode cX7_layWays 28 = .ok (.if_icmp .ge 45, 3) := by decide +kernel
theorem dX7_layWays_31 : decode cX7_layWays 31 = .ok (.aload_n 0, 1) := by decide +kernel
theorem dX7_layWays_32 : decode cX7_layWays 32 = .ok (.getfield 30, 3) := by decide +kernel
theorem dX7_layWays_35 : decode cX7_layWays 35 = .ok (.iload 5, 2) := by decide +kernel
theorem dX7_layWays_37 : decode cX7_layWays 37 = .ok (.iload 4, 2) := by decide +kernel
theorem dX7_layWays_39 : decode cX7_layWays 39 = .ok (.iconst 2, 1) := by decide +kernel
theorem dX7_layWays_40 : decode cX7_layWays 40 = .ok (.iload_n 2, 1) := by decide +kernel
theorem dX7_layWays_41 : decode cX7_layWays 41 = .ok (.iconst 1, 1) := by decide +kernel
theorem dX7_layWays_42 : decode cX7_layWays 42 = .ok (.isub, 1) := by decide +kernel
theorem dX7_layWays_43 : decode cX7_layWays 43 = .ok (.iload 5, 2) := by decide +kernel
theorem dX7_layWays_45 : decode cX7_layWays 45 = .ok (.isub, 1) := by decide +kernel
theorem dX7_layWays_46 : decode cX7_layWays 46 = .ok (.imul, 1) := by decide +kernel
theorem dX7_layWays_47 : decode cX7_layWays 47 = .ok (.ishr, 1) := by decide +kernel
theorem dX7_layWays_48 : decode cX7_layWays 48 = .ok (.iconst 3, 1) := by decide +kernel
theorem dX7_layWays_49 : decode cX7_layWays 49 = .ok (.iand, 1) := by decide +kernel
theorem dX7_layWays_50 : decode cX7_layWays 50 = .ok (.iastore, 1) := by decide +kernel
theorem dX7_layWays_51 : decode cX7_layWays 51 = .ok (.aload_n 0, 1) := by decide +kernel
theorem dX7_layWays_52 : decode cX7_layWays 52 = .ok (.iload_n 1, 1) := by decide +kernel
theorem dX7_layWays_53 : decode cX7_layWays 53 = .ok (.aload_n 0, 1) := by decide +kernel
theorem dX7_layWays_54 : decode cX7_layWays 54 = .ok (.getfield 30, 3) := by decide +kernel
theorem dX7_layWays_57 : decode cX7_layWays 57 = .ok (.iload 5, 2) := by decide +kernel
theorem dX7_layWays_59 : decode cX7_layWays 59 = .ok (.iaload, 1) := by decide +kernel
theorem dX7_layWays_60 : decode cX7_layWays 60 = .ok (.iconst (-1), 1) := by decide +kernel
theorem dX7_layWays_61 : decode cX7_layWays 61 = .ok (.iconst 0, 1) := by decide +kernel
theorem dX7_layWays_62 : decode cX7_layWays 62 = .ok (.invokevirtual 126, 3) := by decide +kernel
theorem dX7_layWays_65 : decode cX7_layWays 65 = .ok (.istore 6, 2) := by decide +kernel
theorem dX7_layWays_67 : decode cX7_layWays 67 = .ok (.iinc 5 1, 3) := by decide +kernel
theorem dX7_layWays_70 : decode cX7_layWays 70 = .ok (.goto (-45), 3) := by decide +kernel
theorem dX7_layWays_73 : decode cX7_layWays 73 = .ok (.iload_n 3, 1) := by decide +kernel
theorem dX7_layWays_74 : decode cX7_layWays 74 = .ok (.ifCond .ne 23, 3) := by decide +kernel
theorem dX7_layWays_77 : decode cX7_layWays 77 = .ok (.aload_n 0, 1) := by decide +kernel
theorem dX7_layWays_78 : decode cX7_layWays 78 = .ok (.getfield 27, 3) := by decide +kernel
theorem dX7_layWays_81 : decode cX7_layWays 81 = .ok (.bipush 10, 2) := by decide +kernel
theorem dX7_layWays_83 : decode cX7_layWays 83 = .ok (.iload_n 1, 1) := by decide +kernel
theorem dX7_layWays_84 : decode cX7_layWays 84 = .ok (.iadd, 1) := by decide +kernel
theorem dX7_layWays_85 : decode cX7_layWays 85 = .ok (.iaload, 1) := by decide +kernel
theorem dX7_layWays_86 : decode cX7_layWays 86 = .ok (.aload_n 0, 1) := by decide +kernel
theorem dX7_layWays_87 : decode cX7_layWays 87 = .ok (.bipush 10, 2) := by decide +kernel
theorem dX7_layWays_89 : decode cX7_layWays 89 = .ok (.iload_n 1, 1) := by decide +kernel
theorem dX7_layWays_90 : decode cX7_layWays 90 = .ok (.invokevirtual 143, 3) := by decide +kernel
theorem dX7_layWays_93 : decode cX7_layWays 93 = .ok (.isub, 1) := by decide +kernel
theorem dX7_layWays_94 : decode cX7_layWays 94 = .ok (.goto 20, 3) := by decide +kernel
theorem dX7_layWays_97 : decode cX7_layWays 97 = .ok (.aload_n 0, 1) := by decide +kernel
theorem dX7_layWays_98 : decode cX7_layWays 98 = .ok (.getfield 27, 3) := by decide +kernel
theorem dX7_layWays_101 : decode cX7_layWays 101 = .ok (.bipush 15, 2) := by decide +kernel
theorem dX7_layWays_103 : decode cX7_layWays 103 = .ok (.iload_n 1, 1) := by decide +kernel
theorem dX7_layWays_104 : decode cX7_layWays 104 = .ok (.iadd, 1) := by decide +kernel
theorem dX7_layWays_105 : decode cX7_layWays 105 = .ok (.iaload, 1) := by decide +kernel
theorem dX7_layWays_106 : decode cX7_layWays 106 = .ok (.aload_n 0, 1) := by decide +kernel
theorem dX7_layWays_107 : decode cX7_layWays 107 = .ok (.bipush 15, 2) := by decide +kernel
theorem dX7_layWays_109 : decode cX7_layWays 109 = .ok (.iload_n 1, 1) := by decide +kernel
theorem dX7_layWays_110 : decode cX7_layWays 110 = .ok (.invokevirtual 143, 3) := by decide +kernel
theorem dX7_layWays_113 : decode cX7_layWays 113 = .ok (.isub, 1) := by decide +kernel
theorem dX7_layWays_114 : decode cX7_layWays 114 = .ok (.istore 5, 2) := by decide +kernel
theorem dX7_layWays_116 : decode cX7_layWays 116 = .ok (.aload_n 0, 1) := by decide +kernel
theorem dX7_layWays_117 : decode cX7_layWays 117 = .ok (.getfield 165, 3) := by decide +kernel
theorem dX7_layWays_120 : decode cX7_layWays 120 = .ok (.iconst (-1), 1) := by decide +kernel
theorem dX7_layWays_121 : decode cX7_layWays 121 = .ok (.if_icmp .eq 28, 3) := by decide +kernel
theorem dX7_layWays_124 : decode cX7_layWays 124 = .ok (.iload_n 3, 1) := by decide +kernel
theorem dX7_layWays_125 : decode cX7_layWays 125 = .ok (.ifCond .ne 15, 3) := by decide +kernel
theorem dX7_layWays_128 : decode cX7_layWays 128 = .ok (.iload 5, 2) := by decide +kernel
theorem dX7_layWays_130 : decode cX7_layWays 130 = .ok (.aload_n 0, 1) := by decide +kernel
theorem dX7_layWays_131 : decode cX7_layWays 131 = .ok (.getfield 165, 3) := by decide +kernel
theorem dX7_layWays_134 : decode cX7_layWays 134 = .ok (.if_icmp .ge 19, 3) := by decide +kernel
theorem dX7_layWays_137 : decode cX7_layWays 137 = .ok (.goto 12, 3) := by decide +kernel
theorem dX7_layWays_140 : decode cX7_layWays 140 = .ok (.iload 5, 2) := by decide +kernel
theorem dX7_layWays_142 : decode cX7_layWays 142 = .ok (.aload_n 0, 1) := by decide +kernel
theorem dX7_layWays_143 : decode cX7_layWays 143 = .ok (.getfield 165, 3) := by decide +kernel
theorem dX7_layWays_146 : decode cX7_layWays 146 = .ok (.if_icmp .le 7, 3) := by decide +kernel
theorem dX7_layWays_149 : decode cX7_layWays 149 = .ok (.iconst 1, 1) := by decide +kernel
theorem dX7_layWays_150 : decode cX7_layWays 150 = .ok (.goto 4, 3) := by decide +kernel
theorem dX7_layWays_153 : decode cX7_layWays 153 = .ok (.iconst 0, 1) := by decide +kernel
theorem dX7_layWays_154 : decode cX7_layWays 154 = .ok (.istore 6, 2) := by decide +kernel
theorem dX7_layWays_156 : decode cX7_layWays 156 = .ok (.iconst 0, 1) := by decide +kernel
theorem dX7_layWays_157 : decode cX7_layWays 157 = .ok (.istore 7, 2) := by decide +kernel
theorem dX7_layWays_159 : decode cX7_layWays 159 = .ok (.iload 7, 2) := by decide +kernel
theorem dX7_layWays_161 : decode cX7_layWays 161 = .ok (.iload_n 2, 1) := by decide +kernel
theorem dX7_layWays_162 : decode cX7_layWays 162 = .ok (.if_icmp .ge 28, 3) := by decide +kernel
theorem dX7_layWays_165 : decode cX7_layWays 165 = .ok (.iload 6, 2) := by decide +kernel
theorem dX7_layWays_167 : decode cX7_layWays 167 = .ok (.ifCond .eq 23, 3) := by decide +kernel
theorem dX7_layWays_170 : decode cX7_layWays 170 = .ok (.aload_n 0, 1) := by decide +kernel
theorem dX7_layWays_171 : decode cX7_layWays 171 = .ok (.getfield 33, 3) := by decide +kernel
theorem dX7_layWays_174 : decode cX7_layWays 174 = .ok (.iload 7, 2) := by decide +kernel
theorem dX7_layWays_176 : decode cX7_layWays 176 = .ok (.aload_n 0, 1) := by decide +kernel
theorem dX7_layWays_177 : decode cX7_layWays 177 = .ok (.getfield 30, 3) := by decide +kernel
theorem dX7_layWays_180 : decode cX7_layWays 180 = .ok (.iload 7, 2) := by decide +kernel
theorem dX7_layWays_182 : decode cX7_layWays 182 = .ok (.iaload, 1) := by decide +kernel
theorem dX7_layWays_183 : decode cX7_layWays 183 = .ok (.iastore, 1) := by decide +kernel
theorem dX7_layWays_184 : decode cX7_layWays 184 = .ok (.iinc 7 1, 3) := by decide +kernel
theorem dX7_layWays_187 : decode cX7_layWays 187 = .ok (.goto (-28), 3) := by decide +kernel
theorem dX7_layWays_190 : decode cX7_layWays 190 = .ok (.aload_n 0, 1) := by decide +kernel
theorem dX7_layWays_191 : decode cX7_layWays 191 = .ok (.iload 6, 2) := by decide +kernel
theorem dX7_layWays_193 : decode cX7_layWays 193 = .ok (.ifCond .eq 8, 3) := by decide +kernel
theorem dX7_layWays_196 : decode cX7_layWays 196 = .ok (.iload 5, 2) := by decide +kernel
theorem dX7_layWays_198 : decode cX7_layWays 198 = .ok (.goto 7, 3) := by decide +kernel
theorem dX7_layWays_201 : decode cX7_layWays 201 = .ok (.aload_n 0, 1) := by decide +kernel
theorem dX7_layWays_202 : decode cX7_layWays 202 = .ok (.getfield 165, 3) := by decide +kernel
theorem dX7_layWays_205 : decode cX7_layWays 205 = .ok (.putfield 165, 3) := by decide +kernel
theorem dX7_layWays_208 : decode cX7_layWays 208 = .ok (.iinc 4 1, 3) := by decide +kernel
theorem dX7_layWays_211 : decode cX7_layWays 211 = .ok (.goto (-203), 3) := by decide +kernel
theorem dX7_layWays_214 : decode cX7_layWays 214 = .ok (.return_, 1) := by decide +kernel
theorem dX7_steer_0 : decode cX7_steer 0 = .ok (.aload_n 0, 1) := by decide +kernel
theorem dX7_steer_1 : decode cX7_steer 1 = .ok (.iload_n 1, 1) := by decide +kernel
theorem dX7_steer_2 : decode cX7_steer 2 = .ok (.invokevirtual 146, 3) := by decide +kernel
theorem dX7_steer_5 : decode cX7_steer 5 = .ok (.ifCond .eq 31, 3) := by decide +kernel
theorem dX7_steer_8 : decode cX7_steer 8 = .ok (.iload_n 2, 1) := by decide +kernel
theorem dX7_steer_9 : decode cX7_steer 9 = .ok (.i2l, 1) := by decide +kernel
theorem dX7_steer_10 : decode cX7_steer 10 = .ok (.lconst 1, 1) := by decide +kernel
theorem dX7_steer_11 : decode cX7_steer 11 = .ok (.ldc2_w 70, 3) := by decide +kernel
theorem dX7_steer_14 : decode cX7_steer 14 = .ok (.invokestatic 62, 3) := by decide +kernel
theorem dX7_steer_17 : decode cX7_steer 17 = .ok (.ifCond .eq 19, 3) := by decide +kernel
theorem dX7_steer_20 : decode cX7_steer 20 = .ok (.iload_n 3, 1) := by decide +kernel
theorem dX7_steer_21 : decode cX7_steer 21 = .ok (.i2l, 1) := by decide +kernel
theorem dX7_steer_22 : decode cX7_steer 22 = .ok (.lconst 0, 1) := by decide +kernel
theorem dX7_steer_23 : decode cX7_steer 23 = .ok (.lconst 1, 1) := by decide +kernel
theorem dX7_steer_24 : decode cX7_steer 24 = .ok (.invokestatic 62, 3) := by decide +kernel
theorem dX7_steer_27 : decode cX7_steer 27 = .ok (.ifCond .eq 9, 3) := by decide +kernel
theorem dX7_steer_30 : decode cX7_steer 30 = .ok (.iload 4, 2) := by decide +kernel
theorem dX7_steer_32 : decode cX7_steer 32 = .ok (.iconst (-1), 1) := by decide +kernel
theorem dX7_steer_33 : decode cX7_steer 33 = .ok (.if_icmp .ge 10, 3) := by decide +kernel
theorem dX7_steer_36 : decode cX7_steer 36 = .ok (.aload_n 0, 1) := by decide +kernel
theorem dX7_steer_37 : decode cX7_steer 37 = .ok (.bipush (-10), 2) := by decide +kernel
theorem dX7_steer_39 : decode cX7_steer 39 = .ok (.invokevirtual 79, 3) := by decide +kernel
theorem dX7_steer_42 : decode cX7_steer 42 = .ok (.ireturn, 1) := by decide +kernel
theorem dX7_steer_43 : decode cX7_steer 43 = .ok (.iload 4, 2) := by decide +kernel
theorem dX7_steer_45 : decode cX7_steer 45 = .ok (.iload_n 2, 1) := by decide +kernel
theorem dX7_steer_46 : decode cX7_steer 46 = .ok (.if_icmp .lt 6, 3) := by decide +kernel
theorem dX7_steer_49 : decode cX7_steer 49 = .ok (.bipush (-5), 2) := by decide +kernel
theorem dX7_steer_51 : decode cX7_steer 51 = .ok (.ireturn, 1) := by decide +kernel
theorem dX7_steer_52 : decode cX7_steer 52 = .ok (.aload_n 0, 1) := by decide +kernel
theorem dX7_steer_53 : decode cX7_steer 53 = .ok (.iload_n 1, 1) := by decide +kernel
theorem dX7_steer_54 : decode cX7_steer 54 = .ok (.iload_n 2, 1) := by decide +kernel
theorem dX7_steer_55 : decode cX7_steer 55 = .ok (.iload_n 3, 1) := by decide +kernel
theorem dX7_steer_56 : decode cX7_steer 56 = .ok (.invokevirtual 169, 3) := by decide +kernel
theorem dX7_steer_59 : decode cX7_steer 59 = .ok (.iload 4, 2) := by decide +kernel
theorem dX7_steer_61 : decode cX7_steer 61 = .ok (.iconst (-1), 1) := by decide +kernel
theorem dX7_steer_62 : decode cX7_steer 62 = .ok (.if_icmp .ne 10, 3) := by decide +kernel
theorem dX7_steer_65 : decode cX7_steer 65 = .ok (.aload_n 0, 1) := by decide +kernel
theorem dX7_steer_66 : decode cX7_steer 66 = .ok (.getfield 165, 3) := by decide +kernel
theorem dX7_steer_69 : decode cX7_steer 69 = .ok (.goto 10, 3) := by decide +kernel
theorem dX7_steer_72 : decode cX7_steer 72 = .ok (.aload_n 0, 1) := by decide +kernel
theorem dX7_steer_73 : decode cX7_steer 73 = .ok (.getfield 33, 3) := by decide +kernel
theorem dX7_steer_76 : decode cX7_steer 76 = .ok (.iload 4, 2) := by decide +kernel
theorem dX7_steer_78 : decode cX7_steer 78 = .ok (.iaload, 1) := by decide +kernel
theorem dX7_steer_79 : decode cX7_steer 79 = .ok (.ireturn, 1) := by decide +kernel
theorem dX7_note_0 : decode cX7_note 0 = .ok (.aload_n 0, 1) := by decide +kernel
theorem dX7_note_1 : decode cX7_note 1 = .ok (.iload_n 1, 1) := by decide +kernel
theorem dX7_note_2 : decode cX7_note 2 = .ok (.invokevirtual 146, 3) := by decide +kernel
theorem dX7_note_5 : decode cX7_note 5 = .ok (.ifCond .eq 73, 3) := by decide +kernel
theorem dX7_note_8 : decode cX7_note 8 = .ok (.iload_n 2, 1) := by decide +kernel
theorem dX7_note_9 : decode cX7_note 9 = .ok (.i2l, 1) := by decide +kernel
theorem dX7_note_10 : decode cX7_note 10 = .ok (.lconst 0, 1) := by decide +kernel
theorem dX7_note_11 : decode cX7_note 11 = .ok (.ldc2_w 173, 3) := by decide +kernel
theorem dX7_note_14 : decode cX7_note 14 = .ok (.invokestatic 62, 3) := by decide +kernel
theorem dX7_note_17 : decode cX7_note 17 = .ok (.ifCond .eq 61, 3) := by decide +kernel
theorem dX7_note_20 : decode cX7_note 20 = .ok (.iload_n 3, 1) := by decide +kernel
theorem dX7_note_21 : decode cX7_note 21 = .ok (.invokestatic 76, 3) := by decide +kernel
theorem dX7_note_24 : decode cX7_note 24 = .ok (.ifCond .eq 54, 3) := by decide +kernel
theorem dX7_note_27 : decode cX7_note 27 = .ok (.iload 4, 2) := by decide +kernel
theorem dX7_note_29 : decode cX7_note 29 = .ok (.i2l, 1) := by decide +kernel
theorem dX7_note_30 : decode cX7_note 30 = .ok (.lconst 0, 1) := by decide +kernel
theorem dX7_note_31 : decode cX7_note 31 = .ok (.ldc2_w 175, 3) := by decide +kernel
theorem dX7_note_34 : decode cX7_note 34 = .ok (.invokestatic 62, 3) := by decide +kernel
theorem dX7_note_37 : decode cX7_note 37 = .ok (.ifCond .eq 41, 3) := by decide +kernel
theorem dX7_note_40 : decode cX7_note 40 = .ok (.iload 5, 2) := by decide +kernel
theorem dX7_note_42 : decode cX7_note 42 = .ok (.i2l, 1) := by decide +kernel
theorem dX7_note_43 : decode cX7_note 43 = .ok (.ldc2_w 141, 3) := by decide +kernel
theorem dX7_note_46 : decode cX7_note 46 = .ok (.ldc2_w 68, 3) := by decide +kernel
theorem dX7_note_49 : decode cX7_note 49 = .ok (.invokestatic 62, 3) := by decide +kernel
theorem dX7_note_52 : decode cX7_note 52 = .ok (.ifCond .eq 26, 3) := by decide +kernel
theorem dX7_note_55 : decode cX7_note 55 = .ok (.iload 6, 2) := by decide +kernel
theorem dX7_note_57 : decode cX7_note 57 = .ok (.i2l, 1) := by decide +kernel
theorem dX7_note_58 : decode cX7_note 58 = .ok (.ldc2_w 141, 3) := by decide +kernel
theorem dX7_note_61 : decode cX7_note 61 = .ok (.ldc2_w 68, 3) := by decide +kernel
theorem dX7_note_64 : decode cX7_note 64 = .ok (.invokestatic 62, 3) := by decide +kernel
theorem dX7_note_67 : decode cX7_note 67 = .ok (.ifCond .eq 11, 3) := by decide +kernel
theorem dX7_note_70 : decode cX7_note 70 = .ok (.iload 7, 2) := by decide +kernel
theorem dX7_note_72 : decode cX7_note 72 = .ok (.invokestatic 76, 3) := by decide +kernel
theorem dX7_note_75 : decode cX7_note 75 = .ok (.ifCond .ne 10, 3) := by decide +kernel
theorem dX7_note_78 : decode cX7_note 78 = .ok (.aload_n 0, 1) := by decide +kernel
theorem dX7_note_79 : decode cX7_note 79 = .ok (.bipush (-2), 2) := by decide +kernel
theorem dX7_note_81 : decode cX7_note 81 = .ok (.invokevirtual 79, 3) := by decide +kernel
theorem dX7_note_84 : decode cX7_note 84 = .ok (.ireturn, 1) := by decide +kernel
theorem dX7_note_85 : decode cX7_note 85 = .ok (.aload_n 0, 1) := by decide +kernel
theorem dX7_note_86 : decode cX7_note 86 = .ok (.getfield 7, 3) := by decide +kernel
theorem dX7_note_89 : decode cX7_note 89 = .ok (.iconst 1, 1) := by decide +kernel
theorem dX7_note_90 : decode cX7_note 90 = .ok (.iaload, 1) := by decide +kernel
theorem dX7_note_91 : decode cX7_note 91 = .ok (.bipush 6, 2) := by decide +kernel
theorem dX7_note_93 : decode cX7_note 93 = .ok (.if_icmp .ne 8, 3) := by decide +kernel
theorem dX7_note_96 : decode cX7_note 96 = .ok (.aload_n 0, 1) := by decide +kernel
theorem dX7_note_97 : decode cX7_note 97 = .ok (.invokevirtual 90, 3) := by decide +kernel
theorem dX7_note_100 : decode cX7_note 100 = .ok (.ireturn, 1) := by decide +kernel
theorem dX7_note_101 : decode cX7_note 101 = .ok (.bipush 35, 2) := by decide +kernel
theorem dX7_note_103 : decode cX7_note 103 = .ok (.bipush 7, 2) := by decide +kernel
theorem dX7_note_105 : decode cX7_note 105 = .ok (.aload_n 0, 1) := by decide +kernel
theorem dX7_note_106 : decode cX7_note 106 = .ok (.getfield 7, 3) := by decide +kernel
theorem dX7_note_109 : decode cX7_note 109 = .ok (.iconst 1, 1) := by decide +kernel
theorem dX7_note_110 : decode cX7_note 110 = .ok (.iaload, 1) := by decide +kernel
theorem dX7_note_111 : decode cX7_note 111 = .ok (.imul, 1) := by decide +kernel
theorem dX7_note_112 : decode cX7_note 112 = .ok (.iadd, 1) := by decide +kernel
theorem dX7_note_113 : decode cX7_note 113 = .ok (.istore 8, 2) := by decide +kernel
theorem dX7_note_115 : decode cX7_note 115 = .ok (.aload_n 0, 1) := by decide +kernel
theorem dX7_note_116 : decode cX7_note 116 = .ok (.getfield 7, 3) := by decide +kernel
theorem dX7_note_119 : decode cX7_note 119 = .ok (.iload 8, 2) := by decide +kernel
theorem dX7_note_121 : decode cX7_note 121 = .ok (.iload_n 1, 1) := by decide +kernel
theorem dX7_note_122 : decode cX7_note 122 = .ok (.iastore, 1) := by decide +kernel
theorem dX7_note_123 : decode cX7_note 123 = .ok (.aload_n 0, 1) := by decide +kernel
theorem dX7_note_124 : decode cX7_note 124 = .ok (.getfield 7, 3) := by decide +kernel
theorem dX7_note_127 : decode cX7_note 127 = .ok (.iload 8, 2) := by decide +kernel
theorem dX7_note_129 : decode cX7_note 129 = .ok (.iconst 1, 1) := by decide +kernel
theorem dX7_note_130 : decode cX7_note 130 = .ok (.iadd, 1) := by decide +kernel
theorem dX7_note_131 : decode cX7_note 131 = .ok (.iload_n 2, 1) := by decide +kernel
theorem dX7_note_132 : decode cX7_note 132 = .ok (.iastore, 1) := by decide +kernel
theorem dX7_note_133 : decode cX7_note 133 = .ok (.aload_n 0, 1) := by decide +kernel
theorem dX7_note_134 : decode cX7_note 134 = .ok (.getfield 7, 3) := by decide +kernel
theorem dX7_note_137 : decode cX7_note 137 = .ok (.iload 8, 2) := by decide +kernel
theorem dX7_note_139 : decode cX7_note 139 = .ok (.iconst 2, 1) := by decide +kernel
theorem dX7_note_140 : decode cX7_note 140 = .ok (.iadd, 1) := by decide +kernel
theorem dX7_note_141 : decode cX7_note 141 = .ok (.iload_n 3, 1) := by decide +kernel
theorem dX7_note_142 : decode cX7_note 142 = .ok (.iastore, 1) := by decide +kernel
theorem dX7_note_143 : decode cX7_note 143 = .ok (.aload_n 0, 1) := by decide +kernel
theorem dX7_note_144 : decode cX7_note 144 = .ok (.getfield 7, 3) := by decide +kernel
theorem dX7_note_147 : decode cX7_note 147 = .ok (.iload 8, 2) := by decide +kernel
theorem dX7_note_149 : decode cX7_note 149 = .ok (.iconst 3, 1) := by decide +kernel
theorem dX7_note_150 : decode cX7_note 150 = .ok (.iadd, 1) := by decide +kernel
theorem dX7_note_151 : decode cX7_note 151 = .ok (.iload 4, 2) := by decide +kernel
theorem dX7_note_153 : decode cX7_note 153 = .ok (.iastore, 1) := by decide +kernel
theorem dX7_note_154 : decode cX7_note 154 = .ok (.aload_n 0, 1) := by decide +kernel
theorem dX7_note_155 : decode cX7_note 155 = .ok (.getfield 7, 3) := by decide +kernel
theorem dX7_note_158 : decode cX7_note 158 = .ok (.iload 8, 2) := by decide +kernel
theorem dX7_note_160 : decode cX7_note 160 = .ok (.iconst 4, 1) := by decide +kernel
theorem dX7_note_161 : decode cX7_note 161 = .ok (.iadd, 1) := by decide +kernel
theorem dX7_note_162 : decode cX7_note 162 = .ok (.iload 5, 2) := by decide +kernel
theorem dX7_note_164 : decode cX7_note 164 = .ok (.iastore, 1) := by decide +kernel
theorem dX7_note_165 : decode cX7_note 165 = .ok (.aload_n 0, 1) := by decide +kernel
theorem dX7_note_166 : decode cX7_note 166 = .ok (.getfield 7, 3) := by decide +kernel
theorem dX7_note_169 : decode cX7_note 169 = .ok (.iload 8, 2) := by decide +kernel
theorem dX7_note_171 : decode cX7_note 171 = .ok (.iconst 5, 1) := by decide +kernel
theorem dX7_note_172 : decode cX7_note 172 = .ok (.iadd, 1) := by decide +kernel
theorem dX7_note_173 : decode cX7_note 173 = .ok (.iload 6, 2) := by decide +kernel
theorem dX7_note_175 : decode cX7_note 175 = .ok (.iastore, 1) := by decide +kernel
theorem dX7_note_176 : decode cX7_note 176 = .ok (.aload_n 0, 1) := by decide +kernel
theorem dX7_note_177 : decode cX7_note 177 = .ok (.getfield 7, 3) := by decide +kernel
theorem dX7_note_180 : decode cX7_note 180 = .ok (.iload 8, 2) := by decide +kernel
theorem dX7_note_182 : decode cX7_note 182 = .ok (.bipush 6, 2) := by decide +kernel
theorem dX7_note_184 : decode cX7_note 184 = .ok (.iadd, 1) := by decide +kernel
theorem dX7_note_185 : decode cX7_note 185 = .ok (.iload 7, 2) := by decide +kernel
theorem dX7_note_187 : decode cX7_note 187 = .ok (.iastore, 1) := by decide +kernel
theorem dX7_note_188 : decode cX7_note 188 = .ok (.aload_n 0, 1) := by decide +kernel
theorem dX7_note_189 : decode cX7_note 189 = .ok (.getfield 7, 3) := by decide +kernel
theorem dX7_note_192 : decode cX7_note 192 = .ok (.iconst 1, 1) := by decide +kernel
theorem dX7_note_193 : decode cX7_note 193 = .ok (.dup2, 1) := by decide +kernel
theorem dX7_note_194 : decode cX7_note 194 = .ok (.iaload, 1) := by decide +kernel
theorem dX7_note_195 : decode cX7_note 195 = .ok (.iconst 1, 1) := by decide +kernel
theorem dX7_note_196 : decode cX7_note 196 = .ok (.iadd, 1) := by decide +kernel
theorem dX7_note_197 : decode cX7_note 197 = .ok (.iastore, 1) := by decide +kernel
theorem dX7_note_198 : decode cX7_note 198 = .ok (.aload_n 0, 1) := by decide +kernel
theorem dX7_note_199 : decode cX7_note 199 = .ok (.getfield 7, 3) := by decide +kernel
theorem dX7_note_202 : decode cX7_note 202 = .ok (.iconst 1, 1) := by decide +kernel
theorem dX7_note_203 : decode cX7_note 203 = .ok (.iaload, 1) := by decide +kernel
theorem dX7_note_204 : decode cX7_note 204 = .ok (.ireturn, 1) := by decide +kernel
theorem dX7_forget_0 : decode cX7_forget 0 = .ok (.aload_n 0, 1) := by decide +kernel
theorem dX7_forget_1 : decode cX7_forget 1 = .ok (.getfield 7, 3) := by decide +kernel
theorem dX7_forget_4 : decode cX7_forget 4 = .ok (.iconst 1, 1) := by decide +kernel
theorem dX7_forget_5 : decode cX7_forget 5 = .ok (.iaload, 1) := by decide +kernel
theorem dX7_forget_6 : decode cX7_forget 6 = .ok (.istore_n 1, 1) := by decide +kernel
theorem dX7_forget_7 : decode cX7_forget 7 = .ok (.aload_n 0, 1) := by decide +kernel
theorem dX7_forget_8 : decode cX7_forget 8 = .ok (.getfield 7, 3) := by decide +kernel
theorem dX7_forget_11 : decode cX7_forget 11 = .ok (.iconst 1, 1) := by decide +kernel
theorem dX7_forget_12 : decode cX7_forget 12 = .ok (.iconst 0, 1) := by decide +kernel
theorem dX7_forget_13 : decode cX7_forget 13 = .ok (.iastore, 1) := by decide +kernel
theorem dX7_forget_14 : decode cX7_forget 14 = .ok (.iload_n 1, 1) := by decide +kernel
theorem dX7_forget_15 : decode cX7_forget 15 = .ok (.ireturn, 1) := by decide +kernel
theorem dX7_kindsOf_0 : decode cX7_kindsOf 0 = .ok (.iconst 0, 1) := by decide +kernel
theorem dX7_kindsOf_1 : decode cX7_kindsOf 1 = .ok (.istore_n 2, 1) := by decide +kernel
theorem dX7_kindsOf_2 : decode cX7_kindsOf 2 = .ok (.iconst 0, 1) := by decide +kernel
theorem dX7_kindsOf_3 : decode cX7_kindsOf 3 = .ok (.istore_n 3, 1) := by decide +kernel
theorem dX7_kindsOf_4 : decode cX7_kindsOf 4 = .ok (.iload_n 3, 1) := by decide +kernel
theorem dX7_kindsOf_5 : decode cX7_kindsOf 5 = .ok (.bipush 6, 2) := by decide +kernel
theorem dX7_kindsOf_7 : decode cX7_kindsOf 7 = .ok (.if_icmp .ge 146, 3) := by decide +kernel
theorem dX7_kindsOf_10 : decode cX7_kindsOf 10 = .ok (.iconst 1, 1) := by decide +kernel
theorem dX7_kindsOf_11 : decode cX7_kindsOf 11 = .ok (.istore 4, 2) := by decide +kernel
theorem dX7_kindsOf_13 : decode cX7_kindsOf 13 = .ok (.iconst 0, 1) := by decide +kernel
theorem dX7_kindsOf_14 : decode cX7_kindsOf 14 = .ok (.istore 5, 2) := by decide +kernel
theorem dX7_kindsOf_16 : decode cX7_kindsOf 16 = .ok (.iload 5, 2) := by decide +kernel
theorem dX7_kindsOf_18 : decode cX7_kindsOf 18 = .ok (.aload_n 0, 1) := by decide +kernel
theorem dX7_kindsOf_19 : decode cX7_kindsOf 19 = .ok (.getfield 7, 3) := by decide +kernel
theorem dX7_kindsOf_22 : decode cX7_kindsOf 22 = .ok (.iconst 1, 1) := by decide +kernel
theorem dX7_kindsOf_23 : decode cX7_kindsOf 23 = .ok (.iaload, 1) := by decide +kernel
theorem dX7_kindsOf_24 : decode cX7_kindsOf 24 = .ok (.if_icmp .ge 108, 3) := by decide +kernel
theorem dX7_kindsOf_27 : decode cX7_kindsOf 27 = .ok (.bipush 35, 2) := by decide +kernel
theorem dX7_kindsOf_29 : decode cX7_kindsOf 29 = .ok (.bipush 7, 2) := by decide +kernel
theorem dX7_kindsOf_31 : decode cX7_kindsOf 31 = .ok (.iload 5, 2) := by decide +kernel
theorem dX7_kindsOf_33 : decode cX7_kindsOf 33 = .ok (.imul, 1) := by decide +kernel
theorem dX7_kindsOf_34 : decode cX7_kindsOf 34 = .ok (.iadd, 1) := by decide +kernel
theorem dX7_kindsOf_35 : decode cX7_kindsOf 35 = .ok (.istore 6, 2) := by decide +kernel
theorem dX7_kindsOf_37 : decode cX7_kindsOf 37 = .ok (.iload_n 3, 1) := by decide +kernel
theorem dX7_kindsOf_38 : decode cX7_kindsOf 38 = .ok (.aload_n 0, 1) := by decide +kernel
theorem dX7_kindsOf_39 : decode cX7_kindsOf 39 = .ok (.getfield 7, 3) := by decide +kernel
theorem dX7_kindsOf_42 : decode cX7_kindsOf 42 = .ok (.iload 6, 2) := by decide +kernel
theorem dX7_kindsOf_44 : decode cX7_kindsOf 44 = .ok (.iconst 1, 1) := by decide +kernel
theorem dX7_kindsOf_45 : decode cX7_kindsOf 45 = .ok (.iadd, 1) := by decide +kernel
theorem dX7_kindsOf_46 : decode cX7_kindsOf 46 = .ok (.iaload, 1) := by decide +kernel
theorem dX7_kindsOf_47 : decode cX7_kindsOf 47 = .ok (.aload_n 0, 1) := by decide +kernel
theorem dX7_kindsOf_48 : decode cX7_kindsOf 48 = .ok (.getfield 7, 3) := by decide +kernel
theorem dX7_kindsOf_51 : decode cX7_kindsOf 51 = .ok (.iload 6, 2) := by decide +kernel
theorem dX7_kindsOf_53 : decode cX7_kindsOf 53 = .ok (.iconst 2, 1) := by decide +kernel
theorem dX7_kindsOf_54 : decode cX7_kindsOf 54 = .ok (.iadd, 1) := by decide +kernel
theorem dX7_kindsOf_55 : decode cX7_kindsOf 55 = .ok (.iaload, 1) := by decide +kernel
theorem dX7_kindsOf_56 : decode cX7_kindsOf 56 = .ok (.aload_n 0, 1) := by decide +kernel
theorem dX7_kindsOf_57 : decode cX7_kindsOf 57 = .ok (.getfield 7, 3) := by decide +kernel
theorem dX7_kindsOf_60 : decode cX7_kindsOf 60 = .ok (.iload 6, 2) := by decide +kernel
theorem dX7_kindsOf_62 : decode cX7_kindsOf 62 = .ok (.iconst 3, 1) := by decide +kernel
theorem dX7_kindsOf_63 : decode cX7_kindsOf 63 = .ok (.iadd, 1) := by decide +kernel
theorem dX7_kindsOf_64 : decode cX7_kindsOf 64 = .ok (.iaload, 1) := by decide +kernel
theorem dX7_kindsOf_65 : decode cX7_kindsOf 65 = .ok (.aload_n 0, 1) := by decide +kernel
theorem dX7_kindsOf_66 : decode cX7_kindsOf 66 = .ok (.getfield 7, 3) := by decide +kernel
theorem dX7_kindsOf_69 : decode cX7_kindsOf 69 = .ok (.iload 6, 2) := by decide +kernel
theorem dX7_kindsOf_71 : decode cX7_kindsOf 71 = .ok (.iconst 4, 1) := by decide +kernel
theorem dX7_kindsOf_72 : decode cX7_kindsOf 72 = .ok (.iadd, 1) := by decide +kernel
theorem dX7_kindsOf_73 : decode cX7_kindsOf 73 = .ok (.iaload, 1) := by decide +kernel
theorem dX7_kindsOf_74 : decode cX7_kindsOf 74 = .ok (.aload_n 0, 1) := by decide +kernel
theorem dX7_kindsOf_75 : decode cX7_kindsOf 75 = .ok (.getfield 7, 3) := by decide +kernel
theorem dX7_kindsOf_78 : decode cX7_kindsOf 78 = .ok (.iload 6, 2) := by decide +kernel
theorem dX7_kindsOf_80 : decode cX7_kindsOf 80 = .ok (.iconst 5, 1) := by decide +kernel
theorem dX7_kindsOf_81 : decode cX7_kindsOf 81 = .ok (.iadd, 1) := by decide +kernel
theorem dX7_kindsOf_82 : decode cX7_kindsOf 82 = .ok (.iaload, 1) := by decide +kernel
theorem dX7_kindsOf_83 : decode cX7_kindsOf 83 = .ok (.invokestatic 116, 3) := by decide +kernel
theorem dX7_kindsOf_86 : decode cX7_kindsOf 86 = .ok (.istore 7, 2) := by decide +kernel
theorem dX7_kindsOf_88 : decode cX7_kindsOf 88 = .ok (.iload 4, 2) := by decide +kernel
theorem dX7_kindsOf_90 : decode cX7_kindsOf 90 = .ok (.ifCond .eq 33, 3) := by decide +kernel
theorem dX7_kindsOf_93 : decode cX7_kindsOf 93 = .ok (.aload_n 0, 1) := by decide +kernel
theorem dX7_kindsOf_94 : decode cX7_kindsOf 94 = .ok (.getfield 7, 3) := by decide +kernel
theorem dX7_kindsOf_97 : decode cX7_kindsOf 97 = .ok (.iload 6, 2) := by decide +kernel
theorem dX7_kindsOf_99 : decode cX7_kindsOf 99 = .ok (.iaload, 1) := by decide +kernel
theorem dX7_kindsOf_100 : decode cX7_kindsOf 100 = .ok (.iload_n 1, 1) := by decide +kernel
theorem dX7_kindsOf_101 : decode cX7_kindsOf 101 = .ok (.if_icmp .ne 18, 3) := by decide +kernel
theorem dX7_kindsOf_104 : decode cX7_kindsOf 104 = .ok (.iload 7, 2) := by decide +kernel
theorem dX7_kindsOf_106 : decode cX7_kindsOf 106 = .ok (.aload_n 0, 1) := by decide +kernel
theorem dX7_kindsOf_107 : decode cX7_kindsOf 107 = .ok (.getfield 7, 3) := by decide +kernel
theorem dX7_kindsOf_110 : decode cX7_kindsOf 110 = .ok (.iload 6, 2) := by decide +kernel
theorem dX7_kindsOf_112 : decode cX7_kindsOf 112 = .ok (.bipush 6, 2) := by decide +kernel
theorem dX7_kindsOf_114 : decode cX7_kindsOf 114 = .ok (.iadd, 1) := by decide +kernel
theorem dX7_kindsOf_115 : decode cX7_kindsOf 115 = .ok (.iaload, 1) := by decide +kernel
theorem dX7_kindsOf_116 : decode cX7_kindsOf 116 = .ok (.if_icmp .ne 7, 3) := by decide +kernel
theorem dX7_kindsOf_119 : decode cX7_kindsOf 119 = .ok (.iconst 1, 1) := by decide +kernel
theorem dX7_kindsOf_120 : decode cX7_kindsOf 120 = .ok (.goto 4, 3) := by decide +kernel
theorem dX7_kindsOf_123 : decode cX7_kindsOf 123 = .ok (.iconst 0, 1) := by decide +kernel
theorem dX7_kindsOf_124 : decode cX7_kindsOf 124 = .ok (.istore 4, 2) := by decide +kernel
theorem dX7_kindsOf_126 : decode cX7_kindsOf 126 = .ok (.iinc 5 1, 3) := by decide +kernel
theorem dX7_kindsOf_129 : decode cX7_kindsOf 129 = .ok (.goto (-113), 3) := by decide +kernel
