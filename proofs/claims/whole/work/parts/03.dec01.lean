theorem dX4_init_54 : decode cX4_init 54 = .ok (.return_, 1) := by decide +kernel
theorem dX4_append_0 : decode cX4_append 0 = .ok (.aload_n 0, 1) := by decide +kernel
theorem dX4_append_1 : decode cX4_append 1 = .ok (.getfield 15, 3) := by decide +kernel
theorem dX4_append_4 : decode cX4_append 4 = .ok (.sipush 150, 3) := by decide +kernel
theorem dX4_append_7 : decode cX4_append 7 = .ok (.if_icmp .lt 5, 3) := by decide +kernel
theorem dX4_append_10 : decode cX4_append 10 = .ok (.iconst 0, 1) := by decide +kernel
theorem dX4_append_11 : decode cX4_append 11 = .ok (.ireturn, 1) := by decide +kernel
theorem dX4_append_12 : decode cX4_append 12 = .ok (.aload_n 0, 1) := by decide +kernel
theorem dX4_append_13 : decode cX4_append 13 = .ok (.getfield 9, 3) := by decide +kernel
theorem dX4_append_16 : decode cX4_append 16 = .ok (.aload_n 0, 1) := by decide +kernel
theorem dX4_append_17 : decode cX4_append 17 = .ok (.getfield 15, 3) := by decide +kernel
theorem dX4_append_20 : decode cX4_append 20 = .ok (.iload_n 1, 1) := by decide +kernel
theorem dX4_append_21 : decode cX4_append 21 = .ok (.i2b, 1) := by decide +kernel
theorem dX4_append_22 : decode cX4_append 22 = .ok (.bastore, 1) := by decide +kernel
theorem dX4_append_23 : decode cX4_append 23 = .ok (.aload_n 0, 1) := by decide +kernel
theorem dX4_append_24 : decode cX4_append 24 = .ok (.dup, 1) := by decide +kernel
theorem dX4_append_25 : decode cX4_append 25 = .ok (.getfield 15, 3) := by decide +kernel
theorem dX4_append_28 : decode cX4_append 28 = .ok (.iconst 1, 1) := by decide +kernel
theorem dX4_append_29 : decode cX4_append 29 = .ok (.iadd, 1) := by decide +kernel
theorem dX4_append_30 : decode cX4_append 30 = .ok (.putfield 15, 3) := by decide +kernel
theorem dX4_append_33 : decode cX4_append 33 = .ok (.iconst 1, 1) := by decide +kernel
theorem dX4_append_34 : decode cX4_append 34 = .ok (.ireturn, 1) := by decide +kernel
theorem dX4_readFloor_0 : decode cX4_readFloor 0 = .ok (.aload_n 0, 1) := by decide +kernel
theorem dX4_readFloor_1 : decode cX4_readFloor 1 = .ok (.getfield 22, 3) := by decide +kernel
theorem dX4_readFloor_4 : decode cX4_readFloor 4 = .ok (.invokevirtual 41, 3) := by decide +kernel
theorem dX4_readFloor_7 : decode cX4_readFloor 7 = .ok (.aload_n 0, 1) := by decide +kernel
theorem dX4_readFloor_8 : decode cX4_readFloor 8 = .ok (.iconst 0, 1) := by decide +kernel
theorem dX4_readFloor_9 : decode cX4_readFloor 9 = .ok (.putfield 26, 3) := by decide +kernel
theorem dX4_readFloor_12 : decode cX4_readFloor 12 = .ok (.aload_n 0, 1) := by decide +kernel
theorem dX4_readFloor_13 : decode cX4_readFloor 13 = .ok (.iconst 0, 1) := by decide +kernel
theorem dX4_readFloor_14 : decode cX4_readFloor 14 = .ok (.putfield 32, 3) := by decide +kernel
theorem dX4_readFloor_17 : decode cX4_readFloor 17 = .ok (.iconst 0, 1) := by decide +kernel
theorem dX4_readFloor_18 : decode cX4_readFloor 18 = .ok (.istore_n 1, 1) := by decide +kernel
theorem dX4_readFloor_19 : decode cX4_readFloor 19 = .ok (.iload_n 1, 1) := by decide +kernel
theorem dX4_readFloor_20 : decode cX4_readFloor 20 = .ok (.aload_n 0, 1) := by decide +kernel
theorem dX4_readFloor_21 : decode cX4_readFloor 21 = .ok (.getfield 15, 3) := by decide +kernel
theorem dX4_readFloor_24 : decode cX4_readFloor 24 = .ok (.if_icmp .gt 51, 3) := by decide +kernel
theorem dX4_readFloor_27 : decode cX4_readFloor 27 = .ok (.aload_n 0, 1) := by decide +kernel
theorem dX4_readFloor_28 : decode cX4_readFloor 28 = .ok (.invokevirtual 44, 3) := by decide +kernel
theorem dX4_readFloor_31 : decode cX4_readFloor 31 = .ok (.aload_n 0, 1) := by decide +kernel
theorem dX4_readFloor_32 : decode cX4_readFloor 32 = .ok (.getfield 35, 3) := by decide +kernel
theorem dX4_readFloor_35 : decode cX4_readFloor 35 = .ok (.ifCond .ne 12, 3) := by decide +kernel
theorem dX4_readFloor_38 : decode cX4_readFloor 38 = .ok (.aload_n 0, 1) := by decide +kernel
theorem dX4_readFloor_39 : decode cX4_readFloor 39 = .ok (.getfield 26, 3) := by decide +kernel
theorem dX4_readFloor_42 : decode cX4_readFloor 42 = .ok (.ifCond .le 5, 3) := by decide +kernel
theorem dX4_readFloor_45 : decode cX4_readFloor 45 = .ok (.iconst (-1), 1) := by decide +kernel
theorem dX4_readFloor_46 : decode cX4_readFloor 46 = .ok (.ireturn, 1) := by decide +kernel
theorem dX4_readFloor_47 : decode cX4_readFloor 47 = .ok (.aload_n 0, 1) := by decide +kernel
theorem dX4_readFloor_48 : decode cX4_readFloor 48 = .ok (.invokevirtual 47, 3) := by decide +kernel
theorem dX4_readFloor_51 : decode cX4_readFloor 51 = .ok (.ifCond .ne 8, 3) := by decide +kernel
theorem dX4_readFloor_54 : decode cX4_readFloor 54 = .ok (.aload_n 0, 1) := by decide +kernel
theorem dX4_readFloor_55 : decode cX4_readFloor 55 = .ok (.getfield 29, 3) := by decide +kernel
theorem dX4_readFloor_58 : decode cX4_readFloor 58 = .ok (.ireturn, 1) := by decide +kernel
theorem dX4_readFloor_59 : decode cX4_readFloor 59 = .ok (.aload_n 0, 1) := by decide +kernel
theorem dX4_readFloor_60 : decode cX4_readFloor 60 = .ok (.dup, 1) := by decide +kernel
theorem dX4_readFloor_61 : decode cX4_readFloor 61 = .ok (.getfield 26, 3) := by decide +kernel
theorem dX4_readFloor_64 : decode cX4_readFloor 64 = .ok (.iconst 1, 1) := by decide +kernel
theorem dX4_readFloor_65 : decode cX4_readFloor 65 = .ok (.iadd, 1) := by decide +kernel
theorem dX4_readFloor_66 : decode cX4_readFloor 66 = .ok (.putfield 26, 3) := by decide +kernel
theorem dX4_readFloor_69 : decode cX4_readFloor 69 = .ok (.iinc 1 1, 3) := by decide +kernel
theorem dX4_readFloor_72 : decode cX4_readFloor 72 = .ok (.goto (-53), 3) := by decide +kernel
theorem dX4_readFloor_75 : decode cX4_readFloor 75 = .ok (.aload_n 0, 1) := by decide +kernel
theorem dX4_readFloor_76 : decode cX4_readFloor 76 = .ok (.getfield 29, 3) := by decide +kernel
theorem dX4_readFloor_79 : decode cX4_readFloor 79 = .ok (.ireturn, 1) := by decide +kernel
theorem dX4_readItem_0 : decode cX4_readItem 0 = .ok (.aload_n 0, 1) := by decide +kernel
theorem dX4_readItem_1 : decode cX4_readItem 1 = .ok (.getfield 35, 3) := by decide +kernel
theorem dX4_readItem_4 : decode cX4_readItem 4 = .ok (.iconst 1, 1) := by decide +kernel
theorem dX4_readItem_5 : decode cX4_readItem 5 = .ok (.if_icmp .eq 5, 3) := by decide +kernel
theorem dX4_readItem_8 : decode cX4_readItem 8 = .ok (.iconst 0, 1) := by decide +kernel
theorem dX4_readItem_9 : decode cX4_readItem 9 = .ok (.ireturn, 1) := by decide +kernel
theorem dX4_readItem_10 : decode cX4_readItem 10 = .ok (.aload_n 0, 1) := by decide +kernel
theorem dX4_readItem_11 : decode cX4_readItem 11 = .ok (.getfield 26, 3) := by decide +kernel
theorem dX4_readItem_14 : decode cX4_readItem 14 = .ok (.ifCond .ne 25, 3) := by decide +kernel
theorem dX4_readItem_17 : decode cX4_readItem 17 = .ok (.aload_n 0, 1) := by decide +kernel
theorem dX4_readItem_18 : decode cX4_readItem 18 = .ok (.ldc 51, 2) := by decide +kernel
theorem dX4_readItem_20 : decode cX4_readItem 20 = .ok (.invokevirtual 53, 3) := by decide +kernel
theorem dX4_readItem_23 : decode cX4_readItem 23 = .ok (.ifCond .eq 14, 3) := by decide +kernel
theorem dX4_readItem_26 : decode cX4_readItem 26 = .ok (.aload_n 0, 1) := by decide +kernel
theorem dX4_readItem_27 : decode cX4_readItem 27 = .ok (.invokevirtual 57, 3) := by decide +kernel
theorem dX4_readItem_30 : decode cX4_readItem 30 = .ok (.ifCond .eq 7, 3) := by decide +kernel
theorem dX4_readItem_33 : decode cX4_readItem 33 = .ok (.iconst 1, 1) := by decide +kernel
theorem dX4_readItem_34 : decode cX4_readItem 34 = .ok (.goto 4, 3) := by decide +kernel
theorem dX4_readItem_37 : decode cX4_readItem 37 = .ok (.iconst 0, 1) := by decide +kernel
theorem dX4_readItem_38 : decode cX4_readItem 38 = .ok (.ireturn, 1) := by decide +kernel
theorem dX4_readItem_39 : decode cX4_readItem 39 = .ok (.aload_n 0, 1) := by decide +kernel
theorem dX4_readItem_40 : decode cX4_readItem 40 = .ok (.ldc 60, 2) := by decide +kernel
theorem dX4_readItem_42 : decode cX4_readItem 42 = .ok (.invokevirtual 53, 3) := by decide +kernel
theorem dX4_readItem_45 : decode cX4_readItem 45 = .ok (.ifCond .eq 27, 3) := by decide +kernel
theorem dX4_readItem_48 : decode cX4_readItem 48 = .ok (.aload_n 0, 1) := by decide +kernel
theorem dX4_readItem_49 : decode cX4_readItem 49 = .ok (.getfield 22, 3) := by decide +kernel
theorem dX4_readItem_52 : decode cX4_readItem 52 = .ok (.getfield 62, 3) := by decide +kernel
theorem dX4_readItem_55 : decode cX4_readItem 55 = .ok (.iconst 5, 1) := by decide +kernel
theorem dX4_readItem_56 : decode cX4_readItem 56 = .ok (.if_icmp .ge 14, 3) := by decide +kernel
theorem dX4_readItem_59 : decode cX4_readItem 59 = .ok (.aload_n 0, 1) := by decide +kernel
theorem dX4_readItem_60 : decode cX4_readItem 60 = .ok (.invokevirtual 65, 3) := by decide +kernel
theorem dX4_readItem_63 : decode cX4_readItem 63 = .ok (.ifCond .eq 7, 3) := by decide +kernel
theorem dX4_readItem_66 : decode cX4_readItem 66 = .ok (.iconst 1, 1) := by decide +kernel
theorem dX4_readItem_67 : decode cX4_readItem 67 = .ok (.goto 4, 3) := by decide +kernel
theorem dX4_readItem_70 : decode cX4_readItem 70 = .ok (.iconst 0, 1) := by decide +kernel
theorem dX4_readItem_71 : decode cX4_readItem 71 = .ok (.ireturn, 1) := by decide +kernel
theorem dX4_readItem_72 : decode cX4_readItem 72 = .ok (.aload_n 0, 1) := by decide +kernel
theorem dX4_readItem_73 : decode cX4_readItem 73 = .ok (.ldc 68, 2) := by decide +kernel
theorem dX4_readItem_75 : decode cX4_readItem 75 = .ok (.invokevirtual 53, 3) := by decide +kernel
theorem dX4_readItem_78 : decode cX4_readItem 78 = .ok (.ifCond .eq 8, 3) := by decide +kernel
theorem dX4_readItem_81 : decode cX4_readItem 81 = .ok (.aload_n 0, 1) := by decide +kernel
theorem dX4_readItem_82 : decode cX4_readItem 82 = .ok (.invokevirtual 70, 3) := by decide +kernel
theorem dX4_readItem_85 : decode cX4_readItem 85 = .ok (.ireturn, 1) := by decide +kernel
theorem dX4_readItem_86 : decode cX4_readItem 86 = .ok (.aload_n 0, 1) := by decide +kernel
theorem dX4_readItem_87 : decode cX4_readItem 87 = .ok (.ldc 73, 2) := by decide +kernel
theorem dX4_readItem_89 : decode cX4_readItem 89 = .ok (.invokevirtual 53, 3) := by decide +kernel
theorem dX4_readItem_92 : decode cX4_readItem 92 = .ok (.ifCond .eq 14, 3) := by decide +kernel
theorem dX4_readItem_95 : decode cX4_readItem 95 = .ok (.aload_n 0, 1) := by decide +kernel
theorem dX4_readItem_96 : decode cX4_readItem 96 = .ok (.invokevirtual 75, 3) := by decide +kernel
theorem dX4_readItem_99 : decode cX4_readItem 99 = .ok (.ifCond .eq 7, 3) := by decide +kernel
theorem dX4_readItem_102 : decode cX4_readItem 102 = .ok (.iconst 1, 1) := by decide +kernel
theorem dX4_readItem_103 : decode cX4_readItem 103 = .ok (.goto 4, 3) := by decide +kernel
theorem dX4_readItem_106 : decode cX4_readItem 106 = .ok (.iconst 0, 1) := by decide +kernel
theorem dX4_readItem_107 : decode cX4_readItem 107 = .ok (.ireturn, 1) := by decide +kernel
theorem dX4_readCar_0 : decode cX4_readCar 0 = .ok (.aload_n 0, 1) := by decide +kernel
theorem dX4_readCar_1 : decode cX4_readCar 1 = .ok (.bipush 6, 2) := by decide +kernel
theorem dX4_readCar_3 : decode cX4_readCar 3 = .ok (.invokevirtual 78, 3) := by decide +kernel
theorem dX4_readCar_6 : decode cX4_readCar 6 = .ok (.ifCond .ne 5, 3) := by decide +kernel
theorem dX4_readCar_9 : decode cX4_readCar 9 = .ok (.iconst 0, 1) := by decide +kernel
theorem dX4_readCar_10 : decode cX4_readCar 10 = .ok (.ireturn, 1) := by decide +kernel
theorem dX4_readCar_11 : decode cX4_readCar 11 = .ok (.aload_n 0, 1) := by decide +kernel
theorem dX4_readCar_12 : decode cX4_readCar 12 = .ok (.getfield 38, 3) := by decide +kernel
theorem dX4_readCar_15 : decode cX4_readCar 15 = .ok (.istore_n 1, 1) := by decide +kernel
theorem dX4_readCar_16 : decode cX4_readCar 16 = .ok (.aload_n 0, 1) := by decide +kernel
theorem dX4_readCar_17 : decode cX4_readCar 17 = .ok (.bipush 24, 2) := by decide +kernel
theorem dX4_readCar_19 : decode cX4_readCar 19 = .ok (.invokevirtual 78, 3) := by decide +kernel
theorem dX4_readCar_22 : decode cX4_readCar 22 = .ok (.ifCond .eq 18, 3) := by decide +kernel
theorem dX4_readCar_25 : decode cX4_readCar 25 = .ok (.aload_n 0, 1) := by decide +kernel
theorem dX4_readCar_26 : decode cX4_readCar 26 = .ok (.getfield 22, 3) := by decide +kernel
theorem dX4_readCar_29 : decode cX4_readCar 29 = .ok (.aload_n 0, 1) := by decide +kernel
theorem dX4_readCar_30 : decode cX4_readCar 30 = .ok (.getfield 38, 3) := by decide +kernel
theorem dX4_readCar_33 : decode cX4_readCar 33 = .ok (.invokevirtual 82, 3) := by decide +kernel
theorem dX4_readCar_36 : decode cX4_readCar 36 = .ok (.iconst (-1), 1) := by decide +kernel
theorem dX4_readCar_37 : decode cX4_readCar 37 = .ok (.if_icmp .eq 5, 3) := by decide +kernel
theorem dX4_readCar_40 : decode cX4_readCar 40 = .ok (.iconst 0, 1) := by decide +kernel
theorem dX4_readCar_41 : decode cX4_readCar 41 = .ok (.ireturn, 1) := by decide +kernel
theorem dX4_readCar_42 : decode cX4_readCar 42 = .ok (.aload_n 0, 1) := by decide +kernel
theorem dX4_readCar_43 : decode cX4_readCar 43 = .ok (.getfield 38, 3) := by decide +kernel
theorem dX4_readCar_46 : decode cX4_readCar 46 = .ok (.istore_n 2, 1) := by decide +kernel
theorem dX4_readCar_47 : decode cX4_readCar 47 = .ok (.aload_n 0, 1) := by decide +kernel
theorem dX4_readCar_48 : decode cX4_readCar 48 = .ok (.iconst 4, 1) := by decide +kernel
theorem dX4_readCar_49 : decode cX4_readCar 49 = .ok (.invokevirtual 78, 3) := by decide +kernel
theorem dX4_readCar_52 : decode cX4_readCar 52 = .ok (.ifCond .ne 5, 3) := by decide +kernel
theorem dX4_readCar_55 : decode cX4_readCar 55 = .ok (.iconst 0, 1) := by decide +kernel
theorem dX4_readCar_56 : decode cX4_readCar 56 = .ok (.ireturn, 1) := by decide +kernel
theorem dX4_readCar_57 : decode cX4_readCar 57 = .ok (.aload_n 0, 1) := by decide +kernel
theorem dX4_readCar_58 : decode cX4_readCar 58 = .ok (.getfield 22, 3) := by decide +kernel
theorem dX4_readCar_61 : decode cX4_readCar 61 = .ok (.iload_n 1, 1) := by decide +kernel
theorem dX4_readCar_62 : decode cX4_readCar 62 = .ok (.iload_n 2, 1) := by decide +kernel
theorem dX4_readCar_63 : decode cX4_readCar 63 = .ok (.aload_n 0, 1) := by decide +kernel
theorem dX4_readCar_64 : decode cX4_readCar 64 = .ok (.getfield 38, 3) := by decide +kernel
theorem dX4_readCar_67 : decode cX4_readCar 67 = .ok (.invokevirtual 86, 3) := by decide +kernel
theorem dX4_readCar_70 : decode cX4_readCar 70 = .ok (.pop, 1) := by decide +kernel
theorem dX4_readCar_71 : decode cX4_readCar 71 = .ok (.aload_n 0, 1) := by decide +kernel
theorem dX4_readCar_72 : decode cX4_readCar 72 = .ok (.invokevirtual 57, 3) := by decide +kernel
theorem dX4_readCar_75 : decode cX4_readCar 75 = .ok (.ireturn, 1) := by decide +kernel
theorem dX4_readHat_0 : decode cX4_readHat 0 = .ok (.aload_n 0, 1) := by decide +kernel
theorem dX4_readHat_1 : decode cX4_readHat 1 = .ok (.aload_n 0, 1) := by decide +kernel
theorem dX4_readHat_2 : decode cX4_readHat 2 = .ok (.getfield 22, 3) := by decide +kernel
theorem dX4_readHat_5 : decode cX4_readHat 5 = .ok (.getfield 62, 3) := by decide +kernel
theorem dX4_readHat_8 : decode cX4_readHat 8 = .ok (.invokevirtual 78, 3) := by decide +kernel
theorem dX4_readHat_11 : decode cX4_readHat 11 = .ok (.ifCond .ne 5, 3) := by decide +kernel
theorem dX4_readHat_14 : decode cX4_readHat 14 = .ok (.iconst 0, 1) := by decide +kernel
theorem dX4_readHat_15 : decode cX4_readHat 15 = .ok (.ireturn, 1) := by decide +kernel
theorem dX4_readHat_16 : decode cX4_readHat 16 = .ok (.aload_n 0, 1) := by decide +kernel
theorem dX4_readHat_17 : decode cX4_readHat 17 = .ok (.getfield 22, 3) := by decide +kernel
theorem dX4_readHat_20 : decode cX4_readHat 20 = .ok (.aload_n 0, 1) := by decide +kernel
theorem dX4_readHat_21 : decode cX4_readHat 21 = .ok (.getfield 38, 3) := by decide +kernel
theorem dX4_readHat_24 : decode cX4_readHat 24 = .ok (.putfield 90, 3) := by decide +kernel
theorem dX4_readHat_27 : decode cX4_readHat 27 = .ok (.aload_n 0, 1) := by decide +kernel
theorem dX4_readHat_28 : decode cX4_readHat 28 = .ok (.invokevirtual 57, 3) := by decide +kernel
theorem dX4_readHat_31 : decode cX4_readHat 31 = .ok (.ireturn, 1) := by decide +kernel
theorem dX4_readFoe_0 : decode cX4_readFoe 0 = .ok (.aload_n 0, 1) := by decide +kernel
theorem dX4_readFoe_1 : decode cX4_readFoe 1 = .ok (.aload_n 0, 1) := by decide +kernel
theorem dX4_readFoe_2 : decode cX4_readFoe 2 = .ok (.getfield 22, 3) := by decide +kernel
theorem dX4_readFoe_5 : decode cX4_readFoe 5 = .ok (.getfield 62, 3) := by decide +kernel
theorem dX4_readFoe_8 : decode cX4_readFoe 8 = .ok (.invokevirtual 78, 3) := by decide +kernel
theorem dX4_readFoe_11 : decode cX4_readFoe 11 = .ok (.ifCond .ne 5, 3) := by decide +kernel
theorem dX4_readFoe_14 : decode cX4_readFoe 14 = .ok (.iconst 0, 1) := by decide +kernel
theorem dX4_readFoe_15 : decode cX4_readFoe 15 = .ok (.ireturn, 1) := by decide +kernel
theorem dX4_readFoe_16 : decode cX4_readFoe 16 = .ok (.aload_n 0, 1) := by decide +kernel
theorem dX4_readFoe_17 : decode cX4_readFoe 17 = .ok (.getfield 38, 3) := by decide +kernel
theorem dX4_readFoe_20 : decode cX4_readFoe 20 = .ok (.istore_n 1, 1) := by decide +kernel
theorem dX4_readFoe_21 : decode cX4_readFoe 21 = .ok (.aload_n 0, 1) := by decide +kernel
theorem dX4_readFoe_22 : decode cX4_readFoe 22 = .ok (.aload_n 0, 1) := by decide +kernel
theorem dX4_readFoe_23 : decode cX4_readFoe 23 = .ok (.getfield 22, 3) := by decide +kernel
theorem dX4_readFoe_26 : decode cX4_readFoe 26 = .ok (.getfield 62, 3) := by decide +kernel
theorem dX4_readFoe_29 : decode cX4_readFoe 29 = .ok (.invokevirtual 78, 3) := by decide +kernel
theorem dX4_readFoe_32 : decode cX4_readFoe 32 = .ok (.ifCond .eq 11, 3) := by decide +kernel
theorem dX4_readFoe_35 : decode cX4_readFoe 35 = .ok (.aload_n 0, 1) := by decide +kernel
theorem dX4_readFoe_36 : decode cX4_readFoe 36 = .ok (.getfield 38, 3) := by decide +kernel
theorem dX4_readFoe_39 : decode cX4_readFoe 39 = .ok (.iload_n 1, 1) := by decide +kernel
theorem dX4_readFoe_40 : decode cX4_readFoe 40 = .ok (.if_icmp .ne 5, 3) := by decide +kernel
theorem dX4_readFoe_43 : decode cX4_readFoe 43 = .ok (.iconst 0, 1) := by decide +kernel
theorem dX4_readFoe_44 : decode cX4_readFoe 44 = .ok (.ireturn, 1) := by decide +kernel
theorem dX4_readFoe_45 : decode cX4_readFoe 45 = .ok (.aload_n 0, 1) := by decide +kernel
theorem dX4_readFoe_46 : decode cX4_readFoe 46 = .ok (.getfield 22, 3) := by decide +kernel
theorem dX4_readFoe_49 : decode cX4_readFoe 49 = .ok (.getfield 92, 3) := by decide +kernel
theorem dX4_readFoe_52 : decode cX4_readFoe 52 = .ok (.iload_n 1, 1) := by decide +kernel
theorem dX4_readFoe_53 : decode cX4_readFoe 53 = .ok (.aload_n 0, 1) := by decide +kernel
theorem dX4_readFoe_54 : decode cX4_readFoe 54 = .ok (.getfield 38, 3) := by decide +kernel
theorem dX4_readFoe_57 : decode cX4_readFoe 57 = .ok (.iastore, 1) := by decide +kernel
theorem dX4_readFoe_58 : decode cX4_readFoe 58 = .ok (.aload_n 0, 1) := by decide +kernel
theorem dX4_readFoe_59 : decode cX4_readFoe 59 = .ok (.invokevirtual 57, 3) := by decide +kernel
theorem dX4_readFoe_62 : decode cX4_readFoe 62 = .ok (.ireturn, 1) := by decide +kernel
theorem dX4_stops_0 : decode cX4_stops 0 = .ok (.aload_n 0, 1) := by decide +kernel
theorem dX4_stops_1 : decode cX4_stops 1 = .ok (.invokevirtual 44, 3) := by decide +kernel
theorem dX4_stops_4 : decode cX4_stops 4 = .ok (.aload_n 0, 1) := by decide +kernel
theorem dX4_stops_5 : decode cX4_stops 5 = .ok (.getfield 35, 3) := by decide +kernel
theorem dX4_stops_8 : decode cX4_stops 8 = .ok (.iconst 3, 1) := by decide +kernel
theorem dX4_stops_9 : decode cX4_stops 9 = .ok (.if_icmp .ne 7, 3) := by decide +kernel
theorem dX4_stops_12 : decode cX4_stops 12 = .ok (.iconst 1, 1) := by decide +kernel
theorem dX4_stops_13 : decode cX4_stops 13 = .ok (.goto 4, 3) := by decide +kernel
theorem dX4_stops_16 : decode cX4_stops 16 = .ok (.iconst 0, 1) := by decide +kernel
theorem dX4_stops_17 : decode cX4_stops 17 = .ok (.ireturn, 1) := by decide +kernel
theorem dX4_numberBelow_0 : decode cX4_numberBelow 0 = .ok (.aload_n 0, 1) := by decide +kernel
theorem dX4_numberBelow_1 : decode cX4_numberBelow 1 = .ok (.invokevirtual 44, 3) := by decide +kernel
theorem dX4_numberBelow_4 : decode cX4_numberBelow 4 = .ok (.aload_n 0, 1) := by decide +kernel
theorem dX4_numberBelow_5 : decode cX4_numberBelow 5 = .ok (.getfield 35, 3) := by decide +kernel
theorem dX4_numberBelow_8 : decode cX4_numberBelow 8 = .ok (.iconst 2, 1) := by decide +kernel
theorem dX4_numberBelow_9 : decode cX4_numberBelow 9 = .ok (.if_icmp .ne 15, 3) := by decide +kernel
theorem dX4_numberBelow_12 : decode cX4_numberBelow 12 = .ok (.aload_n 0, 1) := by decide +kernel
theorem dX4_numberBelow_13 : decode cX4_numberBelow 13 = .ok (.getfield 38, 3) := by decide +kernel
theorem dX4_numberBelow_16 : decode cX4_numberBelow 16 = .ok (.iload_n 1, 1) := by decide +kernel
theorem dX4_numberBelow_17 : decode cX4_numberBelow 17 = .ok (.if_icmp .ge 7, 3) := by decide +kernel
theorem dX4_numberBelow_20 : decode cX4_numberBelow 20 = .ok (.iconst 1, 1) := by decide +kernel
theorem dX4_numberBelow_21 : decode cX4_numberBelow 21 = .ok (.goto 4, 3) := by decide +kernel
theorem dX4_numberBelow_24 : decode cX4_numberBelow 24 = .ok (.iconst 0, 1) := by decide +kernel
theorem dX4_numberBelow_25 : decode cX4_numberBelow 25 = .ok (.ireturn, 1) := by decide +kernel
theorem dX4_wordIs_0 : decode cX4_wordIs 0 = .ok (.aload_n 0, 1) := by decide +kernel
theorem dX4_wordIs_1 : decode cX4_wordIs 1 = .ok (.getfield 32, 3) := by decide +kernel
theorem dX4_wordIs_4 : decode cX4_wordIs 4 = .ok (.aload_n 0, 1) := by decide +kernel
theorem dX4_wordIs_5 : decode cX4_wordIs 5 = .ok (.getfield 29, 3) := by decide +kernel
theorem dX4_wordIs_8 : decode cX4_wordIs 8 = .ok (.isub, 1) := by decide +kernel
theorem dX4_wordIs_9 : decode cX4_wordIs 9 = .ok (.istore_n 2, 1) := by decide +kernel
theorem dX4_wordIs_10 : decode cX4_wordIs 10 = .ok (.iload_n 2, 1) := by decide +kernel
theorem dX4_wordIs_11 : decode cX4_wordIs 11 = .ok (.aload_n 1, 1) := by decide +kernel
theorem dX4_wordIs_12 : decode cX4_wordIs 12 = .ok (.invokevirtual 96, 3) := by decide +kernel
theorem dX4_wordIs_15 : decode cX4_wordIs 15 = .ok (.if_icmp .eq 5, 3) := by decide +kernel
theorem dX4_wordIs_18 : decode cX4_wordIs 18 = .ok (.iconst 0, 1) := by decide +kernel
theorem dX4_wordIs_19 : decode cX4_wordIs 19 = .ok (.ireturn, 1) := by decide +kernel
theorem dX4_wordIs_20 : decode cX4_wordIs 20 = .ok (.iconst 0, 1) := by decide +kernel
theorem dX4_wordIs_21 : decode cX4_wordIs 21 = .ok (.istore_n 3, 1) := by decide +kernel
theorem dX4_wordIs_22 : decode cX4_wordIs 22 = .ok (.iload_n 3, 1) := by decide +kernel
theorem dX4_wordIs_23 : decode cX4_wordIs 23 = .ok (.iload_n 2, 1) := by decide +kernel
theorem dX4_wordIs_24 : decode cX4_wordIs 24 = .ok (.if_icmp .ge 30, 3) := by decide +kernel
theorem dX4_wordIs_27 : decode cX4_wordIs 27 = .ok (.aload_n 0, 1) := by decide +kernel
theorem dX4_wordIs_28 : decode cX4_wordIs 28 = .ok (.getfield 9, 3) := by decide +kernel
theorem dX4_wordIs_31 : decode cX4_wordIs 31 = .ok (.aload_n 0, 1) := by decide +kernel
theorem dX4_wordIs_32 : decode cX4_wordIs 32 = .ok (.getfield 29, 3) := by decide +kernel
theorem dX4_wordIs_35 : decode cX4_wordIs 35 = .ok (.iload_n 3, 1) := by decide +kernel
theorem dX4_wordIs_36 : decode cX4_wordIs 36 = .ok (.iadd, 1) := by decide +kernel
theorem dX4_wordIs_37 : decode cX4_wordIs 37 = .ok (.baload, 1) := by decide +kernel
theorem dX4_wordIs_38 : decode cX4_wordIs 38 = .ok (.aload_n 1, 1) := by decide +kernel
theorem dX4_wordIs_39 : decode cX4_wordIs 39 = .ok (.iload_n 3, 1) := by decide +kernel
theorem dX4_wordIs_40 : decode cX4_wordIs 40 = .ok (.invokevirtual 101, 3) := by decide +kernel
theorem dX4_wordIs_43 : decode cX4_wordIs 43 = .ok (.if_icmp .eq 5, 3) := by decide +kernel
theorem dX4_wordIs_46 : decode cX4_wordIs 46 = .ok (.iconst 0, 1) := by decide +kernel
theorem dX4_wordIs_47 : decode cX4_wordIs 47 = .ok (.ireturn, 1) := by decide +kernel
theorem dX4_wordIs_48 : decode cX4_wordIs 48 = .ok (.iinc 3 1, 3) := by decide +kernel
theorem dX4_wordIs_51 : decode cX4_wordIs 51 = .ok (.goto (-29), 3) := by decide +kernel
theorem dX4_wordIs_54 : decode cX4_wordIs 54 = .ok (.iconst 1, 1) := by decide +kernel
theorem dX4_wordIs_55 : decode cX4_wordIs 55 = .ok (.ireturn, 1) := by decide +kernel
theorem dX4_advance_0 : decode cX4_advance 0 = .ok (.aload_n 0, 1) := by decide +kernel
theorem dX4_advance_1 : decode cX4_advance 1 = .ok (.bipush 32, 2) := by decide +kernel
theorem dX4_advance_3 : decode cX4_advance 3 = .ok (.bipush 32, 2) := by decide +kernel
theorem dX4_advance_5 : decode cX4_advance 5 = .ok (.invokevirtual 105, 3) := by decide +kernel
theorem dX4_advance_8 : decode cX4_advance 8 = .ok (.pop, 1) := by decide +kernel
theorem dX4_advance_9 : decode cX4_advance 9 = .ok (.aload_n 0, 1) := by decide +kernel
theorem dX4_advance_10 : decode cX4_advance 10 = .ok (.aload_n 0, 1) := by decide +kernel
theorem dX4_advance_11 : decode cX4_advance 11 = .ok (.getfield 32, 3) := by decide +kernel
theorem dX4_advance_14 : decode cX4_advance 14 = .ok (.putfield 29, 3) := by decide +kernel
theorem dX4_advance_17 : decode cX4_advance 17 = .ok (.aload_n 0, 1) := by decide +kernel
theorem dX4_advance_18 : decode cX4_advance 18 = .ok (.getfield 32, 3) := by decide +kernel
theorem dX4_advance_21 : decode cX4_advance 21 = .ok (.aload_n 0, 1) := by decide +kernel
theorem dX4_advance_22 : decode cX4_advance 22 = .ok (.getfield 15, 3) := by decide +kernel
theorem dX4_advance_25 : decode cX4_advance 25 = .ok (.if_icmp .lt 11, 3) := by decide +kernel
theorem dX4_advance_28 : decode cX4_advance 28 = .ok (.aload_n 0, 1) := by decide +kernel
theorem dX4_advance_29 : decode cX4_advance 29 = .ok (.iconst 0, 1) := by decide +kernel
theorem dX4_advance_30 : decode cX4_advance 30 = .ok (.putfield 35, 3) := by decide +kernel
theorem dX4_advance_33 : decode cX4_advance 33 = .ok (.goto 73, 3) := by decide +kernel
theorem dX4_advance_36 : decode cX4_advance 36 = .ok (.aload_n 0, 1) := by decide +kernel
theorem dX4_advance_37 : decode cX4_advance 37 = .ok (.bipush 97, 2) := by decide +kernel
theorem dX4_advance_39 : decode cX4_advance 39 = .ok (.bipush 122, 2) := by decide +kernel
theorem dX4_advance_41 : decode cX4_advance 41 = .ok (.invokevirtual 105, 3) := by decide +kernel
theorem dX4_advance_44 : decode cX4_advance 44 = .ok (.ifCond .eq 11, 3) := by decide +kernel
theorem dX4_advance_47 : decode cX4_advance 47 = .ok (.aload_n 0, 1) := by decide +kernel
theorem dX4_advance_48 : decode cX4_advance 48 = .ok (.iconst 1, 1) := by decide +kernel
theorem dX4_advance_49 : decode cX4_advance 49 = .ok (.putfield 35, 3) := by decide +kernel
theorem dX4_advance_52 : decode cX4_advance 52 = .ok (.goto 54, 3) := by decide +kernel
theorem dX4_advance_55 : decode cX4_advance 55 = .ok (.aload_n 0, 1) := by decide +kernel
theorem dX4_advance_56 : decode cX4_advance 56 = .ok (.bipush 48, 2) := by decide +kernel
theorem dX4_advance_58 : decode cX4_advance 58 = .ok (.bipush 57, 2) := by decide +kernel
theorem dX4_advance_60 : decode cX4_advance 60 = .ok (.invokevirtual 105, 3) := by decide +kernel
theorem dX4_advance_63 : decode cX4_advance 63 = .ok (.ifCond .eq 10, 3) := by decide +kernel
theorem dX4_advance_66 : decode cX4_advance 66 = .ok (.aload_n 0, 1) := by decide +kernel
theorem dX4_advance_67 : decode cX4_advance 67 = .ok (.invokevirtual 109, 3) := by decide +kernel
theorem dX4_advance_70 : decode cX4_advance 70 = .ok (.goto 36, 3) := by decide +kernel
theorem dX4_advance_73 : decode cX4_advance 73 = .ok (.aload_n 0, 1) := by decide +kernel
theorem dX4_advance_74 : decode cX4_advance 74 = .ok (.aload_n 0, 1) := by decide +kernel
theorem dX4_advance_75 : decode cX4_advance 75 = .ok (.getfield 9, 3) := by decide +kernel
theorem dX4_advance_78 : decode cX4_advance 78 = .ok (.aload_n 0, 1) := by decide +kernel
theorem dX4_advance_79 : decode cX4_advance 79 = .ok (.getfield 32, 3) := by decide +kernel
theorem dX4_advance_82 : decode cX4_advance 82 = .ok (.baload, 1) := by decide +kernel
theorem dX4_advance_83 : decode cX4_advance 83 = .ok (.bipush 59, 2) := by decide +kernel
theorem dX4_advance_85 : decode cX4_advance 85 = .ok (.if_icmp .ne 7, 3) := by decide +kernel
theorem dX4_advance_88 : decode cX4_advance 88 = .ok (.iconst 3, 1) := by decide +kernel
theorem dX4_advance_89 : decode cX4_advance 89 = .ok (.goto 4, 3) := by decide +kernel
theorem dX4_advance_92 : decode cX4_advance 92 = .ok (.iconst 4, 1) := by decide +kernel
theorem dX4_advance_93 : decode cX4_advance 93 = .ok (.putfield 35, 3) := by decide +kernel
theorem dX4_advance_96 : decode cX4_advance 96 = .ok (.aload_n 0, 1) := by decide +kernel
theorem dX4_advance_97 : decode cX4_advance 97 = .ok (.dup, 1) := by decide +kernel
theorem dX4_advance_98 : decode cX4_advance 98 = .ok (.getfield 32, 3) := by decide +kernel
theorem dX4_advance_101 : decode cX4_advance 101 = .ok (.iconst 1, 1) := by decide +kernel
theorem dX4_advance_102 : decode cX4_advance 102 = .ok (.iadd, 1) := by decide +kernel
theorem dX4_advance_103 : decode cX4_advance 103 = .ok (.putfield 32, 3) := by decide +kernel
theorem dX4_advance_106 : decode cX4_advance 106 = .ok (.return_, 1) := by decide +kernel
theorem dX4_passAll_0 : decode cX4_passAll 0 = .ok (.aload_n 0, 1) := by decide +kernel
theorem dX4_passAll_1 : decode cX4_passAll 1 = .ok (.getfield 32, 3) := by decide +kernel
theorem dX4_passAll_4 : decode cX4_passAll 4 = .ok (.istore_n 3, 1) := by decide +kernel
theorem dX4_passAll_5 : decode cX4_passAll 5 = .ok (.aload_n 0, 1) := by decide +kernel
theorem dX4_passAll_6 : decode cX4_passAll 6 = .ok (.getfield 32, 3) := by decide +kernel
theorem dX4_passAll_9 : decode cX4_passAll 9 = .ok (.aload_n 0, 1) := by decide +kernel
theorem dX4_passAll_10 : decode cX4_passAll 10 = .ok (.getfield 15, 3) := by decide +kernel
theorem dX4_passAll_13 : decode cX4_passAll 13 = .ok (.if_icmp .ge 42, 3) := by decide +kernel
theorem dX4_passAll_16 : decode cX4_passAll 16 = .ok (.aload_n 0, 1) := by decide +kernel
theorem dX4_passAll_17 : decode cX4_passAll 17 = .ok (.getfield 9, 3) := by decide +kernel
theorem dX4_passAll_20 : decode cX4_passAll 20 = .ok (.aload_n 0, 1) := by decide +kernel
theorem dX4_passAll_21 : decode cX4_passAll 21 = .ok (.getfield 32, 3) := by decide +kernel
theorem dX4_passAll_24 : decode cX4_passAll 24 = .ok (.baload, 1) := by decide +kernel
theorem dX4_passAll_25 : decode cX4_passAll 25 = .ok (.iload_n 1, 1) := by decide +kernel
theorem dX4_passAll_26 : decode cX4_passAll 26 = .ok (.if_icmp .lt 29, 3) := by decide +kernel
theorem dX4_passAll_29 : decode cX4_passAll 29 = .ok (.aload_n 0, 1) := by decide +kernel
theorem dX4_passAll_30 : decode cX4_passAll 30 = .ok (.getfield 9, 3) := by decide +kernel
theorem dX4_passAll_33 : decode cX4_passAll 33 = .ok (.aload_n 0, 1) := by decide +kernel
theorem dX4_passAll_34 : decode cX4_passAll 34 = .ok (.getfield 32, 3) := by decide +kernel
theorem dX4_passAll_37 : decode cX4_passAll 37 = .ok (.baload, 1) := by decide +kernel
theorem dX4_passAll_38 : decode cX4_passAll 38 = .ok (.iload_n 2, 1) := by decide +kernel
theorem dX4_passAll_39 : decode cX4_passAll 39 = .ok (.if_icmp .gt 16, 3) := by decide +kernel
theorem dX4_passAll_42 : decode cX4_passAll 42 = .ok (.aload_n 0, 1) := by decide +kernel
theorem dX4_passAll_43 : decode cX4_passAll 43 = .ok (.dup, 1) := by decide +kernel
theorem dX4_passAll_44 : decode cX4_passAll 44 = .ok (.getfield 32, 3) := by decide +kernel
theorem dX4_passAll_47 : decode cX4_passAll 47 = .ok (.iconst 1, 1) := by decide +kernel
theorem dX4_passAll_48 : decode cX4_passAll 48 = .ok (.iadd, 1) := by decide +kernel
theorem dX4_passAll_49 : decode cX4_passAll 49 = .ok (.putfield 32, 3) := by decide +kernel
theorem dX4_passAll_52 : decode cX4_passAll 52 = .ok (.goto (-47), 3) := by decide +kernel
theorem dX4_passAll_55 : decode cX4_passAll 55 = .ok (.aload_n 0, 1) := by decide +kernel
theorem dX4_passAll_56 : decode cX4_passAll 56 = .ok (.getfield 32, 3) := by decide +kernel
theorem dX4_passAll_59 : decode cX4_passAll 59 = .ok (.iload_n 3, 1) := by decide +kernel
theorem dX4_passAll_60 : decode cX4_passAll 60 = .ok (.if_icmp .le 7, 3) := by decide +kernel
theorem dX4_passAll_63 : decode cX4_passAll 63 = .ok (.iconst 1, 1) := by decide +kernel
theorem dX4_passAll_64 : decode cX4_passAll 64 = .ok (.goto 4, 3) := by decide +kernel
theorem dX4_passAll_67 : decode cX4_passAll 67 = .ok (.iconst 0, 1) := by decide +kernel
theorem dX4_passAll_68 : decode cX4_passAll 68 = .ok (.ireturn, 1) := by decide +kernel
theorem dX4_takeNumber_0 : decode cX4_takeNumber 0 = .ok (.aload_n 0, 1) := by decide +kernel
theorem dX4_takeNumber_1 : decode cX4_takeNumber 1 = .ok (.getfield 9, 3) := by decide +kernel
theorem dX4_takeNumber_4 : decode cX4_takeNumber 4 = .ok (.aload_n 0, 1) := by decide +kernel
theorem dX4_takeNumber_5 : decode cX4_takeNumber 5 = .ok (.getfield 32, 3) := by decide +kernel
theorem dX4_takeNumber_8 : decode cX4_takeNumber 8 = .ok (.iconst 1, 1) := by decide +kernel
theorem dX4_takeNumber_9 : decode cX4_takeNumber 9 = .ok (.isub, 1) := by decide +kernel
theorem dX4_takeNumber_10 : decode cX4_takeNumber 10 = .ok (.baload, 1) := by decide +kernel
theorem dX4_takeNumber_11 : decode cX4_takeNumber 11 = .ok (.bipush 48, 2) := by decide +kernel
theorem dX4_takeNumber_13 : decode cX4_takeNumber 13 = .ok (.isub, 1) := by decide +kernel
theorem dX4_takeNumber_14 : decode cX4_takeNumber 14 = .ok (.istore_n 1, 1) := by decide +kernel
theorem dX4_takeNumber_15 : decode cX4_takeNumber 15 = .ok (.aload_n 0, 1) := by decide +kernel
theorem dX4_takeNumber_16 : decode cX4_takeNumber 16 = .ok (.getfield 32, 3) := by decide +kernel
theorem dX4_takeNumber_19 : decode cX4_takeNumber 19 = .ok (.aload_n 0, 1) := by decide +kernel
theorem dX4_takeNumber_20 : decode cX4_takeNumber 20 = .ok (.getfield 29, 3) := by decide +kernel
theorem dX4_takeNumber_23 : decode cX4_takeNumber 23 = .ok (.isub, 1) := by decide +kernel
theorem dX4_takeNumber_24 : decode cX4_takeNumber 24 = .ok (.istore_n 2, 1) := by decide +kernel
theorem dX4_takeNumber_25 : decode cX4_takeNumber 25 = .ok (.aload_n 0, 1) := by decide +kernel
theorem dX4_takeNumber_26 : decode cX4_takeNumber 26 = .ok (.iload_n 2, 1) := by decide +kernel
theorem dX4_takeNumber_27 : decode cX4_takeNumber 27 = .ok (.iconst 1, 1) := by decide +kernel
theorem dX4_takeNumber_28 : decode cX4_takeNumber 28 = .ok (.if_icmp .ne 7, 3) := by decide +kernel
theorem dX4_takeNumber_31 : decode cX4_takeNumber 31 = .ok (.iload_n 1, 1) := by decide +kernel
theorem dX4_takeNumber_32 : decode cX4_takeNumber 32 = .ok (.goto 20, 3) := by decide +kernel
theorem dX4_takeNumber_35 : decode cX4_takeNumber 35 = .ok (.bipush 10, 2) := by decide +kernel
theorem dX4_takeNumber_37 : decode cX4_takeNumber 37 = .ok (.aload_n 0, 1) := by decide +kernel
theorem dX4_takeNumber_38 : decode cX4_takeNumber 38 = .ok (.getfield 9, 3) := by decide +kernel
theorem dX4_takeNumber_41 : decode cX4_takeNumber 41 = .ok (.aload_n 0, 1) := by decide +kernel
theorem dX4_takeNumber_42 : decode cX4_takeNumber 42 = .ok (.getfield 29, 3) := by decide +kernel
theorem dX4_takeNumber_45 : decode cX4_takeNumber 45 = .ok (.baload, 1) := by decide +kernel
theorem dX4_takeNumber_46 : decode cX4_takeNumber 46 = .ok (.bipush 48, 2) := by decide +kernel
theorem dX4_takeNumber_48 : decode cX4_takeNumber 48 = .ok (.isub, 1) := by decide +kernel
theorem dX4_takeNumber_49 : decode cX4_takeNumber 49 = .ok (.imul, 1) := by decide +kernel
theorem dX4_takeNumber_50 : decode cX4_takeNumber 50 = .ok (.iload_n 1, 1) := by decide +kernel
theorem dX4_takeNumber_51 : decode cX4_takeNumber 51 = .ok (.iadd, 1) := by decide +kernel
theorem dX4_takeNumber_52 : decode cX4_takeNumber 52 = .ok (.putfield 38, 3) := by decide +kernel
theorem dX4_takeNumber_55 : decode cX4_takeNumber 55 = .ok (.aload_n 0, 1) := by decide +kernel
theorem dX4_takeNumber_56 : decode cX4_takeNumber 56 = .ok (.iload_n 2, 1) := by decide +kernel
theorem dX4_takeNumber_57 : decode cX4_takeNumber 57 = .ok (.iconst 2, 1) := by decide +kernel
theorem dX4_takeNumber_58 : decode cX4_takeNumber 58 = .ok (.if_icmp .gt 7, 3) := by decide +kernel
theorem dX4_takeNumber_61 : decode cX4_takeNumber 61 = .ok (.iconst 2, 1) := by decide +kernel
theorem dX4_takeNumber_62 : decode cX4_takeNumber 62 = .ok (.goto 4, 3) := by decide +kernel
theorem dX4_takeNumber_65 : decode cX4_takeNumber 65 = .ok (.iconst 4, 1) := by decide +kernel
theorem dX4_takeNumber_66 : decode cX4_takeNumber 66 = .ok (.putfield 35, 3) := by decide +kernel
theorem dX4_takeNumber_69 : decode cX4_takeNumber 69 = .ok (.return_, 1) := by decide +kernel
theorem dX5_init_0 : decode cX5_init 0 = .ok (.aload_n 0, 1) := by decide +kernel
theorem dX5_init_1 : decode cX5_init 1 = .ok (.invokespecial 3, 3) := by decide +kernel
theorem dX5_init_4 : decode cX5_init 4 = .ok (.aload_n 0, 1) := by decide +kernel
theorem dX5_init_5 : decode cX5_init 5 = .ok (.bipush 6, 2) := by decide +kernel
theorem dX5_init_7 : decode cX5_init 7 = .ok (.anewarray 9, 3) := by decide +kernel
theorem dX5_init_10 : decode cX5_init 10 = .ok (.putfield 11, 3) := by decide +kernel
theorem dX5_init_13 : decode cX5_init 13 = .ok (.aload_n 0, 1) := by decide +kernel
theorem dX5_init_14 : decode cX5_init 14 = .ok (.iconst 5, 1) := by decide +kernel
theorem dX5_init_15 : decode cX5_init 15 = .ok (.newarray .int, 2) := by decide +kernel
theorem dX5_init_17 : decode cX5_init 17 = .ok (.putfield 17, 3) := by decide +kernel
theorem dX5_init_20 : decode cX5_init 20 = .ok (.aload_n 0, 1) := by decide +kernel
theorem dX5_init_21 : decode cX5_init 21 = .ok (.iconst 5, 1) := by decide +kernel
theorem dX5_init_22 : decode cX5_init 22 = .ok (.newarray .int, 2) := by decide +kernel
theorem dX5_init_24 : decode cX5_init 24 = .ok (.putfield 21, 3) := by decide +kernel
theorem dX5_init_27 : decode cX5_init 27 = .ok (.aload_n 0, 1) := by decide +kernel
theorem dX5_init_28 : decode cX5_init 28 = .ok (.bipush 16, 2) := by decide +kernel
theorem dX5_init_30 : decode cX5_init 30 = .ok (.newarray .int, 2) := by decide +kernel
theorem dX5_init_32 : decode cX5_init 32 = .ok (.putfield 24, 3) := by decide +kernel
theorem dX5_init_35 : decode cX5_init 35 = .ok (.aload_n 0, 1) := by decide +kernel
theorem dX5_init_36 : decode cX5_init 36 = .ok (.bipush 16, 2) := by decide +kernel
theorem dX5_init_38 : decode cX5_init 38 = .ok (.newarray .int, 2) := by decide +kernel
theorem dX5_init_40 : decode cX5_init 40 = .ok (.putfield 27, 3) := by decide +kernel
theorem dX5_init_43 : decode cX5_init 43 = .ok (.aload_n 0, 1) := by decide +kernel
theorem dX5_init_44 : decode cX5_init 44 = .ok (.iconst 4, 1) := by decide +kernel
theorem dX5_init_45 : decode cX5_init 45 = .ok (.newarray .int, 2) := by decide +kernel
theorem dX5_init_47 : decode cX5_init 47 = .ok (.putfield 30, 3) := by decide +kernel
theorem dX5_init_50 : decode cX5_init 50 = .ok (.aload_n 0, 1) := by decide +kernel
theorem dX5_init_51 : decode cX5_init 51 = .ok (.iconst 0, 1) := by decide +kernel
theorem dX5_init_52 : decode cX5_init 52 = .ok (.putfield 33, 3) := by decide +kernel
theorem dX5_init_55 : decode cX5_init 55 = .ok (.iconst 0, 1) := by decide +kernel
theorem dX5_init_56 : decode cX5_init 56 = .ok (.istore_n 1, 1) := by decide +kernel
theorem dX5_init_57 : decode cX5_init 57 = .ok (.iload_n 1, 1) := by decide +kernel
theorem dX5_init_58 : decode cX5_init 58 = .ok (.iconst 5, 1) := by decide +kernel
theorem dX5_init_59 : decode cX5_init 59 = .ok (.if_icmp .gt 22, 3) := by decide +kernel
theorem dX5_init_62 : decode cX5_init 62 = .ok (.aload_n 0, 1) := by decide +kernel
theorem dX5_init_63 : decode cX5_init 63 = .ok (.getfield 11, 3) := by decide +kernel
theorem dX5_init_66 : decode cX5_init 66 = .ok (.iload_n 1, 1) := by decide +kernel
theorem dX5_init_67 : decode cX5_init 67 = .ok (.new 9, 3) := by decide +kernel
theorem dX5_init_70 : decode cX5_init 70 = .ok (.dup, 1) := by decide +kernel
theorem dX5_init_71 : decode cX5_init 71 = .ok (.invokespecial 37, 3) := by decide +kernel
theorem dX5_init_74 : decode cX5_init 74 = .ok (.aastore, 1) := by decide +kernel
theorem dX5_init_75 : decode cX5_init 75 = .ok (.iinc 1 1, 3) := by decide +kernel
theorem dX5_init_78 : decode cX5_init 78 = .ok (.goto (-21), 3) := by decide +kernel
theorem dX5_init_81 : decode cX5_init 81 = .ok (.return_, 1) := by decide +kernel
theorem dX5_begin_0 : decode cX5_begin 0 = .ok (.aload_n 0, 1) := by decide +kernel
theorem dX5_begin_1 : decode cX5_begin 1 = .ok (.getfield 11, 3) := by decide +kernel
theorem dX5_begin_4 : decode cX5_begin 4 = .ok (.iconst 0, 1) := by decide +kernel
theorem dX5_begin_5 : decode cX5_begin 5 = .ok (.aaload, 1) := by decide +kernel
theorem dX5_begin_6 : decode cX5_begin 6 = .ok (.aload_n 1, 1) := by decide +kernel
theorem dX5_begin_7 : decode cX5_begin 7 = .ok (.invokevirtual 38, 3) := by decide +kernel
theorem dX5_begin_10 : decode cX5_begin 10 = .ok (.aload_n 0, 1) := by decide +kernel
theorem dX5_begin_11 : decode cX5_begin 11 = .ok (.getfield 11, 3) := by decide +kernel
theorem dX5_begin_14 : decode cX5_begin 14 = .ok (.iconst 0, 1) := by decide +kernel
theorem dX5_begin_15 : decode cX5_begin 15 = .ok (.aaload, 1) := by decide +kernel
theorem dX5_begin_16 : decode cX5_begin 16 = .ok (.areturn, 1) := by decide +kernel
theorem dX5_searchRow_0 : decode cX5_searchRow 0 = .ok (.aload_n 0, 1) := by decide +kernel
theorem dX5_searchRow_1 : decode cX5_searchRow 1 = .ok (.aload_n 1, 1) := by decide +kernel
theorem dX5_searchRow_2 : decode cX5_searchRow 2 = .ok (.invokevirtual 42, 3) := by decide +kernel
theorem dX5_searchRow_5 : decode cX5_searchRow 5 = .ok (.pop, 1) := by decide +kernel
theorem dX5_searchRow_6 : decode cX5_searchRow 6 = .ok (.aload_n 0, 1) := by decide +kernel
theorem dX5_searchRow_7 : decode cX5_searchRow 7 = .ok (.iload_n 3, 1) := by decide +kernel
theorem dX5_searchRow_8 : decode cX5_searchRow 8 = .ok (.iconst 5, 1) := by decide +kernel
theorem dX5_searchRow_9 : decode cX5_searchRow 9 = .ok (.imul, 1) := by decide +kernel
theorem dX5_searchRow_10 : decode cX5_searchRow 10 = .ok (.iconst 1, 1) := by decide +kernel
theorem dX5_searchRow_11 : decode cX5_searchRow 11 = .ok (.iadd, 1) := by decide +kernel
theorem dX5_searchRow_12 : decode cX5_searchRow 12 = .ok (.putfield 33, 3) := by decide +kernel
theorem dX5_searchRow_15 : decode cX5_searchRow 15 = .ok (.aload_n 0, 1) := by decide +kernel
theorem dX5_searchRow_16 : decode cX5_searchRow 16 = .ok (.iconst 0, 1) := by decide +kernel
theorem dX5_searchRow_17 : decode cX5_searchRow 17 = .ok (.iload_n 2, 1) := by decide +kernel
theorem dX5_searchRow_18 : decode cX5_searchRow 18 = .ok (.iload_n 3, 1) := by decide +kernel
theorem dX5_searchRow_19 : decode cX5_searchRow 19 = .ok (.iload 4, 2) := by decide +kernel
theorem dX5_searchRow_21 : decode cX5_searchRow 21 = .ok (.invokevirtual 46, 3) := by decide +kernel
theorem dX5_searchRow_24 : decode cX5_searchRow 24 = .ok (.iload 4, 2) := by decide +kernel
theorem dX5_searchRow_26 : decode cX5_searchRow 26 = .ok (.ifCond .eq 12, 3) := by decide +kernel
theorem dX5_searchRow_29 : decode cX5_searchRow 29 = .ok (.iload_n 3, 1) := by decide +kernel
theorem dX5_searchRow_30 : decode cX5_searchRow 30 = .ok (.aload_n 0, 1) := by decide +kernel
theorem dX5_searchRow_31 : decode cX5_searchRow 31 = .ok (.getfield 33, 3) := by decide +kernel
theorem dX5_searchRow_34 : decode cX5_searchRow 34 = .ok (.isub, 1) := by decide +kernel
theorem dX5_searchRow_35 : decode cX5_searchRow 35 = .ok (.goto 7, 3) := by decide +kernel
theorem dX5_searchRow_38 : decode cX5_searchRow 38 = .ok (.aload_n 0, 1) := by decide +kernel
theorem dX5_searchRow_39 : decode cX5_searchRow 39 = .ok (.getfield 33, 3) := by decide +kernel
theorem dX5_searchRow_42 : decode cX5_searchRow 42 = .ok (.ireturn, 1) := by decide +kernel
theorem dX5_searchFrom_0 : decode cX5_searchFrom 0 = .ok (.iload 4, 2) := by decide +kernel
theorem dX5_searchFrom_2 : decode cX5_searchFrom 2 = .ok (.ifCond .eq 31, 3) := by decide +kernel
theorem dX5_searchFrom_5 : decode cX5_searchFrom 5 = .ok (.iload_n 1, 1) := by decide +kernel
theorem dX5_searchFrom_6 : decode cX5_searchFrom 6 = .ok (.aload_n 0, 1) := by decide +kernel
theorem dX5_searchFrom_7 : decode cX5_searchFrom 7 = .ok (.getfield 11, 3) := by decide +kernel
theorem dX5_searchFrom_10 : decode cX5_searchFrom 10 = .ok (.iload_n 1, 1) := by decide +kernel
theorem dX5_searchFrom_11 : decode cX5_searchFrom 11 = .ok (.aaload, 1) := by decide +kernel
theorem dX5_searchFrom_12 : decode cX5_searchFrom 12 = .ok (.getfield 50, 3) := by decide +kernel
theorem dX5_searchFrom_15 : decode cX5_searchFrom 15 = .ok (.iload_n 2, 1) := by decide +kernel
theorem dX5_searchFrom_16 : decode cX5_searchFrom 16 = .ok (.iaload, 1) := by decide +kernel
theorem dX5_searchFrom_17 : decode cX5_searchFrom 17 = .ok (.isub, 1) := by decide +kernel
theorem dX5_searchFrom_18 : decode cX5_searchFrom 18 = .ok (.aload_n 0, 1) := by decide +kernel
theorem dX5_searchFrom_19 : decode cX5_searchFrom 19 = .ok (.getfield 11, 3) := by decide +kernel
theorem dX5_searchFrom_22 : decode cX5_searchFrom 22 = .ok (.iconst 0, 1) := by decide +kernel
theorem dX5_searchFrom_23 : decode cX5_searchFrom 23 = .ok (.aaload, 1) := by decide +kernel
theorem dX5_searchFrom_24 : decode cX5_searchFrom 24 = .ok (.getfield 50, 3) := by decide +kernel
theorem dX5_searchFrom_27 : decode cX5_searchFrom 27 = .ok (.iload_n 2, 1) := by decide +kernel
theorem dX5_searchFrom_28 : decode cX5_searchFrom 28 = .ok (.iaload, 1) := by decide +kernel
theorem dX5_searchFrom_29 : decode cX5_searchFrom 29 = .ok (.iadd, 1) := by decide +kernel
theorem dX5_searchFrom_30 : decode cX5_searchFrom 30 = .ok (.goto 26, 3) := by decide +kernel
theorem dX5_searchFrom_33 : decode cX5_searchFrom 33 = .ok (.aload_n 0, 1) := by decide +kernel
theorem dX5_searchFrom_34 : decode cX5_searchFrom 34 = .ok (.getfield 11, 3) := by decide +kernel
theorem dX5_searchFrom_37 : decode cX5_searchFrom 37 = .ok (.iload_n 1, 1) := by decide +kernel
theorem dX5_searchFrom_38 : decode cX5_searchFrom 38 = .ok (.aaload, 1) := by decide +kernel
theorem dX5_searchFrom_39 : decode cX5_searchFrom 39 = .ok (.getfield 53, 3) := by decide +kernel
theorem dX5_searchFrom_42 : decode cX5_searchFrom 42 = .ok (.iload_n 2, 1) := by decide +kernel
theorem dX5_searchFrom_43 : decode cX5_searchFrom 43 = .ok (.iaload, 1) := by decide +kernel
theorem dX5_searchFrom_44 : decode cX5_searchFrom 44 = .ok (.aload_n 0, 1) := by decide +kernel
theorem dX5_searchFrom_45 : decode cX5_searchFrom 45 = .ok (.getfield 11, 3) := by decide +kernel
theorem dX5_searchFrom_48 : decode cX5_searchFrom 48 = .ok (.iconst 0, 1) := by decide +kernel
theorem dX5_searchFrom_49 : decode cX5_searchFrom 49 = .ok (.aaload, 1) := by decide +kernel
theorem dX5_searchFrom_50 : decode cX5_searchFrom 50 = .ok (.getfield 53, 3) := by decide +kernel
theorem dX5_searchFrom_53 : decode cX5_searchFrom 53 = .ok (.iload_n 2, 1) := by decide +kernel
theorem dX5_searchFrom_54 : decode cX5_searchFrom 54 = .ok (.iaload, 1) := by decide +kernel
theorem dX5_searchFrom_55 : decode cX5_searchFrom 55 = .ok (.isub, 1) := by decide +kernel
theorem dX5_searchFrom_56 : decode cX5_searchFrom 56 = .ok (.istore 5, 2) := by decide +kernel
theorem dX5_searchFrom_58 : decode cX5_searchFrom 58 = .ok (.iload_n 1, 1) := by decide +kernel
theorem dX5_searchFrom_59 : decode cX5_searchFrom 59 = .ok (.iload_n 3, 1) := by decide +kernel
theorem dX5_searchFrom_60 : decode cX5_searchFrom 60 = .ok (.if_icmp .ge 8, 3) := by decide +kernel
theorem dX5_searchFrom_63 : decode cX5_searchFrom 63 = .ok (.iload_n 1, 1) := by decide +kernel
theorem dX5_searchFrom_64 : decode cX5_searchFrom 64 = .ok (.iconst 5, 1) := by decide +kernel
theorem dX5_searchFrom_65 : decode cX5_searchFrom 65 = .ok (.if_icmp .lt 33, 3) := by decide +kernel
theorem dX5_searchFrom_68 : decode cX5_searchFrom 68 = .ok (.iload 5, 2) := by decide +kernel
theorem dX5_searchFrom_70 : decode cX5_searchFrom 70 = .ok (.aload_n 0, 1) := by decide +kernel
theorem dX5_searchFrom_71 : decode cX5_searchFrom 71 = .ok (.getfield 33, 3) := by decide +kernel
theorem dX5_searchFrom_74 : decode cX5_searchFrom 74 = .ok (.if_icmp .ge 23, 3) := by decide +kernel
theorem dX5_searchFrom_77 : decode cX5_searchFrom 77 = .ok (.aload_n 0, 1) := by decide +kernel
theorem dX5_searchFrom_78 : decode cX5_searchFrom 78 = .ok (.iload 5, 2) := by decide +kernel
theorem dX5_searchFrom_80 : decode cX5_searchFrom 80 = .ok (.putfield 33, 3) := by decide +kernel
theorem dX5_searchFrom_83 : decode cX5_searchFrom 83 = .ok (.aload_n 0, 1) := by decide +kernel
theorem dX5_searchFrom_84 : decode cX5_searchFrom 84 = .ok (.getfield 17, 3) := by decide +kernel
theorem dX5_searchFrom_87 : decode cX5_searchFrom 87 = .ok (.iconst 0, 1) := by decide +kernel
theorem dX5_searchFrom_88 : decode cX5_searchFrom 88 = .ok (.aload_n 0, 1) := by decide +kernel
theorem dX5_searchFrom_89 : decode cX5_searchFrom 89 = .ok (.getfield 21, 3) := by decide +kernel
theorem dX5_searchFrom_92 : decode cX5_searchFrom 92 = .ok (.iconst 0, 1) := by decide +kernel
theorem dX5_searchFrom_93 : decode cX5_searchFrom 93 = .ok (.iconst 5, 1) := by decide +kernel
theorem dX5_searchFrom_94 : decode cX5_searchFrom 94 = .ok (.invokestatic 56, 3) := by decide +kernel
theorem dX5_searchFrom_97 : decode cX5_searchFrom 97 = .ok (.return_, 1) := by decide +kernel
theorem dX5_searchFrom_98 : decode cX5_searchFrom 98 = .ok (.iconst 0, 1) := by decide +kernel
theorem dX5_searchFrom_99 : decode cX5_searchFrom 99 = .ok (.istore 6, 2) := by decide +kernel
theorem dX5_searchFrom_101 : decode cX5_searchFrom 101 = .ok (.iload 6, 2) := by decide +kernel
theorem dX5_searchFrom_103 : decode cX5_searchFrom 103 = .ok (.iconst 4, 1) := by decide +kernel
theorem dX5_searchFrom_104 : decode cX5_searchFrom 104 = .ok (.if_icmp .ge 69, 3) := by decide +kernel
theorem dX5_searchFrom_107 : decode cX5_searchFrom 107 = .ok (.iload 5, 2) := by decide +kernel
theorem dX5_searchFrom_109 : decode cX5_searchFrom 109 = .ok (.aload_n 0, 1) := by decide +kernel
theorem dX5_searchFrom_110 : decode cX5_searchFrom 110 = .ok (.getfield 33, 3) := by decide +kernel
theorem dX5_searchFrom_113 : decode cX5_searchFrom 113 = .ok (.if_icmp .ge 60, 3) := by decide +kernel
theorem dX5_searchFrom_116 : decode cX5_searchFrom 116 = .ok (.aload_n 0, 1) := by decide +kernel
theorem dX5_searchFrom_117 : decode cX5_searchFrom 117 = .ok (.getfield 17, 3) := by decide +kernel
theorem dX5_searchFrom_120 : decode cX5_searchFrom 120 = .ok (.iload_n 1, 1) := by decide +kernel
theorem dX5_searchFrom_121 : decode cX5_searchFrom 121 = .ok (.iload 6, 2) := by decide +kernel
theorem dX5_searchFrom_123 : decode cX5_searchFrom 123 = .ok (.iastore, 1) := by decide +kernel
theorem dX5_searchFrom_124 : decode cX5_searchFrom 124 = .ok (.aload_n 0, 1) := by decide +kernel
theorem dX5_searchFrom_125 : decode cX5_searchFrom 125 = .ok (.getfield 11, 3) := by decide +kernel
theorem dX5_searchFrom_128 : decode cX5_searchFrom 128 = .ok (.iload_n 1, 1) := by decide +kernel
theorem dX5_searchFrom_129 : decode cX5_searchFrom 129 = .ok (.iconst 1, 1) := by decide +kernel
theorem dX5_searchFrom_130 : decode cX5_searchFrom 130 = .ok (.iadd, 1) := by decide +kernel
theorem dX5_searchFrom_131 : decode cX5_searchFrom 131 = .ok (.aaload, 1) := by decide +kernel
theorem dX5_searchFrom_132 : decode cX5_searchFrom 132 = .ok (.astore 7, 2) := by decide +kernel
theorem dX5_searchFrom_134 : decode cX5_searchFrom 134 = .ok (.aload 7, 2) := by decide +kernel
theorem dX5_searchFrom_136 : decode cX5_searchFrom 136 = .ok (.aload_n 0, 1) := by decide +kernel
theorem dX5_searchFrom_137 : decode cX5_searchFrom 137 = .ok (.getfield 11, 3) := by decide +kernel
theorem dX5_searchFrom_140 : decode cX5_searchFrom 140 = .ok (.iload_n 1, 1) := by decide +kernel
theorem dX5_searchFrom_141 : decode cX5_searchFrom 141 = .ok (.aaload, 1) := by decide +kernel
theorem dX5_searchFrom_142 : decode cX5_searchFrom 142 = .ok (.invokevirtual 38, 3) := by decide +kernel
theorem dX5_searchFrom_145 : decode cX5_searchFrom 145 = .ok (.aload 7, 2) := by decide +kernel
theorem dX5_searchFrom_147 : decode cX5_searchFrom 147 = .ok (.iload_n 2, 1) := by decide +kernel
theorem dX5_searchFrom_148 : decode cX5_searchFrom 148 = .ok (.iload 6, 2) := by decide +kernel
theorem dX5_searchFrom_150 : decode cX5_searchFrom 150 = .ok (.iconst (-1), 1) := by decide +kernel
theorem dX5_searchFrom_151 : decode cX5_searchFrom 151 = .ok (.iconst 0, 1) := by decide +kernel
theorem dX5_searchFrom_152 : decode cX5_searchFrom 152 = .ok (.invokevirtual 62, 3) := by decide +kernel
theorem dX5_searchFrom_155 : decode cX5_searchFrom 155 = .ok (.pop, 1) := by decide +kernel
theorem dX5_searchFrom_156 : decode cX5_searchFrom 156 = .ok (.aload_n 0, 1) := by decide +kernel
theorem dX5_searchFrom_157 : decode cX5_searchFrom 157 = .ok (.iload_n 1, 1) := by decide +kernel
theorem dX5_searchFrom_158 : decode cX5_searchFrom 158 = .ok (.iconst 1, 1) := by decide +kernel
theorem dX5_searchFrom_159 : decode cX5_searchFrom 159 = .ok (.iadd, 1) := by decide +kernel
theorem dX5_searchFrom_160 : decode cX5_searchFrom 160 = .ok (.iload_n 2, 1) := by decide +kernel
theorem dX5_searchFrom_161 : decode cX5_searchFrom 161 = .ok (.iload_n 3, 1) := by decide +kernel
theorem dX5_searchFrom_162 : decode cX5_searchFrom 162 = .ok (.iload 4, 2) := by decide +kernel
theorem dX5_searchFrom_164 : decode cX5_searchFrom 164 = .ok (.invokevirtual 46, 3) := by decide +kernel
theorem dX5_searchFrom_167 : decode cX5_searchFrom 167 = .ok (.iinc 6 1, 3) := by decide +kernel
theorem dX5_searchFrom_170 : decode cX5_searchFrom 170 = .ok (.goto (-69), 3) := by decide +kernel
theorem dX5_searchFrom_173 : decode cX5_searchFrom 173 = .ok (.return_, 1) := by decide +kernel
theorem dX5_restingPairs_0 : decode cX5_restingPairs 0 = .ok (.iconst 0, 1) := by decide +kernel
theorem dX5_restingPairs_1 : decode cX5_restingPairs 1 = .ok (.istore 4, 2) := by decide +kernel
theorem dX5_restingPairs_3 : decode cX5_restingPairs 3 = .ok (.iload 4, 2) := by decide +kernel
theorem dX5_restingPairs_5 : decode cX5_restingPairs 5 = .ok (.bipush 16, 2) := by decide +kernel
theorem dX5_restingPairs_7 : decode cX5_restingPairs 7 = .ok (.if_icmp .ge 60, 3) := by decide +kernel
theorem dX5_restingPairs_10 : decode cX5_restingPairs 10 = .ok (.aload_n 0, 1) := by decide +kernel
theorem dX5_restingPairs_11 : decode cX5_restingPairs 11 = .ok (.aload_n 1, 1) := by decide +kernel
theorem dX5_restingPairs_12 : decode cX5_restingPairs 12 = .ok (.invokevirtual 42, 3) := by decide +kernel
theorem dX5_restingPairs_15 : decode cX5_restingPairs 15 = .ok (.astore 5, 2) := by decide +kernel
theorem dX5_restingPairs_17 : decode cX5_restingPairs 17 = .ok (.aload 5, 2) := by decide +kernel
theorem dX5_restingPairs_19 : decode cX5_restingPairs 19 = .ok (.iload_n 2, 1) := by decide +kernel
theorem dX5_restingPairs_20 : decode cX5_restingPairs 20 = .ok (.iload 4, 2) := by decide +kernel
theorem dX5_restingPairs_22 : decode cX5_restingPairs 22 = .ok (.iconst 4, 1) := by decide +kernel
theorem dX5_restingPairs_23 : decode cX5_restingPairs 23 = .ok (.idiv, 1) := by decide +kernel
theorem dX5_restingPairs_24 : decode cX5_restingPairs 24 = .ok (.iload_n 3, 1) := by decide +kernel
theorem dX5_restingPairs_25 : decode cX5_restingPairs 25 = .ok (.iload 4, 2) := by decide +kernel
theorem dX5_restingPairs_27 : decode cX5_restingPairs 27 = .ok (.iconst 4, 1) := by decide +kernel
theorem dX5_restingPairs_28 : decode cX5_restingPairs 28 = .ok (.irem, 1) := by decide +kernel
theorem dX5_restingPairs_29 : decode cX5_restingPairs 29 = .ok (.invokevirtual 62, 3) := by decide +kernel
theorem dX5_restingPairs_32 : decode cX5_restingPairs 32 = .ok (.pop, 1) := by decide +kernel
theorem dX5_restingPairs_33 : decode cX5_restingPairs 33 = .ok (.aload_n 0, 1) := by decide +kernel
theorem dX5_restingPairs_34 : decode cX5_restingPairs 34 = .ok (.getfield 24, 3) := by decide +kernel
theorem dX5_restingPairs_37 : decode cX5_restingPairs 37 = .ok (.iload 4, 2) := by decide +kernel
theorem dX5_restingPairs_39 : decode cX5_restingPairs 39 = .ok (.aload_n 1, 1) := by decide +kernel
theorem dX5_restingPairs_40 : decode cX5_restingPairs 40 = .ok (.aload 5, 2) := by decide +kernel
theorem dX5_restingPairs_42 : decode cX5_restingPairs 42 = .ok (.iload_n 2, 1) := by decide +kernel
theorem dX5_restingPairs_43 : decode cX5_restingPairs 43 = .ok (.invokestatic 66, 3) := by decide +kernel
theorem dX5_restingPairs_46 : decode cX5_restingPairs 46 = .ok (.iastore, 1) := by decide +kernel
theorem dX5_restingPairs_47 : decode cX5_restingPairs 47 = .ok (.aload_n 0, 1) := by decide +kernel
theorem dX5_restingPairs_48 : decode cX5_restingPairs 48 = .ok (.getfield 27, 3) := by decide +kernel
theorem dX5_restingPairs_51 : decode cX5_restingPairs 51 = .ok (.iload 4, 2) := by decide +kernel
theorem dX5_restingPairs_53 : decode cX5_restingPairs 53 = .ok (.aload_n 1, 1) := by decide +kernel
theorem dX5_restingPairs_54 : decode cX5_restingPairs 54 = .ok (.aload 5, 2) := by decide +kernel
theorem dX5_restingPairs_56 : decode cX5_restingPairs 56 = .ok (.iload_n 3, 1) := by decide +kernel
theorem dX5_restingPairs_57 : decode cX5_restingPairs 57 = .ok (.invokestatic 66, 3) := by decide +kernel
theorem dX5_restingPairs_60 : decode cX5_restingPairs 60 = .ok (.iastore, 1) := by decide +kernel
theorem dX5_restingPairs_61 : decode cX5_restingPairs 61 = .ok (.iinc 4 1, 3) := by decide +kernel
theorem dX5_restingPairs_64 : decode cX5_restingPairs 64 = .ok (.goto (-61), 3) := by decide +kernel
theorem dX5_restingPairs_67 : decode cX5_restingPairs 67 = .ok (.iconst 0, 1) := by decide +kernel
theorem dX5_restingPairs_68 : decode cX5_restingPairs 68 = .ok (.istore 4, 2) := by decide +kernel
theorem dX5_restingPairs_70 : decode cX5_restingPairs 70 = .ok (.iconst 0, 1) := by decide +kernel
theorem dX5_restingPairs_71 : decode cX5_restingPairs 71 = .ok (.istore 5, 2) := by decide +kernel
theorem dX5_restingPairs_73 : decode cX5_restingPairs 73 = .ok (.iload 5, 2) := by decide +kernel
theorem dX5_restingPairs_75 : decode cX5_restingPairs 75 = .ok (.bipush 16, 2) := by decide +kernel
theorem dX5_restingPairs_77 : decode cX5_restingPairs 77 = .ok (.if_icmp .ge 27, 3) := by decide +kernel
theorem dX5_restingPairs_80 : decode cX5_restingPairs 80 = .ok (.aload_n 0, 1) := by decide +kernel
theorem dX5_restingPairs_81 : decode cX5_restingPairs 81 = .ok (.iload 5, 2) := by decide +kernel
theorem dX5_restingPairs_83 : decode cX5_restingPairs 83 = .ok (.invokevirtual 70, 3) := by decide +kernel
theorem dX5_restingPairs_86 : decode cX5_restingPairs 86 = .ok (.ifCond .eq 12, 3) := by decide +kernel
theorem dX5_restingPairs_89 : decode cX5_restingPairs 89 = .ok (.iload 4, 2) := by decide +kernel
theorem dX5_restingPairs_91 : decode cX5_restingPairs 91 = .ok (.iconst 1, 1) := by decide +kernel
theorem dX5_restingPairs_92 : decode cX5_restingPairs 92 = .ok (.iload 5, 2) := by decide +kernel
theorem dX5_restingPairs_94 : decode cX5_restingPairs 94 = .ok (.ishl, 1) := by decide +kernel
theorem dX5_restingPairs_95 : decode cX5_restingPairs 95 = .ok (.ior, 1) := by decide +kernel
theorem dX5_restingPairs_96 : decode cX5_restingPairs 96 = .ok (.istore 4, 2) := by decide +kernel
theorem dX5_restingPairs_98 : decode cX5_restingPairs 98 = .ok (.iinc 5 1, 3) := by decide +kernel
theorem dX5_restingPairs_101 : decode cX5_restingPairs 101 = .ok (.goto (-28), 3) := by decide +kernel
theorem dX5_restingPairs_104 : decode cX5_restingPairs 104 = .ok (.iload 4, 2) := by decide +kernel
theorem dX5_restingPairs_106 : decode cX5_restingPairs 106 = .ok (.ireturn, 1) := by decide +kernel
theorem dX5_gain_0 : decode cX5_gain 0 = .ok (.aload_n 1, 1) := by decide +kernel
theorem dX5_gain_1 : decode cX5_gain 1 = .ok (.getfield 50, 3) := by decide +kernel
theorem dX5_gain_4 : decode cX5_gain 4 = .ok (.iload_n 2, 1) := by decide +kernel
theorem dX5_gain_5 : decode cX5_gain 5 = .ok (.iaload, 1) := by decide +kernel
theorem dX5_gain_6 : decode cX5_gain 6 = .ok (.aload_n 0, 1) := by decide +kernel
theorem dX5_gain_7 : decode cX5_gain 7 = .ok (.getfield 50, 3) := by decide +kernel
theorem dX5_gain_10 : decode cX5_gain 10 = .ok (.iload_n 2, 1) := by decide +kernel
theorem dX5_gain_11 : decode cX5_gain 11 = .ok (.iaload, 1) := by decide +kernel
theorem dX5_gain_12 : decode cX5_gain 12 = .ok (.isub, 1) := by decide +kernel
theorem dX5_gain_13 : decode cX5_gain 13 = .ok (.aload_n 1, 1) := by decide +kernel
theorem dX5_gain_14 : decode cX5_gain 14 = .ok (.getfield 53, 3) := by decide +kernel
theorem dX5_gain_17 : decode cX5_gain 17 = .ok (.iload_n 2, 1) := by decide +kernel
theorem dX5_gain_18 : decode cX5_gain 18 = .ok (.iaload, 1) := by decide +kernel
theorem dX5_gain_19 : decode cX5_gain 19 = .ok (.aload_n 0, 1) := by decide +kernel
theorem dX5_gain_20 : decode cX5_gain 20 = .ok (.getfield 53, 3) := by decide +kernel
theorem dX5_gain_23 : decode cX5_gain 23 = .ok (.iload_n 2, 1) := by decide +kernel
theorem dX5_gain_24 : decode cX5_gain 24 = .ok (.iaload, 1) := by decide +kernel
theorem dX5_gain_25 : decode cX5_gain 25 = .ok (.isub, 1) := by decide +kernel
theorem dX5_gain_26 : decode cX5_gain 26 = .ok (.isub, 1) := by decide +kernel
theorem dX5_gain_27 : decode cX5_gain 27 = .ok (.ireturn, 1) := by decide +kernel
theorem dX5_rests_0 : decode cX5_rests 0 = .ok (.iload_n 1, 1) := by decide +kernel
theorem dX5_rests_1 : decode cX5_rests 1 = .ok (.iconst 4, 1) := by decide +kernel
theorem dX5_rests_2 : decode cX5_rests 2 = .ok (.idiv, 1) := by decide +kernel
theorem dX5_rests_3 : decode cX5_rests 3 = .ok (.istore_n 2, 1) := by decide +kernel
theorem dX5_rests_4 : decode cX5_rests 4 = .ok (.iload_n 1, 1) := by decide +kernel
theorem dX5_rests_5 : decode cX5_rests 5 = .ok (.iconst 4, 1) := by decide +kernel
theorem dX5_rests_6 : decode cX5_rests 6 = .ok (.irem, 1) := by decide +kernel
theorem dX5_rests_7 : decode cX5_rests 7 = .ok (.istore_n 3, 1) := by decide +kernel
theorem dX5_rests_8 : decode cX5_rests 8 = .ok (.iconst 0, 1) := by decide +kernel
theorem dX5_rests_9 : decode cX5_rests 9 = .ok (.istore 4, 2) := by decide +kernel
theorem dX5_rests_11 : decode cX5_rests 11 = .ok (.iload 4, 2) := by decide +kernel
theorem dX5_rests_13 : decode cX5_rests 13 = .ok (.iconst 4, 1) := by decide +kernel
theorem dX5_rests_14 : decode cX5_rests 14 = .ok (.if_icmp .ge 51, 3) := by decide +kernel
theorem dX5_rests_17 : decode cX5_rests 17 = .ok (.aload_n 0, 1) := by decide +kernel
theorem dX5_rests_18 : decode cX5_rests 18 = .ok (.getfield 24, 3) := by decide +kernel
theorem dX5_rests_21 : decode cX5_rests 21 = .ok (.iload 4, 2) := by decide +kernel
theorem dX5_rests_23 : decode cX5_rests 23 = .ok (.iconst 4, 1) := by decide +kernel
theorem dX5_rests_24 : decode cX5_rests 24 = .ok (.imul, 1) := by decide +kernel
theorem dX5_rests_25 : decode cX5_rests 25 = .ok (.iload_n 3, 1) := by decide +kernel
theorem dX5_rests_26 : decode cX5_rests 26 = .ok (.iadd, 1) := by decide +kernel
theorem dX5_rests_27 : decode cX5_rests 27 = .ok (.iaload, 1) := by decide +kernel
theorem dX5_rests_28 : decode cX5_rests 28 = .ok (.aload_n 0, 1) := by decide +kernel
theorem dX5_rests_29 : decode cX5_rests 29 = .ok (.getfield 24, 3) := by decide +kernel
theorem dX5_rests_32 : decode cX5_rests 32 = .ok (.iload_n 1, 1) := by decide +kernel
theorem dX5_rests_33 : decode cX5_rests 33 = .ok (.iaload, 1) := by decide +kernel
theorem dX5_rests_34 : decode cX5_rests 34 = .ok (.if_icmp .gt 23, 3) := by decide +kernel
theorem dX5_rests_37 : decode cX5_rests 37 = .ok (.aload_n 0, 1) := by decide +kernel
theorem dX5_rests_38 : decode cX5_rests 38 = .ok (.getfield 27, 3) := by decide +kernel
theorem dX5_rests_41 : decode cX5_rests 41 = .ok (.iload_n 2, 1) := by decide +kernel
theorem dX5_rests_42 : decode cX5_rests 42 = .ok (.iconst 4, 1) := by decide +kernel
theorem dX5_rests_43 : decode cX5_rests 43 = .ok (.imul, 1) := by decide +kernel
theorem dX5_rests_44 : decode cX5_rests 44 = .ok (.iload 4, 2) := by decide +kernel
theorem dX5_rests_46 : decode cX5_rests 46 = .ok (.iadd, 1) := by decide +kernel
theorem dX5_rests_47 : decode cX5_rests 47 = .ok (.iaload, 1) := by decide +kernel
theorem dX5_rests_48 : decode cX5_rests 48 = .ok (.aload_n 0, 1) := by decide +kernel
theorem dX5_rests_49 : decode cX5_rests 49 = .ok (.getfield 27, 3) := by decide +kernel
theorem dX5_rests_52 : decode cX5_rests 52 = .ok (.iload_n 1, 1) := by decide +kernel
theorem dX5_rests_53 : decode cX5_rests 53 = .ok (.iaload, 1) := by decide +kernel
theorem dX5_rests_54 : decode cX5_rests 54 = .ok (.if_icmp .le 5, 3) := by decide +kernel
theorem dX5_rests_57 : decode cX5_rests 57 = .ok (.iconst 0, 1) := by decide +kernel
theorem dX5_rests_58 : decode cX5_rests 58 = .ok (.ireturn, 1) := by decide +kernel
theorem dX5_rests_59 : decode cX5_rests 59 = .ok (.iinc 4 1, 3) := by decide +kernel
theorem dX5_rests_62 : decode cX5_rests 62 = .ok (.goto (-51), 3) := by decide +kernel
theorem dX5_rests_65 : decode cX5_rests 65 = .ok (.iconst 1, 1) := by decide +kernel
theorem dX5_rests_66 : decode cX5_rests 66 = .ok (.ireturn, 1) := by decide +kernel
theorem dX5_bumpsByOdds_0 : decode cX5_bumpsByOdds 0 = .ok (.aload_n 0, 1) := by decide +kernel
theorem dX5_bumpsByOdds_1 : decode cX5_bumpsByOdds 1 = .ok (.aload_n 1, 1) := by decide +kernel
theorem dX5_bumpsByOdds_2 : decode cX5_bumpsByOdds 2 = .ok (.invokevirtual 42, 3) := by decide +kernel
theorem dX5_bumpsByOdds_5 : decode cX5_bumpsByOdds 5 = .ok (.astore 4, 2) := by decide +kernel
theorem dX5_bumpsByOdds_7 : decode cX5_bumpsByOdds 7 = .ok (.lconst 1, 1) := by decide +kernel
theorem dX5_bumpsByOdds_8 : decode cX5_bumpsByOdds 8 = .ok (.lstore 5, 2) := by decide +kernel
theorem dX5_bumpsByOdds_10 : decode cX5_bumpsByOdds 10 = .ok (.lconst 0, 1) := by decide +kernel
theorem dX5_bumpsByOdds_11 : decode cX5_bumpsByOdds 11 = .ok (.lstore 7, 2) := by decide +kernel
theorem dX5_bumpsByOdds_13 : decode cX5_bumpsByOdds 13 = .ok (.iconst 0, 1) := by decide +kernel
theorem dX5_bumpsByOdds_14 : decode cX5_bumpsByOdds 14 = .ok (.istore 9, 2) := by decide +kernel
theorem dX5_bumpsByOdds_16 : decode cX5_bumpsByOdds 16 = .ok (.iload 9, 2) := by decide +kernel
theorem dX5_bumpsByOdds_18 : decode cX5_bumpsByOdds 18 = .ok (.iload_n 2, 1) := by decide +kernel
theorem dX5_bumpsByOdds_19 : decode cX5_bumpsByOdds 19 = .ok (.if_icmp .ge 41, 3) := by decide +kernel
theorem dX5_bumpsByOdds_22 : decode cX5_bumpsByOdds 22 = .ok (.lload 5, 2) := by decide +kernel
theorem dX5_bumpsByOdds_24 : decode cX5_bumpsByOdds 24 = .ok (.bipush 10, 2) := by decide +kernel
theorem dX5_bumpsByOdds_26 : decode cX5_bumpsByOdds 26 = .ok (.iload_n 3, 1) := by decide +kernel
theorem dX5_bumpsByOdds_27 : decode cX5_bumpsByOdds 27 = .ok (.isub, 1) := by decide +kernel
theorem dX5_bumpsByOdds_28 : decode cX5_bumpsByOdds 28 = .ok (.i2l, 1) := by decide +kernel
theorem dX5_bumpsByOdds_29 : decode cX5_bumpsByOdds 29 = .ok (.lmul, 1) := by decide +kernel
theorem dX5_bumpsByOdds_30 : decode cX5_bumpsByOdds 30 = .ok (.lstore 5, 2) := by decide +kernel
theorem dX5_bumpsByOdds_32 : decode cX5_bumpsByOdds 32 = .ok (.lload 7, 2) := by decide +kernel
theorem dX5_bumpsByOdds_34 : decode cX5_bumpsByOdds 34 = .ok (.ldc2_w 74, 3) := by decide +kernel
theorem dX5_bumpsByOdds_37 : decode cX5_bumpsByOdds 37 = .ok (.lmul, 1) := by decide +kernel
theorem dX5_bumpsByOdds_38 : decode cX5_bumpsByOdds 38 = .ok (.lload 5, 2) := by decide +kernel
theorem dX5_bumpsByOdds_40 : decode cX5_bumpsByOdds 40 = .ok (.aload 4, 2) := by decide +kernel
theorem dX5_bumpsByOdds_42 : decode cX5_bumpsByOdds 42 = .ok (.iconst (-1), 1) := by decide +kernel
theorem dX5_bumpsByOdds_43 : decode cX5_bumpsByOdds 43 = .ok (.iconst 0, 1) := by decide +kernel
theorem dX5_bumpsByOdds_44 : decode cX5_bumpsByOdds 44 = .ok (.iconst (-1), 1) := by decide +kernel
theorem dX5_bumpsByOdds_45 : decode cX5_bumpsByOdds 45 = .ok (.iconst 0, 1) := by decide +kernel
theorem dX5_bumpsByOdds_46 : decode cX5_bumpsByOdds 46 = .ok (.invokevirtual 62, 3) := by decide +kernel
theorem dX5_bumpsByOdds_49 : decode cX5_bumpsByOdds 49 = .ok (.i2l, 1) := by decide +kernel
theorem dX5_bumpsByOdds_50 : decode cX5_bumpsByOdds 50 = .ok (.lmul, 1) := by decide +kernel
theorem dX5_bumpsByOdds_51 : decode cX5_bumpsByOdds 51 = .ok (.ladd, 1) := by decide +kernel
theorem dX5_bumpsByOdds_52 : decode cX5_bumpsByOdds 52 = .ok (.lstore 7, 2) := by decide +kernel
theorem dX5_bumpsByOdds_54 : decode cX5_bumpsByOdds 54 = .ok (.iinc 9 1, 3) := by decide +kernel
theorem dX5_bumpsByOdds_57 : decode cX5_bumpsByOdds 57 = .ok (.goto (-41), 3) := by decide +kernel
theorem dX5_bumpsByOdds_60 : decode cX5_bumpsByOdds 60 = .ok (.lload 7, 2) := by decide +kernel
theorem dX5_bumpsByOdds_62 : decode cX5_bumpsByOdds 62 = .ok (.lreturn, 1) := by decide +kernel
theorem dX5_bestLook_0 : decode cX5_bestLook 0 = .ok (.iload_n 3, 1) := by decide +kernel
theorem dX5_bestLook_1 : decode cX5_bestLook 1 = .ok (.ifCond .ne 5, 3) := by decide +kernel
theorem dX5_bestLook_4 : decode cX5_bestLook 4 = .ok (.iconst (-1), 1) := by decide +kernel
theorem dX5_bestLook_5 : decode cX5_bestLook 5 = .ok (.ireturn, 1) := by decide +kernel
theorem dX5_bestLook_6 : decode cX5_bestLook 6 = .ok (.iconst (-1), 1) := by decide +kernel
theorem dX5_bestLook_7 : decode cX5_bestLook 7 = .ok (.istore 4, 2) := by decide +kernel
theorem dX5_bestLook_9 : decode cX5_bestLook 9 = .ok (.bipush 7, 2) := by decide +kernel
theorem dX5_bestLook_11 : decode cX5_bestLook 11 = .ok (.istore 5, 2) := by decide +kernel
theorem dX5_bestLook_13 : decode cX5_bestLook 13 = .ok (.iconst 0, 1) := by decide +kernel
theorem dX5_bestLook_14 : decode cX5_bestLook 14 = .ok (.istore 6, 2) := by decide +kernel
theorem dX5_bestLook_16 : decode cX5_bestLook 16 = .ok (.iload 6, 2) := by decide +kernel
theorem dX5_bestLook_18 : decode cX5_bestLook 18 = .ok (.bipush 6, 2) := by decide +kernel
theorem dX5_bestLook_20 : decode cX5_bestLook 20 = .ok (.if_icmp .ge 58, 3) := by decide +kernel
theorem dX5_bestLook_23 : decode cX5_bestLook 23 = .ok (.iconst 0, 1) := by decide +kernel
theorem dX5_bestLook_24 : decode cX5_bestLook 24 = .ok (.istore 7, 2) := by decide +kernel
theorem dX5_bestLook_26 : decode cX5_bestLook 26 = .ok (.iload 7, 2) := by decide +kernel
theorem dX5_bestLook_28 : decode cX5_bestLook 28 = .ok (.iconst 3, 1) := by decide +kernel
theorem dX5_bestLook_29 : decode cX5_bestLook 29 = .ok (.if_icmp .ge 43, 3) := by decide +kernel
theorem dX5_bestLook_32 : decode cX5_bestLook 32 = .ok (.aload_n 0, 1) := by decide +kernel
theorem dX5_bestLook_33 : decode cX5_bestLook 33 = .ok (.aload_n 1, 1) := by decide +kernel
theorem dX5_bestLook_34 : decode cX5_bestLook 34 = .ok (.iload_n 2, 1) := by decide +kernel
theorem dX5_bestLook_35 : decode cX5_bestLook 35 = .ok (.iload_n 3, 1) := by decide +kernel
theorem dX5_bestLook_36 : decode cX5_bestLook 36 = .ok (.iload 6, 2) := by decide +kernel
theorem dX5_bestLook_38 : decode cX5_bestLook 38 = .ok (.iload 7, 2) := by decide +kernel
theorem dX5_bestLook_40 : decode cX5_bestLook 40 = .ok (.invokevirtual 76, 3) := by decide +kernel
theorem dX5_bestLook_43 : decode cX5_bestLook 43 = .ok (.istore 8, 2) := by decide +kernel
theorem dX5_bestLook_45 : decode cX5_bestLook 45 = .ok (.iload 8, 2) := by decide +kernel
theorem dX5_bestLook_47 : decode cX5_bestLook 47 = .ok (.iload 5, 2) := by decide +kernel
theorem dX5_bestLook_49 : decode cX5_bestLook 49 = .ok (.if_icmp .ge 17, 3) := by decide +kernel
theorem dX5_bestLook_52 : decode cX5_bestLook 52 = .ok (.iload 8, 2) := by decide +kernel
theorem dX5_bestLook_54 : decode cX5_bestLook 54 = .ok (.istore 5, 2) := by decide +kernel
theorem dX5_bestLook_56 : decode cX5_bestLook 56 = .ok (.bipush 10, 2) := by decide +kernel
theorem dX5_bestLook_58 : decode cX5_bestLook 58 = .ok (.iload 6, 2) := by decide +kernel
theorem dX5_bestLook_60 : decode cX5_bestLook 60 = .ok (.imul, 1) := by decide +kernel
theorem dX5_bestLook_61 : decode cX5_bestLook 61 = .ok (.iload 7, 2) := by decide +kernel
theorem dX5_bestLook_63 : decode cX5_bestLook 63 = .ok (.iadd, 1) := by decide +kernel
theorem dX5_bestLook_64 : decode cX5_bestLook 64 = .ok (.istore 4, 2) := by decide +kernel
theorem dX5_bestLook_66 : decode cX5_bestLook 66 = .ok (.iinc 7 1, 3) := by decide +kernel
theorem dX5_bestLook_69 : decode cX5_bestLook 69 = .ok (.goto (-43), 3) := by decide +kernel
theorem dX5_bestLook_72 : decode cX5_bestLook 72 = .ok (.iinc 6 1, 3) := by decide +kernel
theorem dX5_bestLook_75 : decode cX5_bestLook 75 = .ok (.goto (-59), 3) := by decide +kernel
theorem dX5_bestLook_78 : decode cX5_bestLook 78 = .ok (.iload 4, 2) := by decide +kernel
theorem dX5_bestLook_80 : decode cX5_bestLook 80 = .ok (.ireturn, 1) := by decide +kernel
theorem dX5_mostAlike_0 : decode cX5_mostAlike 0 = .ok (.aload_n 1, 1) := by decide +kernel
theorem dX5_mostAlike_1 : decode cX5_mostAlike 1 = .ok (.getfield 80, 3) := by decide +kernel
theorem dX5_mostAlike_4 : decode cX5_mostAlike 4 = .ok (.iload_n 2, 1) := by decide +kernel
theorem dX5_mostAlike_5 : decode cX5_mostAlike 5 = .ok (.iaload, 1) := by decide +kernel
theorem dX5_mostAlike_6 : decode cX5_mostAlike 6 = .ok (.istore 6, 2) := by decide +kernel
theorem dX5_mostAlike_8 : decode cX5_mostAlike 8 = .ok (.aload_n 1, 1) := by decide +kernel
theorem dX5_mostAlike_9 : decode cX5_mostAlike 9 = .ok (.iload_n 2, 1) := by decide +kernel
theorem dX5_mostAlike_10 : decode cX5_mostAlike 10 = .ok (.aload_n 1, 1) := by decide +kernel
theorem dX5_mostAlike_11 : decode cX5_mostAlike 11 = .ok (.getfield 83, 3) := by decide +kernel
theorem dX5_mostAlike_14 : decode cX5_mostAlike 14 = .ok (.invokevirtual 86, 3) := by decide +kernel
theorem dX5_mostAlike_17 : decode cX5_mostAlike 17 = .ok (.istore 7, 2) := by decide +kernel
theorem dX5_mostAlike_19 : decode cX5_mostAlike 19 = .ok (.aload_n 1, 1) := by decide +kernel
theorem dX5_mostAlike_20 : decode cX5_mostAlike 20 = .ok (.iload_n 2, 1) := by decide +kernel
theorem dX5_mostAlike_21 : decode cX5_mostAlike 21 = .ok (.aload_n 1, 1) := by decide +kernel
theorem dX5_mostAlike_22 : decode cX5_mostAlike 22 = .ok (.getfield 90, 3) := by decide +kernel
theorem dX5_mostAlike_25 : decode cX5_mostAlike 25 = .ok (.iload_n 2, 1) := by decide +kernel
theorem dX5_mostAlike_26 : decode cX5_mostAlike 26 = .ok (.iaload, 1) := by decide +kernel
theorem dX5_mostAlike_27 : decode cX5_mostAlike 27 = .ok (.invokevirtual 86, 3) := by decide +kernel
theorem dX5_mostAlike_30 : decode cX5_mostAlike 30 = .ok (.istore 8, 2) := by decide +kernel
theorem dX5_mostAlike_32 : decode cX5_mostAlike 32 = .ok (.iconst 0, 1) := by decide +kernel
theorem dX5_mostAlike_33 : decode cX5_mostAlike 33 = .ok (.istore 9, 2) := by decide +kernel
theorem dX5_mostAlike_35 : decode cX5_mostAlike 35 = .ok (.iload 9, 2) := by decide +kernel
theorem dX5_mostAlike_37 : decode cX5_mostAlike 37 = .ok (.iconst 4, 1) := by decide +kernel
theorem dX5_mostAlike_38 : decode cX5_mostAlike 38 = .ok (.if_icmp .ge 17, 3) := by decide +kernel
theorem dX5_mostAlike_41 : decode cX5_mostAlike 41 = .ok (.aload_n 0, 1) := by decide +kernel
theorem dX5_mostAlike_42 : decode cX5_mostAlike 42 = .ok (.getfield 30, 3) := by decide +kernel
theorem dX5_mostAlike_45 : decode cX5_mostAlike 45 = .ok (.iload 9, 2) := by decide +kernel
theorem dX5_mostAlike_47 : decode cX5_mostAlike 47 = .ok (.iconst 0, 1) := by decide +kernel
theorem dX5_mostAlike_48 : decode cX5_mostAlike 48 = .ok (.iastore, 1) := by decide +kernel
theorem dX5_mostAlike_49 : decode cX5_mostAlike 49 = .ok (.iinc 9 1, 3) := by decide +kernel
theorem dX5_mostAlike_52 : decode cX5_mostAlike 52 = .ok (.goto (-17), 3) := by decide +kernel
theorem dX5_mostAlike_55 : decode cX5_mostAlike 55 = .ok (.iconst 0, 1) := by decide +kernel
theorem dX5_mostAlike_56 : decode cX5_mostAlike 56 = .ok (.istore 9, 2) := by decide +kernel
theorem dX5_mostAlike_58 : decode cX5_mostAlike 58 = .ok (.iconst 0, 1) := by decide +kernel
theorem dX5_mostAlike_59 : decode cX5_mostAlike 59 = .ok (.istore 10, 2) := by decide +kernel
theorem dX5_mostAlike_61 : decode cX5_mostAlike 61 = .ok (.iload 10, 2) := by decide +kernel
theorem dX5_mostAlike_63 : decode cX5_mostAlike 63 = .ok (.bipush 6, 2) := by decide +kernel
theorem dX5_mostAlike_65 : decode cX5_mostAlike 65 = .ok (.if_icmp .ge 61, 3) := by decide +kernel
theorem dX5_mostAlike_68 : decode cX5_mostAlike 68 = .ok (.iload_n 3, 1) := by decide +kernel
theorem dX5_mostAlike_69 : decode cX5_mostAlike 69 = .ok (.iload 10, 2) := by decide +kernel
theorem dX5_mostAlike_71 : decode cX5_mostAlike 71 = .ok (.ishr, 1) := by decide +kernel
theorem dX5_mostAlike_72 : decode cX5_mostAlike 72 = .ok (.iconst 1, 1) := by decide +kernel
theorem dX5_mostAlike_73 : decode cX5_mostAlike 73 = .ok (.iand, 1) := by decide +kernel
theorem dX5_mostAlike_74 : decode cX5_mostAlike 74 = .ok (.iconst 1, 1) := by decide +kernel
theorem dX5_mostAlike_75 : decode cX5_mostAlike 75 = .ok (.if_icmp .ne 45, 3) := by decide +kernel
theorem dX5_mostAlike_78 : decode cX5_mostAlike 78 = .ok (.iload 10, 2) := by decide +kernel
theorem dX5_mostAlike_80 : decode cX5_mostAlike 80 = .ok (.iload 4, 2) := by decide +kernel
theorem dX5_mostAlike_82 : decode cX5_mostAlike 82 = .ok (.iload 6, 2) := by decide +kernel
theorem dX5_mostAlike_84 : decode cX5_mostAlike 84 = .ok (.iload 5, 2) := by decide +kernel
theorem dX5_mostAlike_86 : decode cX5_mostAlike 86 = .ok (.iload 7, 2) := by decide +kernel
theorem dX5_mostAlike_88 : decode cX5_mostAlike 88 = .ok (.iload 8, 2) := by decide +kernel
theorem dX5_mostAlike_90 : decode cX5_mostAlike 90 = .ok (.invokestatic 93, 3) := by decide +kernel
theorem dX5_mostAlike_93 : decode cX5_mostAlike 93 = .ok (.istore 11, 2) := by decide +kernel
theorem dX5_mostAlike_95 : decode cX5_mostAlike 95 = .ok (.aload_n 0, 1) := by decide +kernel
theorem dX5_mostAlike_96 : decode cX5_mostAlike 96 = .ok (.getfield 30, 3) := by decide +kernel
theorem dX5_mostAlike_99 : decode cX5_mostAlike 99 = .ok (.iload 11, 2) := by decide +kernel
theorem dX5_mostAlike_101 : decode cX5_mostAlike 101 = .ok (.dup2, 1) := by decide +kernel
theorem dX5_mostAlike_102 : decode cX5_mostAlike 102 = .ok (.iaload, 1) := by decide +kernel
theorem dX5_mostAlike_103 : decode cX5_mostAlike 103 = .ok (.iconst 1, 1) := by decide +kernel
theorem dX5_mostAlike_104 : decode cX5_mostAlike 104 = .ok (.iadd, 1) := by decide +kernel
theorem dX5_mostAlike_105 : decode cX5_mostAlike 105 = .ok (.iastore, 1) := by decide +kernel
theorem dX5_mostAlike_106 : decode cX5_mostAlike 106 = .ok (.iload 9, 2) := by decide +kernel
theorem dX5_mostAlike_108 : decode cX5_mostAlike 108 = .ok (.aload_n 0, 1) := by decide +kernel
theorem dX5_mostAlike_109 : decode cX5_mostAlike 109 = .ok (.getfield 30, 3) := by decide +kernel
theorem dX5_mostAlike_112 : decode cX5_mostAlike 112 = .ok (.iload 11, 2) := by decide +kernel
theorem dX5_mostAlike_114 : decode cX5_mostAlike 114 = .ok (.iaload, 1) := by decide +kernel
theorem dX5_mostAlike_115 : decode cX5_mostAlike 115 = .ok (.invokestatic 99, 3) := by decide +kernel
theorem dX5_mostAlike_118 : decode cX5_mostAlike 118 = .ok (.istore 9, 2) := by decide +kernel
theorem dX5_mostAlike_120 : decode cX5_mostAlike 120 = .ok (.iinc 10 1, 3) := by decide +kernel
theorem dX5_mostAlike_123 : decode cX5_mostAlike 123 = .ok (.goto (-62), 3) := by decide +kernel
theorem dX5_mostAlike_126 : decode cX5_mostAlike 126 = .ok (.iload 9, 2) := by decide +kernel
theorem dX5_mostAlike_128 : decode cX5_mostAlike 128 = .ok (.ireturn, 1) := by decide +kernel
theorem dX6_init_0 : decode cX6_init 0 = .ok (.aload_n 0, 1) := by decide +kernel
theorem dX6_init_1 : decode cX6_init 1 = .ok (.invokespecial 1, 3) := by decide +kernel
theorem dX6_init_4 : decode cX6_init 4 = .ok (.aload_n 0, 1) := by decide +kernel
theorem dX6_init_5 : decode cX6_init 5 = .ok (.new 7, 3) := by decide +kernel
theorem dX6_init_8 : decode cX6_init 8 = .ok (.dup, 1) := by decide +kernel
theorem dX6_init_9 : decode cX6_init 9 = .ok (.invokespecial 9, 3) := by decide +kernel
theorem dX6_init_12 : decode cX6_init 12 = .ok (.putfield 10, 3) := by decide +kernel
theorem dX6_init_15 : decode cX6_init 15 = .ok (.aload_n 0, 1) := by decide +kernel
theorem dX6_init_16 : decode cX6_init 16 = .ok (.iconst 2, 1) := by decide +kernel
theorem dX6_init_17 : decode cX6_init 17 = .ok (.anewarray 7, 3) := by decide +kernel
theorem dX6_init_20 : decode cX6_init 20 = .ok (.putfield 16, 3) := by decide +kernel
theorem dX6_init_23 : decode cX6_init 23 = .ok (.aload_n 0, 1) := by decide +kernel
theorem dX6_init_24 : decode cX6_init 24 = .ok (.iconst 2, 1) := by decide +kernel
theorem dX6_init_25 : decode cX6_init 25 = .ok (.newarray .boolean, 2) := by decide +kernel
theorem dX6_init_27 : decode cX6_init 27 = .ok (.putfield 20, 3) := by decide +kernel
theorem dX6_init_30 : decode cX6_init 30 = .ok (.aload_n 0, 1) := by decide +kernel
theorem dX6_init_31 : decode cX6_init 31 = .ok (.new 24, 3) := by decide +kernel
theorem dX6_init_34 : decode cX6_init 34 = .ok (.dup, 1) := by decide +kernel
theorem dX6_init_35 : decode cX6_init 35 = .ok (.invokespecial 26, 3) := by decide +kernel
theorem dX6_init_38 : decode cX6_init 38 = .ok (.putfield 27, 3) := by decide +kernel
theorem dX6_init_41 : decode cX6_init 41 = .ok (.aload_n 0, 1) := by decide +kernel
theorem dX6_init_42 : decode cX6_init 42 = .ok (.new 31, 3) := by decide +kernel
theorem dX6_init_45 : decode cX6_init 45 = .ok (.dup, 1) := by decide +kernel
theorem dX6_init_46 : decode cX6_init 46 = .ok (.invokespecial 33, 3) := by decide +kernel
theorem dX6_init_49 : decode cX6_init 49 = .ok (.putfield 34, 3) := by decide +kernel
theorem dX6_init_52 : decode cX6_init 52 = .ok (.aload_n 0, 1) := by decide +kernel
theorem dX6_init_53 : decode cX6_init 53 = .ok (.lconst 0, 1) := by decide +kernel
theorem dX6_init_54 : decode cX6_init 54 = .ok (.putfield 38, 3) := by decide +kernel
theorem dX6_init_57 : decode cX6_init 57 = .ok (.aload_n 0, 1) := by decide +kernel
theorem dX6_init_58 : decode cX6_init 58 = .ok (.lconst 1, 1) := by decide +kernel
theorem dX6_init_59 : decode cX6_init 59 = .ok (.putfield 42, 3) := by decide +kernel
theorem dX6_init_62 : decode cX6_init 62 = .ok (.aload_n 0, 1) := by decide +kernel
theorem dX6_init_63 : decode cX6_init 63 = .ok (.iconst 0, 1) := by decide +kernel
theorem dX6_init_64 : decode cX6_init 64 = .ok (.putfield 45, 3) := by decide +kernel
theorem dX6_init_67 : decode cX6_init 67 = .ok (.aload_n 0, 1) := by decide +kernel
theorem dX6_init_68 : decode cX6_init 68 = .ok (.iconst 0, 1) := by decide +kernel
theorem dX6_init_69 : decode cX6_init 69 = .ok (.putfield 49, 3) := by decide +kernel
theorem dX6_init_72 : decode cX6_init 72 = .ok (.aload_n 0, 1) := by decide +kernel
theorem dX6_init_73 : decode cX6_init 73 = .ok (.iconst 0, 1) := by decide +kernel
theorem dX6_init_74 : decode cX6_init 74 = .ok (.putfield 52, 3) := by decide +kernel
theorem dX6_init_77 : decode cX6_init 77 = .ok (.iconst 0, 1) := by decide +kernel
theorem dX6_init_78 : decode cX6_init 78 = .ok (.istore_n 1, 1) := by decide +kernel
theorem dX6_init_79 : decode cX6_init 79 = .ok (.iload_n 1, 1) := by decide +kernel
theorem dX6_init_80 : decode cX6_init 80 = .ok (.iconst 2, 1) := by decide +kernel
theorem dX6_init_81 : decode cX6_init 81 = .ok (.if_icmp .ge 22, 3) := by decide +kernel
theorem dX6_init_84 : decode cX6_init 84 = .ok (.aload_n 0, 1) := by decide +kernel
theorem dX6_init_85 : decode cX6_init 85 = .ok (.getfield 16, 3) := by decide +kernel
theorem dX6_init_88 : decode cX6_init 88 = .ok (.iload_n 1, 1) := by decide +kernel
theorem dX6_init_89 : decode cX6_init 89 = .ok (.new 7, 3) := by decide +kernel
theorem dX6_init_92 : decode cX6_init 92 = .ok (.dup, 1) := by decide +kernel
theorem dX6_init_93 : decode cX6_init 93 = .ok (.invokespecial 9, 3) := by decide +kernel
theorem dX6_init_96 : decode cX6_init 96 = .ok (.aastore, 1) := by decide +kernel
theorem dX6_init_97 : decode cX6_init 97 = .ok (.iinc 1 1, 3) := by decide +kernel
theorem dX6_init_100 : decode cX6_init 100 = .ok (.goto (-21), 3) := by decide +kernel
theorem dX6_init_103 : decode cX6_init 103 = .ok (.return_, 1) := by decide +kernel
theorem dX6_floor_0 : decode cX6_floor 0 = .ok (.aload_n 0, 1) := by decide +kernel
theorem dX6_floor_1 : decode cX6_floor 1 = .ok (.getfield 10, 3) := by decide +kernel
theorem dX6_floor_4 : decode cX6_floor 4 = .ok (.getfield 55, 3) := by decide +kernel
theorem dX6_floor_7 : decode cX6_floor 7 = .ok (.getfield 59, 3) := by decide +kernel
theorem dX6_floor_10 : decode cX6_floor 10 = .ok (.istore_n 1, 1) := by decide +kernel
theorem dX6_floor_11 : decode cX6_floor 11 = .ok (.aload_n 0, 1) := by decide +kernel
theorem dX6_floor_12 : decode cX6_floor 12 = .ok (.getfield 10, 3) := by decide +kernel
theorem dX6_floor_15 : decode cX6_floor 15 = .ok (.invokevirtual 64, 3) := by decide +kernel
theorem dX6_floor_18 : decode cX6_floor 18 = .ok (.iload_n 1, 1) := by decide +kernel
theorem dX6_floor_19 : decode cX6_floor 19 = .ok (.ireturn, 1) := by decide +kernel
theorem dX6_car_0 : decode cX6_car 0 = .ok (.iload_n 1, 1) := by decide +kernel
theorem dX6_car_1 : decode cX6_car 1 = .ok (.bipush 6, 2) := by decide +kernel
theorem dX6_car_3 : decode cX6_car 3 = .ok (.invokestatic 67, 3) := by decide +kernel
theorem dX6_car_6 : decode cX6_car 6 = .ok (.ifCond .eq 20, 3) := by decide +kernel
theorem dX6_car_9 : decode cX6_car 9 = .ok (.iload_n 2, 1) := by decide +kernel
theorem dX6_car_10 : decode cX6_car 10 = .ok (.bipush 24, 2) := by decide +kernel
theorem dX6_car_12 : decode cX6_car 12 = .ok (.invokestatic 67, 3) := by decide +kernel
theorem dX6_car_15 : decode cX6_car 15 = .ok (.ifCond .eq 11, 3) := by decide +kernel
theorem dX6_car_18 : decode cX6_car 18 = .ok (.iload_n 3, 1) := by decide +kernel
theorem dX6_car_19 : decode cX6_car 19 = .ok (.iconst 4, 1) := by decide +kernel
theorem dX6_car_20 : decode cX6_car 20 = .ok (.invokestatic 67, 3) := by decide +kernel
theorem dX6_car_23 : decode cX6_car 23 = .ok (.ifCond .ne 10, 3) := by decide +kernel
theorem dX6_car_26 : decode cX6_car 26 = .ok (.aload_n 0, 1) := by decide +kernel
theorem dX6_car_27 : decode cX6_car 27 = .ok (.bipush (-2), 2) := by decide +kernel
theorem dX6_car_29 : decode cX6_car 29 = .ok (.invokevirtual 71, 3) := by decide +kernel
theorem dX6_car_32 : decode cX6_car 32 = .ok (.ireturn, 1) := by decide +kernel
theorem dX6_car_33 : decode cX6_car 33 = .ok (.aload_n 0, 1) := by decide +kernel
theorem dX6_car_34 : decode cX6_car 34 = .ok (.getfield 10, 3) := by decide +kernel
theorem dX6_car_37 : decode cX6_car 37 = .ok (.getfield 55, 3) := by decide +kernel
theorem dX6_car_40 : decode cX6_car 40 = .ok (.iload_n 2, 1) := by decide +kernel
theorem dX6_car_41 : decode cX6_car 41 = .ok (.invokevirtual 75, 3) := by decide +kernel
theorem dX6_car_44 : decode cX6_car 44 = .ok (.iconst (-1), 1) := by decide +kernel
theorem dX6_car_45 : decode cX6_car 45 = .ok (.if_icmp .eq 8, 3) := by decide +kernel
theorem dX6_car_48 : decode cX6_car 48 = .ok (.aload_n 0, 1) := by decide +kernel
theorem dX6_car_49 : decode cX6_car 49 = .ok (.invokevirtual 78, 3) := by decide +kernel
theorem dX6_car_52 : decode cX6_car 52 = .ok (.ireturn, 1) := by decide +kernel
theorem dX6_car_53 : decode cX6_car 53 = .ok (.aload_n 0, 1) := by decide +kernel
theorem dX6_car_54 : decode cX6_car 54 = .ok (.getfield 10, 3) := by decide +kernel
theorem dX6_car_57 : decode cX6_car 57 = .ok (.getfield 55, 3) := by decide +kernel
theorem dX6_car_60 : decode cX6_car 60 = .ok (.getfield 59, 3) := by decide +kernel
theorem dX6_car_63 : decode cX6_car 63 = .ok (.iconst 5, 1) := by decide +kernel
theorem dX6_car_64 : decode cX6_car 64 = .ok (.if_icmp .lt 8, 3) := by decide +kernel
theorem dX6_car_67 : decode cX6_car 67 = .ok (.aload_n 0, 1) := by decide +kernel
theorem dX6_car_68 : decode cX6_car 68 = .ok (.invokevirtual 82, 3) := by decide +kernel
theorem dX6_car_71 : decode cX6_car 71 = .ok (.ireturn, 1) := by decide +kernel
theorem dX6_car_72 : decode cX6_car 72 = .ok (.aload_n 0, 1) := by decide +kernel
theorem dX6_car_73 : decode cX6_car 73 = .ok (.getfield 10, 3) := by decide +kernel
theorem dX6_car_76 : decode cX6_car 76 = .ok (.iconst 0, 1) := by decide +kernel
theorem dX6_car_77 : decode cX6_car 77 = .ok (.putfield 85, 3) := by decide +kernel
theorem dX6_car_80 : decode cX6_car 80 = .ok (.aload_n 0, 1) := by decide +kernel
theorem dX6_car_81 : decode cX6_car 81 = .ok (.getfield 10, 3) := by decide +kernel
theorem dX6_car_84 : decode cX6_car 84 = .ok (.getfield 55, 3) := by decide +kernel
theorem dX6_car_87 : decode cX6_car 87 = .ok (.iload_n 1, 1) := by decide +kernel
theorem dX6_car_88 : decode cX6_car 88 = .ok (.iload_n 2, 1) := by decide +kernel
theorem dX6_car_89 : decode cX6_car 89 = .ok (.iload_n 3, 1) := by decide +kernel
theorem dX6_car_90 : decode cX6_car 90 = .ok (.invokevirtual 88, 3) := by decide +kernel
theorem dX6_car_93 : decode cX6_car 93 = .ok (.ireturn, 1) := by decide +kernel
theorem dX6_type_0 : decode cX6_type 0 = .ok (.iload_n 1, 1) := by decide +kernel
theorem dX6_type_1 : decode cX6_type 1 = .ok (.ifCond .lt 9, 3) := by decide +kernel
theorem dX6_type_4 : decode cX6_type 4 = .ok (.iload_n 1, 1) := by decide +kernel
theorem dX6_type_5 : decode cX6_type 5 = .ok (.bipush 127, 2) := by decide +kernel
theorem dX6_type_7 : decode cX6_type 7 = .ok (.if_icmp .le 10, 3) := by decide +kernel
theorem dX6_type_10 : decode cX6_type 10 = .ok (.aload_n 0, 1) := by decide +kernel
theorem dX6_type_11 : decode cX6_type 11 = .ok (.bipush (-2), 2) := by decide +kernel
theorem dX6_type_13 : decode cX6_type 13 = .ok (.invokevirtual 71, 3) := by decide +kernel
theorem dX6_type_16 : decode cX6_type 16 = .ok (.ireturn, 1) := by decide +kernel
theorem dX6_type_17 : decode cX6_type 17 = .ok (.aload_n 0, 1) := by decide +kernel
theorem dX6_type_18 : decode cX6_type 18 = .ok (.getfield 27, 3) := by decide +kernel
theorem dX6_type_21 : decode cX6_type 21 = .ok (.iload_n 1, 1) := by decide +kernel
theorem dX6_type_22 : decode cX6_type 22 = .ok (.invokevirtual 92, 3) := by decide +kernel
theorem dX6_type_25 : decode cX6_type 25 = .ok (.ifCond .ne 8, 3) := by decide +kernel
theorem dX6_type_28 : decode cX6_type 28 = .ok (.aload_n 0, 1) := by decide +kernel
theorem dX6_type_29 : decode cX6_type 29 = .ok (.invokevirtual 82, 3) := by decide +kernel
theorem dX6_type_32 : decode cX6_type 32 = .ok (.ireturn, 1) := by decide +kernel
theorem dX6_type_33 : decode cX6_type 33 = .ok (.aload_n 0, 1) := by decide +kernel
theorem dX6_type_34 : decode cX6_type 34 = .ok (.getfield 27, 3) := by decide +kernel
theorem dX6_type_37 : decode cX6_type 37 = .ok (.getfield 96, 3) := by decide +kernel
theorem dX6_type_40 : decode cX6_type 40 = .ok (.ireturn, 1) := by decide +kernel
theorem dX6_clear_0 : decode cX6_clear 0 = .ok (.aload_n 0, 1) := by decide +kernel
theorem dX6_clear_1 : decode cX6_clear 1 = .ok (.getfield 27, 3) := by decide +kernel
theorem dX6_clear_4 : decode cX6_clear 4 = .ok (.getfield 96, 3) := by decide +kernel
theorem dX6_clear_7 : decode cX6_clear 7 = .ok (.istore_n 1, 1) := by decide +kernel
theorem dX6_clear_8 : decode cX6_clear 8 = .ok (.aload_n 0, 1) := by decide +kernel
theorem dX6_clear_9 : decode cX6_clear 9 = .ok (.getfield 27, 3) := by decide +kernel
theorem dX6_clear_12 : decode cX6_clear 12 = .ok (.iconst 0, 1) := by decide +kernel
theorem dX6_clear_13 : decode cX6_clear 13 = .ok (.putfield 96, 3) := by decide +kernel
theorem dX6_clear_16 : decode cX6_clear 16 = .ok (.iload_n 1, 1) := by decide +kernel
theorem dX6_clear_17 : decode cX6_clear 17 = .ok (.ireturn, 1) := by decide +kernel
theorem dX6_read_0 : decode cX6_read 0 = .ok (.aload_n 0, 1) := by decide +kernel
theorem dX6_read_1 : decode cX6_read 1 = .ok (.getfield 27, 3) := by decide +kernel
theorem dX6_read_4 : decode cX6_read 4 = .ok (.invokevirtual 99, 3) := by decide +kernel
theorem dX6_read_7 : decode cX6_read 7 = .ok (.istore_n 1, 1) := by decide +kernel
theorem dX6_read_8 : decode cX6_read 8 = .ok (.iload_n 1, 1) := by decide +kernel
theorem dX6_read_9 : decode cX6_read 9 = .ok (.iconst (-1), 1) := by decide +kernel
theorem dX6_read_10 : decode cX6_read 10 = .ok (.if_icmp .eq 8, 3) := by decide +kernel
theorem dX6_read_13 : decode cX6_read 13 = .ok (.bipush (-10), 2) := by decide +kernel
theorem dX6_read_15 : decode cX6_read 15 = .ok (.iload_n 1, 1) := by decide +kernel
theorem dX6_read_16 : decode cX6_read 16 = .ok (.isub, 1) := by decide +kernel
theorem dX6_read_17 : decode cX6_read 17 = .ok (.ireturn, 1) := by decide +kernel
theorem dX6_read_18 : decode cX6_read 18 = .ok (.aload_n 0, 1) := by decide +kernel
theorem dX6_read_19 : decode cX6_read 19 = .ok (.getfield 10, 3) := by decide +kernel
theorem dX6_read_22 : decode cX6_read 22 = .ok (.invokevirtual 64, 3) := by decide +kernel
theorem dX6_read_25 : decode cX6_read 25 = .ok (.aload_n 0, 1) := by decide +kernel
theorem dX6_read_26 : decode cX6_read 26 = .ok (.getfield 10, 3) := by decide +kernel
theorem dX6_read_29 : decode cX6_read 29 = .ok (.getfield 55, 3) := by decide +kernel
theorem dX6_read_32 : decode cX6_read 32 = .ok (.aload_n 0, 1) := by decide +kernel
theorem dX6_read_33 : decode cX6_read 33 = .ok (.getfield 27, 3) := by decide +kernel
theorem dX6_read_36 : decode cX6_read 36 = .ok (.getfield 102, 3) := by decide +kernel
theorem dX6_read_39 : decode cX6_read 39 = .ok (.invokevirtual 105, 3) := by decide +kernel
theorem dX6_read_42 : decode cX6_read 42 = .ok (.aload_n 0, 1) := by decide +kernel
theorem dX6_read_43 : decode cX6_read 43 = .ok (.getfield 27, 3) := by decide +kernel
theorem dX6_read_46 : decode cX6_read 46 = .ok (.getfield 109, 3) := by decide +kernel
theorem dX6_read_49 : decode cX6_read 49 = .ok (.ireturn, 1) := by decide +kernel
theorem dX6_tick_0 : decode cX6_tick 0 = .ok (.iload_n 1, 1) := by decide +kernel
theorem dX6_tick_1 : decode cX6_tick 1 = .ok (.iconst 1, 1) := by decide +kernel
theorem dX6_tick_2 : decode cX6_tick 2 = .ok (.if_icmp .lt 9, 3) := by decide +kernel
theorem dX6_tick_5 : decode cX6_tick 5 = .ok (.iload_n 1, 1) := by decide +kernel
theorem dX6_tick_6 : decode cX6_tick 6 = .ok (.bipush 60, 2) := by decide +kernel
theorem dX6_tick_8 : decode cX6_tick 8 = .ok (.if_icmp .le 10, 3) := by decide +kernel
theorem dX6_tick_11 : decode cX6_tick 11 = .ok (.aload_n 0, 1) := by decide +kernel
theorem dX6_tick_12 : decode cX6_tick 12 = .ok (.bipush (-2), 2) := by decide +kernel
theorem dX6_tick_14 : decode cX6_tick 14 = .ok (.invokevirtual 71, 3) := by decide +kernel
theorem dX6_tick_17 : decode cX6_tick 17 = .ok (.ireturn, 1) := by decide +kernel
theorem dX6_tick_18 : decode cX6_tick 18 = .ok (.aload_n 0, 1) := by decide +kernel
theorem dX6_tick_19 : decode cX6_tick 19 = .ok (.getfield 10, 3) := by decide +kernel
theorem dX6_tick_22 : decode cX6_tick 22 = .ok (.invokevirtual 112, 3) := by decide +kernel
theorem dX6_tick_25 : decode cX6_tick 25 = .ok (.aload_n 0, 1) := by decide +kernel
theorem dX6_tick_26 : decode cX6_tick 26 = .ok (.getfield 10, 3) := by decide +kernel
theorem dX6_tick_29 : decode cX6_tick 29 = .ok (.getfield 55, 3) := by decide +kernel
theorem dX6_tick_32 : decode cX6_tick 32 = .ok (.iload_n 1, 1) := by decide +kernel
theorem dX6_tick_33 : decode cX6_tick 33 = .ok (.invokevirtual 115, 3) := by decide +kernel
theorem dX6_tick_36 : decode cX6_tick 36 = .ok (.ireturn, 1) := by decide +kernel
theorem dX6_hat_0 : decode cX6_hat 0 = .ok (.iload_n 1, 1) := by decide +kernel
theorem dX6_hat_1 : decode cX6_hat 1 = .ok (.iconst (-1), 1) := by decide +kernel
theorem dX6_hat_2 : decode cX6_hat 2 = .ok (.if_icmp .eq 24, 3) := by decide +kernel
theorem dX6_hat_5 : decode cX6_hat 5 = .ok (.aload_n 0, 1) := by decide +kernel
theorem dX6_hat_6 : decode cX6_hat 6 = .ok (.getfield 10, 3) := by decide +kernel
theorem dX6_hat_9 : decode cX6_hat 9 = .ok (.getfield 55, 3) := by decide +kernel
theorem dX6_hat_12 : decode cX6_hat 12 = .ok (.iload_n 1, 1) := by decide +kernel
theorem dX6_hat_13 : decode cX6_hat 13 = .ok (.invokevirtual 118, 3) := by decide +kernel
theorem dX6_hat_16 : decode cX6_hat 16 = .ok (.ifCond .ne 10, 3) := by decide +kernel
theorem dX6_hat_19 : decode cX6_hat 19 = .ok (.aload_n 0, 1) := by decide +kernel
theorem dX6_hat_20 : decode cX6_hat 20 = .ok (.bipush (-10), 2) := by decide +kernel
theorem dX6_hat_22 : decode cX6_hat 22 = .ok (.invokevirtual 71, 3) := by decide +kernel
theorem dX6_hat_25 : decode cX6_hat 25 = .ok (.ireturn, 1) := by decide +kernel
theorem dX6_hat_26 : decode cX6_hat 26 = .ok (.aload_n 0, 1) := by decide +kernel
theorem dX6_hat_27 : decode cX6_hat 27 = .ok (.getfield 10, 3) := by decide +kernel
theorem dX6_hat_30 : decode cX6_hat 30 = .ok (.getfield 55, 3) := by decide +kernel
theorem dX6_hat_33 : decode cX6_hat 33 = .ok (.getfield 121, 3) := by decide +kernel
theorem dX6_hat_36 : decode cX6_hat 36 = .ok (.istore_n 2, 1) := by decide +kernel
theorem dX6_hat_37 : decode cX6_hat 37 = .ok (.aload_n 0, 1) := by decide +kernel
theorem dX6_hat_38 : decode cX6_hat 38 = .ok (.getfield 10, 3) := by decide +kernel
theorem dX6_hat_41 : decode cX6_hat 41 = .ok (.invokevirtual 112, 3) := by decide +kernel
theorem dX6_hat_44 : decode cX6_hat 44 = .ok (.aload_n 0, 1) := by decide +kernel
theorem dX6_hat_45 : decode cX6_hat 45 = .ok (.getfield 10, 3) := by decide +kernel
theorem dX6_hat_48 : decode cX6_hat 48 = .ok (.getfield 55, 3) := by decide +kernel
theorem dX6_hat_51 : decode cX6_hat 51 = .ok (.iload_n 1, 1) := by decide +kernel
theorem dX6_hat_52 : decode cX6_hat 52 = .ok (.putfield 121, 3) := by decide +kernel
theorem dX6_hat_55 : decode cX6_hat 55 = .ok (.iload_n 2, 1) := by decide +kernel
theorem dX6_hat_56 : decode cX6_hat 56 = .ok (.ireturn, 1) := by decide +kernel
theorem dX6_push_0 : decode cX6_push 0 = .ok (.aload_n 0, 1) := by decide +kernel
theorem dX6_push_1 : decode cX6_push 1 = .ok (.getfield 10, 3) := by decide +kernel
theorem dX6_push_4 : decode cX6_push 4 = .ok (.getfield 55, 3) := by decide +kernel
theorem dX6_push_7 : decode cX6_push 7 = .ok (.iload_n 1, 1) := by decide +kernel
theorem dX6_push_8 : decode cX6_push 8 = .ok (.invokevirtual 118, 3) := by decide +kernel
theorem dX6_push_11 : decode cX6_push 11 = .ok (.ifCond .eq 20, 3) := by decide +kernel
theorem dX6_push_14 : decode cX6_push 14 = .ok (.iload_n 2, 1) := by decide +kernel
theorem dX6_push_15 : decode cX6_push 15 = .ok (.bipush 24, 2) := by decide +kernel
theorem dX6_push_17 : decode cX6_push 17 = .ok (.invokestatic 67, 3) := by decide +kernel
theorem dX6_push_20 : decode cX6_push 20 = .ok (.ifCond .eq 11, 3) := by decide +kernel
theorem dX6_push_23 : decode cX6_push 23 = .ok (.iload_n 3, 1) := by decide +kernel
theorem dX6_push_24 : decode cX6_push 24 = .ok (.iconst 4, 1) := by decide +kernel
theorem dX6_push_25 : decode cX6_push 25 = .ok (.invokestatic 67, 3) := by decide +kernel
theorem dX6_push_28 : decode cX6_push 28 = .ok (.ifCond .ne 10, 3) := by decide +kernel
theorem dX6_push_31 : decode cX6_push 31 = .ok (.aload_n 0, 1) := by decide +kernel
theorem dX6_push_32 : decode cX6_push 32 = .ok (.bipush (-2), 2) := by decide +kernel
theorem dX6_push_34 : decode cX6_push 34 = .ok (.invokevirtual 71, 3) := by decide +kernel
theorem dX6_push_37 : decode cX6_push 37 = .ok (.ireturn, 1) := by decide +kernel
theorem dX6_push_38 : decode cX6_push 38 = .ok (.aload_n 0, 1) := by decide +kernel
theorem dX6_push_39 : decode cX6_push 39 = .ok (.getfield 10, 3) := by decide +kernel
theorem dX6_push_42 : decode cX6_push 42 = .ok (.getfield 55, 3) := by decide +kernel
theorem dX6_push_45 : decode cX6_push 45 = .ok (.iload_n 2, 1) := by decide +kernel
theorem dX6_push_46 : decode cX6_push 46 = .ok (.invokevirtual 75, 3) := by decide +kernel
theorem dX6_push_49 : decode cX6_push 49 = .ok (.istore 4, 2) := by decide +kernel
theorem dX6_push_51 : decode cX6_push 51 = .ok (.iload 4, 2) := by decide +kernel
theorem dX6_push_53 : decode cX6_push 53 = .ok (.iconst (-1), 1) := by decide +kernel
theorem dX6_push_54 : decode cX6_push 54 = .ok (.if_icmp .eq 14, 3) := by decide +kernel
theorem dX6_push_57 : decode cX6_push 57 = .ok (.iload 4, 2) := by decide +kernel
theorem dX6_push_59 : decode cX6_push 59 = .ok (.iload_n 1, 1) := by decide +kernel
theorem dX6_push_60 : decode cX6_push 60 = .ok (.if_icmp .eq 8, 3) := by decide +kernel
theorem dX6_push_63 : decode cX6_push 63 = .ok (.aload_n 0, 1) := by decide +kernel
theorem dX6_push_64 : decode cX6_push 64 = .ok (.invokevirtual 78, 3) := by decide +kernel
theorem dX6_push_67 : decode cX6_push 67 = .ok (.ireturn, 1) := by decide +kernel
theorem dX6_push_68 : decode cX6_push 68 = .ok (.aload_n 0, 1) := by decide +kernel
theorem dX6_push_69 : decode cX6_push 69 = .ok (.getfield 10, 3) := by decide +kernel
theorem dX6_push_72 : decode cX6_push 72 = .ok (.getfield 55, 3) := by decide +kernel
theorem dX6_push_75 : decode cX6_push 75 = .ok (.getfield 124, 3) := by decide +kernel
theorem dX6_push_78 : decode cX6_push 78 = .ok (.iload_n 1, 1) := by decide +kernel
theorem dX6_push_79 : decode cX6_push 79 = .ok (.iaload, 1) := by decide +kernel
theorem dX6_push_80 : decode cX6_push 80 = .ok (.istore 5, 2) := by decide +kernel
theorem dX6_push_82 : decode cX6_push 82 = .ok (.aload_n 0, 1) := by decide +kernel
theorem dX6_push_83 : decode cX6_push 83 = .ok (.getfield 10, 3) := by decide +kernel
theorem dX6_push_86 : decode cX6_push 86 = .ok (.invokevirtual 112, 3) := by decide +kernel
theorem dX6_push_89 : decode cX6_push 89 = .ok (.aload_n 0, 1) := by decide +kernel
theorem dX6_push_90 : decode cX6_push 90 = .ok (.getfield 10, 3) := by decide +kernel
theorem dX6_push_93 : decode cX6_push 93 = .ok (.getfield 55, 3) := by decide +kernel
theorem dX6_push_96 : decode cX6_push 96 = .ok (.getfield 124, 3) := by decide +kernel
theorem dX6_push_99 : decode cX6_push 99 = .ok (.iload_n 1, 1) := by decide +kernel
theorem dX6_push_100 : decode cX6_push 100 = .ok (.iload_n 2, 1) := by decide +kernel
theorem dX6_push_101 : decode cX6_push 101 = .ok (.iastore, 1) := by decide +kernel
theorem dX6_push_102 : decode cX6_push 102 = .ok (.aload_n 0, 1) := by decide +kernel
theorem dX6_push_103 : decode cX6_push 103 = .ok (.getfield 10, 3) := by decide +kernel
theorem dX6_push_106 : decode cX6_push 106 = .ok (.getfield 55, 3) := by decide +kernel
theorem dX6_push_109 : decode cX6_push 109 = .ok (.getfield 128, 3) := by decide +kernel
theorem dX6_push_112 : decode cX6_push 112 = .ok (.iload_n 1, 1) := by decide +kernel
theorem dX6_push_113 : decode cX6_push 113 = .ok (.iload_n 3, 1) := by decide +kernel
theorem dX6_push_114 : decode cX6_push 114 = .ok (.iastore, 1) := by decide +kernel
theorem dX6_push_115 : decode cX6_push 115 = .ok (.iload 5, 2) := by decide +kernel
theorem dX6_push_117 : decode cX6_push 117 = .ok (.ireturn, 1) := by decide +kernel
theorem dX6_undo_0 : decode cX6_undo 0 = .ok (.aload_n 0, 1) := by decide +kernel
theorem dX6_undo_1 : decode cX6_undo 1 = .ok (.getfield 10, 3) := by decide +kernel
theorem dX6_undo_4 : decode cX6_undo 4 = .ok (.invokevirtual 131, 3) := by decide +kernel
theorem dX6_undo_7 : decode cX6_undo 7 = .ok (.ifCond .ne 8, 3) := by decide +kernel
theorem dX6_undo_10 : decode cX6_undo 10 = .ok (.aload_n 0, 1) := by decide +kernel
theorem dX6_undo_11 : decode cX6_undo 11 = .ok (.invokevirtual 78, 3) := by decide +kernel
theorem dX6_undo_14 : decode cX6_undo 14 = .ok (.ireturn, 1) := by decide +kernel
theorem dX6_undo_15 : decode cX6_undo 15 = .ok (.aload_n 0, 1) := by decide +kernel
theorem dX6_undo_16 : decode cX6_undo 16 = .ok (.getfield 10, 3) := by decide +kernel
theorem dX6_undo_19 : decode cX6_undo 19 = .ok (.getfield 55, 3) := by decide +kernel
theorem dX6_undo_22 : decode cX6_undo 22 = .ok (.getfield 135, 3) := by decide +kernel
theorem dX6_undo_25 : decode cX6_undo 25 = .ok (.ireturn, 1) := by decide +kernel
theorem dX6_of_0 : decode cX6_of 0 = .ok (.aload_n 0, 1) := by decide +kernel
theorem dX6_of_1 : decode cX6_of 1 = .ok (.getfield 10, 3) := by decide +kernel
theorem dX6_of_4 : decode cX6_of 4 = .ok (.getfield 55, 3) := by decide +kernel
theorem dX6_of_7 : decode cX6_of 7 = .ok (.iload_n 1, 1) := by decide +kernel
theorem dX6_of_8 : decode cX6_of 8 = .ok (.invokevirtual 118, 3) := by decide +kernel
theorem dX6_of_11 : decode cX6_of 11 = .ok (.ifCond .eq 12, 3) := by decide +kernel
theorem dX6_of_14 : decode cX6_of 14 = .ok (.iload_n 2, 1) := by decide +kernel
theorem dX6_of_15 : decode cX6_of 15 = .ok (.bipush 7, 2) := by decide +kernel
theorem dX6_of_17 : decode cX6_of 17 = .ok (.invokestatic 67, 3) := by decide +kernel
theorem dX6_of_20 : decode cX6_of 20 = .ok (.ifCond .ne 10, 3) := by decide +kernel
theorem dX6_of_23 : decode cX6_of 23 = .ok (.aload_n 0, 1) := by decide +kernel
theorem dX6_of_24 : decode cX6_of 24 = .ok (.bipush (-10), 2) := by decide +kernel
theorem dX6_of_26 : decode cX6_of 26 = .ok (.invokevirtual 71, 3) := by decide +kernel
theorem dX6_of_29 : decode cX6_of 29 = .ok (.ireturn, 1) := by decide +kernel
theorem dX6_of_30 : decode cX6_of 30 = .ok (.aload_n 0, 1) := by decide +kernel
theorem dX6_of_31 : decode cX6_of 31 = .ok (.getfield 10, 3) := by decide +kernel
theorem dX6_of_34 : decode cX6_of 34 = .ok (.getfield 55, 3) := by decide +kernel
theorem dX6_of_37 : decode cX6_of 37 = .ok (.iload_n 1, 1) := by decide +kernel
theorem dX6_of_38 : decode cX6_of 38 = .ok (.iload_n 2, 1) := by decide +kernel
theorem dX6_of_39 : decode cX6_of 39 = .ok (.invokevirtual 138, 3) := by decide +kernel
theorem dX6_of_42 : decode cX6_of 42 = .ok (.ireturn, 1) := by decide +kernel
theorem dX6_at_0 : decode cX6_at 0 = .ok (.iload_n 1, 1) := by decide +kernel
theorem dX6_at_1 : decode cX6_at 1 = .ok (.bipush 24, 2) := by decide +kernel
theorem dX6_at_3 : decode cX6_at 3 = .ok (.invokestatic 67, 3) := by decide +kernel
theorem dX6_at_6 : decode cX6_at 6 = .ok (.ifCond .ne 10, 3) := by decide +kernel
theorem dX6_at_9 : decode cX6_at 9 = .ok (.aload_n 0, 1) := by decide +kernel
theorem dX6_at_10 : decode cX6_at 10 = .ok (.bipush (-10), 2) := by decide +kernel
theorem dX6_at_12 : decode cX6_at 12 = .ok (.invokevirtual 71, 3) := by decide +kernel
theorem dX6_at_15 : decode cX6_at 15 = .ok (.ireturn, 1) := by decide +kernel
theorem dX6_at_16 : decode cX6_at 16 = .ok (.aload_n 0, 1) := by decide +kernel
theorem dX6_at_17 : decode cX6_at 17 = .ok (.getfield 10, 3) := by decide +kernel
theorem dX6_at_20 : decode cX6_at 20 = .ok (.getfield 55, 3) := by decide +kernel
theorem dX6_at_23 : decode cX6_at 23 = .ok (.iload_n 1, 1) := by decide +kernel
theorem dX6_at_24 : decode cX6_at 24 = .ok (.invokevirtual 75, 3) := by decide +kernel
theorem dX6_at_27 : decode cX6_at 27 = .ok (.ireturn, 1) := by decide +kernel
theorem dX6_way_0 : decode cX6_way 0 = .ok (.aload_n 0, 1) := by decide +kernel
theorem dX6_way_1 : decode cX6_way 1 = .ok (.getfield 10, 3) := by decide +kernel
theorem dX6_way_4 : decode cX6_way 4 = .ok (.getfield 55, 3) := by decide +kernel
theorem dX6_way_7 : decode cX6_way 7 = .ok (.iload_n 1, 1) := by decide +kernel
theorem dX6_way_8 : decode cX6_way 8 = .ok (.invokevirtual 118, 3) := by decide +kernel
theorem dX6_way_11 : decode cX6_way 11 = .ok (.ifCond .ne 10, 3) := by decide +kernel
theorem dX6_way_14 : decode cX6_way 14 = .ok (.aload_n 0, 1) := by decide +kernel
theorem dX6_way_15 : decode cX6_way 15 = .ok (.bipush (-2), 2) := by decide +kernel
theorem dX6_way_17 : decode cX6_way 17 = .ok (.invokevirtual 71, 3) := by decide +kernel
theorem dX6_way_20 : decode cX6_way 20 = .ok (.ireturn, 1) := by decide +kernel
theorem dX6_way_21 : decode cX6_way 21 = .ok (.aload_n 0, 1) := by decide +kernel
theorem dX6_way_22 : decode cX6_way 22 = .ok (.getfield 10, 3) := by decide +kernel
theorem dX6_way_25 : decode cX6_way 25 = .ok (.getfield 55, 3) := by decide +kernel
theorem dX6_way_28 : decode cX6_way 28 = .ok (.iload_n 1, 1) := by decide +kernel
theorem dX6_way_29 : decode cX6_way 29 = .ok (.invokevirtual 142, 3) := by decide +kernel
theorem dX6_way_32 : decode cX6_way 32 = .ok (.ireturn, 1) := by decide +kernel
