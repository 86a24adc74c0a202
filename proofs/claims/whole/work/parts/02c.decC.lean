theorem dX10_init_0 : decode cX10_init 0 = .ok (.aload_n 0, 1) := by decide +kernel
theorem dX10_init_1 : decode cX10_init 1 = .ok (.invokespecial 3, 3) := by decide +kernel
theorem dX10_init_4 : decode cX10_init 4 = .ok (.aload_n 0, 1) := by decide +kernel
theorem dX10_init_5 : decode cX10_init 5 = .ok (.bipush 7, 2) := by decide +kernel
theorem dX10_init_7 : decode cX10_init 7 = .ok (.anewarray 9, 3) := by decide +kernel
theorem dX10_init_10 : decode cX10_init 10 = .ok (.putfield 11, 3) := by decide +kernel
theorem dX10_init_13 : decode cX10_init 13 = .ok (.aload_n 0, 1) := by decide +kernel
theorem dX10_init_14 : decode cX10_init 14 = .ok (.bipush 12, 2) := by decide +kernel
theorem dX10_init_16 : decode cX10_init 16 = .ok (.newarray .int, 2) := by decide +kernel
theorem dX10_init_18 : decode cX10_init 18 = .ok (.putfield 17, 3) := by decide +kernel
theorem dX10_init_21 : decode cX10_init 21 = .ok (.aload_n 0, 1) := by decide +kernel
theorem dX10_init_22 : decode cX10_init 22 = .ok (.bipush 9, 2) := by decide +kernel
theorem dX10_init_24 : decode cX10_init 24 = .ok (.newarray .int, 2) := by decide +kernel
theorem dX10_init_26 : decode cX10_init 26 = .ok (.putfield 23, 3) := by decide +kernel
theorem dX10_init_29 : decode cX10_init 29 = .ok (.aload_n 0, 1) := by decide +kernel
theorem dX10_init_30 : decode cX10_init 30 = .ok (.bipush 24, 2) := by decide +kernel
theorem dX10_init_32 : decode cX10_init 32 = .ok (.newarray .int, 2) := by decide +kernel
theorem dX10_init_34 : decode cX10_init 34 = .ok (.putfield 26, 3) := by decide +kernel
theorem dX10_init_37 : decode cX10_init 37 = .ok (.iconst 0, 1) := by decide +kernel
theorem dX10_init_38 : decode cX10_init 38 = .ok (.istore_n 1, 1) := by decide +kernel
theorem dX10_init_39 : decode cX10_init 39 = .ok (.iload_n 1, 1) := by decide +kernel
theorem dX10_init_40 : decode cX10_init 40 = .ok (.bipush 7, 2) := by decide +kernel
theorem dX10_init_42 : decode cX10_init 42 = .ok (.if_icmp .ge 22, 3) := by decide +kernel
theorem dX10_init_45 : decode cX10_init 45 = .ok (.aload_n 0, 1) := by decide +kernel
theorem dX10_init_46 : decode cX10_init 46 = .ok (.getfield 11, 3) := by decide +kernel
theorem dX10_init_49 : decode cX10_init 49 = .ok (.iload_n 1, 1) := by decide +kernel
theorem dX10_init_50 : decode cX10_init 50 = .ok (.new 9, 3) := by decide +kernel
theorem dX10_init_53 : decode cX10_init 53 = .ok (.dup, 1) := by decide +kernel
theorem dX10_init_54 : decode cX10_init 54 = .ok (.invokespecial 29, 3) := by decide +kernel
theorem dX10_init_57 : decode cX10_init 57 = .ok (.aastore, 1) := by decide +kernel
theorem dX10_init_58 : decode cX10_init 58 = .ok (.iinc 1 1, 3) := by decide +kernel
theorem dX10_init_61 : decode cX10_init 61 = .ok (.goto (-22), 3) := by decide +kernel
theorem dX10_init_64 : decode cX10_init 64 = .ok (.return_, 1) := by decide +kernel
theorem dX10_begin_0 : decode cX10_begin 0 = .ok (.aload_n 0, 1) := by decide +kernel
theorem dX10_begin_1 : decode cX10_begin 1 = .ok (.aload_n 1, 1) := by decide +kernel
theorem dX10_begin_2 : decode cX10_begin 2 = .ok (.putfield 30, 3) := by decide +kernel
theorem dX10_begin_5 : decode cX10_begin 5 = .ok (.aload_n 0, 1) := by decide +kernel
theorem dX10_begin_6 : decode cX10_begin 6 = .ok (.ldc2_w 34, 3) := by decide +kernel
theorem dX10_begin_9 : decode cX10_begin 9 = .ok (.putfield 36, 3) := by decide +kernel
theorem dX10_begin_12 : decode cX10_begin 12 = .ok (.iconst 0, 1) := by decide +kernel
theorem dX10_begin_13 : decode cX10_begin 13 = .ok (.istore_n 2, 1) := by decide +kernel
theorem dX10_begin_14 : decode cX10_begin 14 = .ok (.iload_n 2, 1) := by decide +kernel
theorem dX10_begin_15 : decode cX10_begin 15 = .ok (.bipush 7, 2) := by decide +kernel
theorem dX10_begin_17 : decode cX10_begin 17 = .ok (.if_icmp .ge 19, 3) := by decide +kernel
theorem dX10_begin_20 : decode cX10_begin 20 = .ok (.aload_n 0, 1) := by decide +kernel
theorem dX10_begin_21 : decode cX10_begin 21 = .ok (.getfield 11, 3) := by decide +kernel
theorem dX10_begin_24 : decode cX10_begin 24 = .ok (.iload_n 2, 1) := by decide +kernel
theorem dX10_begin_25 : decode cX10_begin 25 = .ok (.aaload, 1) := by decide +kernel
theorem dX10_begin_26 : decode cX10_begin 26 = .ok (.iconst 0, 1) := by decide +kernel
theorem dX10_begin_27 : decode cX10_begin 27 = .ok (.putfield 40, 3) := by decide +kernel
theorem dX10_begin_30 : decode cX10_begin 30 = .ok (.iinc 2 1, 3) := by decide +kernel
theorem dX10_begin_33 : decode cX10_begin 33 = .ok (.goto (-19), 3) := by decide +kernel
theorem dX10_begin_36 : decode cX10_begin 36 = .ok (.return_, 1) := by decide +kernel
theorem dX10_enter_0 : decode cX10_enter 0 = .ok (.aload_n 0, 1) := by decide +kernel
theorem dX10_enter_1 : decode cX10_enter 1 = .ok (.aload_n 1, 1) := by decide +kernel
theorem dX10_enter_2 : decode cX10_enter 2 = .ok (.getfield 44, 3) := by decide +kernel
theorem dX10_enter_5 : decode cX10_enter 5 = .ok (.putfield 49, 3) := by decide +kernel
theorem dX10_enter_8 : decode cX10_enter 8 = .ok (.aload_n 0, 1) := by decide +kernel
theorem dX10_enter_9 : decode cX10_enter 9 = .ok (.invokevirtual 50, 3) := by decide +kernel
theorem dX10_enter_12 : decode cX10_enter 12 = .ok (.aload_n 0, 1) := by decide +kernel
theorem dX10_enter_13 : decode cX10_enter 13 = .ok (.aload_n 0, 1) := by decide +kernel
theorem dX10_enter_14 : decode cX10_enter 14 = .ok (.invokevirtual 53, 3) := by decide +kernel
theorem dX10_enter_17 : decode cX10_enter 17 = .ok (.putfield 57, 3) := by decide +kernel
theorem dX10_enter_20 : decode cX10_enter 20 = .ok (.aload_n 0, 1) := by decide +kernel
theorem dX10_enter_21 : decode cX10_enter 21 = .ok (.iconst (-1), 1) := by decide +kernel
theorem dX10_enter_22 : decode cX10_enter 22 = .ok (.invokevirtual 61, 3) := by decide +kernel
theorem dX10_enter_25 : decode cX10_enter 25 = .ok (.return_, 1) := by decide +kernel
theorem dX10_changeGates_0 : decode cX10_changeGates 0 = .ok (.aload_n 0, 1) := by decide +kernel
theorem dX10_changeGates_1 : decode cX10_changeGates 1 = .ok (.aload_n 0, 1) := by decide +kernel
theorem dX10_changeGates_2 : decode cX10_changeGates 2 = .ok (.getfield 49, 3) := by decide +kernel
theorem dX10_changeGates_5 : decode cX10_changeGates 5 = .ok (.iconst 4, 1) := by decide +kernel
theorem dX10_changeGates_6 : decode cX10_changeGates 6 = .ok (.iaload, 1) := by decide +kernel
theorem dX10_changeGates_7 : decode cX10_changeGates 7 = .ok (.iload_n 1, 1) := by decide +kernel
theorem dX10_changeGates_8 : decode cX10_changeGates 8 = .ok (.ixor, 1) := by decide +kernel
theorem dX10_changeGates_9 : decode cX10_changeGates 9 = .ok (.invokevirtual 61, 3) := by decide +kernel
theorem dX10_changeGates_12 : decode cX10_changeGates 12 = .ok (.aload_n 0, 1) := by decide +kernel
theorem dX10_changeGates_13 : decode cX10_changeGates 13 = .ok (.getfield 49, 3) := by decide +kernel
theorem dX10_changeGates_16 : decode cX10_changeGates 16 = .ok (.iconst 4, 1) := by decide +kernel
theorem dX10_changeGates_17 : decode cX10_changeGates 17 = .ok (.iload_n 1, 1) := by decide +kernel
theorem dX10_changeGates_18 : decode cX10_changeGates 18 = .ok (.iastore, 1) := by decide +kernel
theorem dX10_changeGates_19 : decode cX10_changeGates 19 = .ok (.return_, 1) := by decide +kernel
theorem dX10_passNights_0 : decode cX10_passNights 0 = .ok (.iconst 0, 1) := by decide +kernel
theorem dX10_passNights_1 : decode cX10_passNights 1 = .ok (.istore_n 2, 1) := by decide +kernel
theorem dX10_passNights_2 : decode cX10_passNights 2 = .ok (.iload_n 2, 1) := by decide +kernel
theorem dX10_passNights_3 : decode cX10_passNights 3 = .ok (.iload_n 1, 1) := by decide +kernel
theorem dX10_passNights_4 : decode cX10_passNights 4 = .ok (.if_icmp .ge 13, 3) := by decide +kernel
theorem dX10_passNights_7 : decode cX10_passNights 7 = .ok (.aload_n 0, 1) := by decide +kernel
theorem dX10_passNights_8 : decode cX10_passNights 8 = .ok (.invokevirtual 65, 3) := by decide +kernel
theorem dX10_passNights_11 : decode cX10_passNights 11 = .ok (.iinc 2 1, 3) := by decide +kernel
theorem dX10_passNights_14 : decode cX10_passNights 14 = .ok (.goto (-12), 3) := by decide +kernel
theorem dX10_passNights_17 : decode cX10_passNights 17 = .ok (.return_, 1) := by decide +kernel
theorem dX10_passNight_0 : decode cX10_passNight 0 = .ok (.aload_n 0, 1) := by decide +kernel
theorem dX10_passNight_1 : decode cX10_passNight 1 = .ok (.iconst 0, 1) := by decide +kernel
theorem dX10_passNight_2 : decode cX10_passNight 2 = .ok (.putfield 68, 3) := by decide +kernel
theorem dX10_passNight_5 : decode cX10_passNight 5 = .ok (.aload_n 0, 1) := by decide +kernel
theorem dX10_passNight_6 : decode cX10_passNight 6 = .ok (.getfield 49, 3) := by decide +kernel
theorem dX10_passNight_9 : decode cX10_passNight 9 = .ok (.iconst 0, 1) := by decide +kernel
theorem dX10_passNight_10 : decode cX10_passNight 10 = .ok (.iaload, 1) := by decide +kernel
theorem dX10_passNight_11 : decode cX10_passNight 11 = .ok (.istore_n 1, 1) := by decide +kernel
theorem dX10_passNight_12 : decode cX10_passNight 12 = .ok (.aload_n 0, 1) := by decide +kernel
theorem dX10_passNight_13 : decode cX10_passNight 13 = .ok (.getfield 49, 3) := by decide +kernel
theorem dX10_passNight_16 : decode cX10_passNight 16 = .ok (.bipush 6, 2) := by decide +kernel
theorem dX10_passNight_18 : decode cX10_passNight 18 = .ok (.iaload, 1) := by decide +kernel
theorem dX10_passNight_19 : decode cX10_passNight 19 = .ok (.istore_n 2, 1) := by decide +kernel
theorem dX10_passNight_20 : decode cX10_passNight 20 = .ok (.iconst 0, 1) := by decide +kernel
theorem dX10_passNight_21 : decode cX10_passNight 21 = .ok (.istore_n 3, 1) := by decide +kernel
theorem dX10_passNight_22 : decode cX10_passNight 22 = .ok (.iload_n 3, 1) := by decide +kernel
theorem dX10_passNight_23 : decode cX10_passNight 23 = .ok (.aload_n 0, 1) := by decide +kernel
theorem dX10_passNight_24 : decode cX10_passNight 24 = .ok (.getfield 30, 3) := by decide +kernel
theorem dX10_passNight_27 : decode cX10_passNight 27 = .ok (.getfield 71, 3) := by decide +kernel
theorem dX10_passNight_30 : decode cX10_passNight 30 = .ok (.if_icmp .ge 58, 3) := by decide +kernel
theorem dX10_passNight_33 : decode cX10_passNight 33 = .ok (.iload_n 2, 1) := by decide +kernel
theorem dX10_passNight_34 : decode cX10_passNight 34 = .ok (.iload_n 3, 1) := by decide +kernel
theorem dX10_passNight_35 : decode cX10_passNight 35 = .ok (.ishr, 1) := by decide +kernel
theorem dX10_passNight_36 : decode cX10_passNight 36 = .ok (.iconst 1, 1) := by decide +kernel
theorem dX10_passNight_37 : decode cX10_passNight 37 = .ok (.iand, 1) := by decide +kernel
theorem dX10_passNight_38 : decode cX10_passNight 38 = .ok (.ifCond .eq 44, 3) := by decide +kernel
theorem dX10_passNight_41 : decode cX10_passNight 41 = .ok (.aload_n 0, 1) := by decide +kernel
theorem dX10_passNight_42 : decode cX10_passNight 42 = .ok (.getfield 30, 3) := by decide +kernel
theorem dX10_passNight_45 : decode cX10_passNight 45 = .ok (.iload_n 3, 1) := by decide +kernel
theorem dX10_passNight_46 : decode cX10_passNight 46 = .ok (.iload_n 1, 1) := by decide +kernel
theorem dX10_passNight_47 : decode cX10_passNight 47 = .ok (.invokevirtual 76, 3) := by decide +kernel
theorem dX10_passNight_50 : decode cX10_passNight 50 = .ok (.ifCond .eq 32, 3) := by decide +kernel
theorem dX10_passNight_53 : decode cX10_passNight 53 = .ok (.aload_n 0, 1) := by decide +kernel
theorem dX10_passNight_54 : decode cX10_passNight 54 = .ok (.iload_n 3, 1) := by decide +kernel
theorem dX10_passNight_55 : decode cX10_passNight 55 = .ok (.invokevirtual 80, 3) := by decide +kernel
theorem dX10_passNight_58 : decode cX10_passNight 58 = .ok (.ifCond .eq 11, 3) := by decide +kernel
theorem dX10_passNight_61 : decode cX10_passNight 61 = .ok (.aload_n 0, 1) := by decide +kernel
theorem dX10_passNight_62 : decode cX10_passNight 62 = .ok (.iload_n 3, 1) := by decide +kernel
theorem dX10_passNight_63 : decode cX10_passNight 63 = .ok (.invokevirtual 84, 3) := by decide +kernel
theorem dX10_passNight_66 : decode cX10_passNight 66 = .ok (.goto 16, 3) := by decide +kernel
theorem dX10_passNight_69 : decode cX10_passNight 69 = .ok (.aload_n 0, 1) := by decide +kernel
theorem dX10_passNight_70 : decode cX10_passNight 70 = .ok (.getfield 49, 3) := by decide +kernel
theorem dX10_passNight_73 : decode cX10_passNight 73 = .ok (.bipush 57, 2) := by decide +kernel
theorem dX10_passNight_75 : decode cX10_passNight 75 = .ok (.iload_n 3, 1) := by decide +kernel
theorem dX10_passNight_76 : decode cX10_passNight 76 = .ok (.iadd, 1) := by decide +kernel
theorem dX10_passNight_77 : decode cX10_passNight 77 = .ok (.dup2, 1) := by decide +kernel
theorem dX10_passNight_78 : decode cX10_passNight 78 = .ok (.iaload, 1) := by decide +kernel
theorem dX10_passNight_79 : decode cX10_passNight 79 = .ok (.iconst 1, 1) := by decide +kernel
theorem dX10_passNight_80 : decode cX10_passNight 80 = .ok (.iadd, 1) := by decide +kernel
theorem dX10_passNight_81 : decode cX10_passNight 81 = .ok (.iastore, 1) := by decide +kernel
theorem dX10_passNight_82 : decode cX10_passNight 82 = .ok (.iinc 3 1, 3) := by decide +kernel
theorem dX10_passNight_85 : decode cX10_passNight 85 = .ok (.goto (-63), 3) := by decide +kernel
theorem dX10_passNight_88 : decode cX10_passNight 88 = .ok (.aload_n 0, 1) := by decide +kernel
theorem dX10_passNight_89 : decode cX10_passNight 89 = .ok (.getfield 49, 3) := by decide +kernel
theorem dX10_passNight_92 : decode cX10_passNight 92 = .ok (.iconst 0, 1) := by decide +kernel
theorem dX10_passNight_93 : decode cX10_passNight 93 = .ok (.iload_n 1, 1) := by decide +kernel
theorem dX10_passNight_94 : decode cX10_passNight 94 = .ok (.iconst 1, 1) := by decide +kernel
theorem dX10_passNight_95 : decode cX10_passNight 95 = .ok (.iadd, 1) := by decide +kernel
theorem dX10_passNight_96 : decode cX10_passNight 96 = .ok (.iastore, 1) := by decide +kernel
theorem dX10_passNight_97 : decode cX10_passNight 97 = .ok (.aload_n 0, 1) := by decide +kernel
theorem dX10_passNight_98 : decode cX10_passNight 98 = .ok (.invokevirtual 50, 3) := by decide +kernel
theorem dX10_passNight_101 : decode cX10_passNight 101 = .ok (.return_, 1) := by decide +kernel
theorem dX10_findWay_0 : decode cX10_findWay 0 = .ok (.aload_n 0, 1) := by decide +kernel
theorem dX10_findWay_1 : decode cX10_findWay 1 = .ok (.getfield 11, 3) := by decide +kernel
theorem dX10_findWay_4 : decode cX10_findWay 4 = .ok (.iload_n 1, 1) := by decide +kernel
theorem dX10_findWay_5 : decode cX10_findWay 5 = .ok (.aaload, 1) := by decide +kernel
theorem dX10_findWay_6 : decode cX10_findWay 6 = .ok (.astore_n 2, 1) := by decide +kernel
theorem dX10_findWay_7 : decode cX10_findWay 7 = .ok (.aload_n 2, 1) := by decide +kernel
theorem dX10_findWay_8 : decode cX10_findWay 8 = .ok (.getfield 87, 3) := by decide +kernel
theorem dX10_findWay_11 : decode cX10_findWay 11 = .ok (.istore_n 3, 1) := by decide +kernel
theorem dX10_findWay_12 : decode cX10_findWay 12 = .ok (.aload_n 2, 1) := by decide +kernel
theorem dX10_findWay_13 : decode cX10_findWay 13 = .ok (.iconst 0, 1) := by decide +kernel
theorem dX10_findWay_14 : decode cX10_findWay 14 = .ok (.putfield 87, 3) := by decide +kernel
theorem dX10_findWay_17 : decode cX10_findWay 17 = .ok (.iconst 0, 1) := by decide +kernel
theorem dX10_findWay_18 : decode cX10_findWay 18 = .ok (.istore 4, 2) := by decide +kernel
theorem dX10_findWay_20 : decode cX10_findWay 20 = .ok (.iload 4, 2) := by decide +kernel
theorem dX10_findWay_22 : decode cX10_findWay 22 = .ok (.aload_n 0, 1) := by decide +kernel
theorem dX10_findWay_23 : decode cX10_findWay 23 = .ok (.getfield 30, 3) := by decide +kernel
theorem dX10_findWay_26 : decode cX10_findWay 26 = .ok (.getfield 90, 3) := by decide +kernel
theorem dX10_findWay_29 : decode cX10_findWay 29 = .ok (.if_icmp .ge 55, 3) := by decide +kernel
theorem dX10_findWay_32 : decode cX10_findWay 32 = .ok (.iload_n 3, 1) := by decide +kernel
theorem dX10_findWay_33 : decode cX10_findWay 33 = .ok (.iload 4, 2) := by decide +kernel
theorem dX10_findWay_35 : decode cX10_findWay 35 = .ok (.iushr, 1) := by decide +kernel
theorem dX10_findWay_36 : decode cX10_findWay 36 = .ok (.ifCond .eq 48, 3) := by decide +kernel
theorem dX10_findWay_39 : decode cX10_findWay 39 = .ok (.iload_n 3, 1) := by decide +kernel
theorem dX10_findWay_40 : decode cX10_findWay 40 = .ok (.iload 4, 2) := by decide +kernel
theorem dX10_findWay_42 : decode cX10_findWay 42 = .ok (.iushr, 1) := by decide +kernel
theorem dX10_findWay_43 : decode cX10_findWay 43 = .ok (.iconst 1, 1) := by decide +kernel
theorem dX10_findWay_44 : decode cX10_findWay 44 = .ok (.iand, 1) := by decide +kernel
theorem dX10_findWay_45 : decode cX10_findWay 45 = .ok (.ifCond .eq 33, 3) := by decide +kernel
theorem dX10_findWay_48 : decode cX10_findWay 48 = .ok (.aload_n 2, 1) := by decide +kernel
theorem dX10_findWay_49 : decode cX10_findWay 49 = .ok (.iload 4, 2) := by decide +kernel
theorem dX10_findWay_51 : decode cX10_findWay 51 = .ok (.aload_n 0, 1) := by decide +kernel
theorem dX10_findWay_52 : decode cX10_findWay 52 = .ok (.getfield 57, 3) := by decide +kernel
theorem dX10_findWay_55 : decode cX10_findWay 55 = .ok (.iload 4, 2) := by decide +kernel
theorem dX10_findWay_57 : decode cX10_findWay 57 = .ok (.ishr, 1) := by decide +kernel
theorem dX10_findWay_58 : decode cX10_findWay 58 = .ok (.iconst 1, 1) := by decide +kernel
theorem dX10_findWay_59 : decode cX10_findWay 59 = .ok (.iand, 1) := by decide +kernel
theorem dX10_findWay_60 : decode cX10_findWay 60 = .ok (.ifCond .eq 8, 3) := by decide +kernel
theorem dX10_findWay_63 : decode cX10_findWay 63 = .ok (.ldc 93, 2) := by decide +kernel
theorem dX10_findWay_65 : decode cX10_findWay 65 = .ok (.goto 10, 3) := by decide +kernel
theorem dX10_findWay_68 : decode cX10_findWay 68 = .ok (.aload_n 0, 1) := by decide +kernel
theorem dX10_findWay_69 : decode cX10_findWay 69 = .ok (.iload_n 1, 1) := by decide +kernel
theorem dX10_findWay_70 : decode cX10_findWay 70 = .ok (.iload 4, 2) := by decide +kernel
theorem dX10_findWay_72 : decode cX10_findWay 72 = .ok (.invokevirtual 94, 3) := by decide +kernel
theorem dX10_findWay_75 : decode cX10_findWay 75 = .ok (.invokevirtual 98, 3) := by decide +kernel
theorem dX10_findWay_78 : decode cX10_findWay 78 = .ok (.iinc 4 1, 3) := by decide +kernel
theorem dX10_findWay_81 : decode cX10_findWay 81 = .ok (.goto (-61), 3) := by decide +kernel
theorem dX10_findWay_84 : decode cX10_findWay 84 = .ok (.aload_n 2, 1) := by decide +kernel
theorem dX10_findWay_85 : decode cX10_findWay 85 = .ok (.getfield 40, 3) := by decide +kernel
theorem dX10_findWay_88 : decode cX10_findWay 88 = .ok (.ifCond .ne 12, 3) := by decide +kernel
theorem dX10_findWay_91 : decode cX10_findWay 91 = .ok (.aload_n 2, 1) := by decide +kernel
theorem dX10_findWay_92 : decode cX10_findWay 92 = .ok (.aload_n 0, 1) := by decide +kernel
theorem dX10_findWay_93 : decode cX10_findWay 93 = .ok (.getfield 30, 3) := by decide +kernel
theorem dX10_findWay_96 : decode cX10_findWay 96 = .ok (.iload_n 1, 1) := by decide +kernel
theorem dX10_findWay_97 : decode cX10_findWay 97 = .ok (.invokevirtual 102, 3) := by decide +kernel
theorem dX10_findWay_100 : decode cX10_findWay 100 = .ok (.aload_n 2, 1) := by decide +kernel
theorem dX10_findWay_101 : decode cX10_findWay 101 = .ok (.invokevirtual 106, 3) := by decide +kernel
theorem dX10_findWay_104 : decode cX10_findWay 104 = .ok (.ireturn, 1) := by decide +kernel
theorem dX10_priceOf_0 : decode cX10_priceOf 0 = .ok (.aload_n 0, 1) := by decide +kernel
theorem dX10_priceOf_1 : decode cX10_priceOf 1 = .ok (.getfield 30, 3) := by decide +kernel
theorem dX10_priceOf_4 : decode cX10_priceOf 4 = .ok (.getfield 110, 3) := by decide +kernel
theorem dX10_priceOf_7 : decode cX10_priceOf 7 = .ok (.iload_n 2, 1) := by decide +kernel
theorem dX10_priceOf_8 : decode cX10_priceOf 8 = .ok (.iaload, 1) := by decide +kernel
theorem dX10_priceOf_9 : decode cX10_priceOf 9 = .ok (.istore_n 3, 1) := by decide +kernel
theorem dX10_priceOf_10 : decode cX10_priceOf 10 = .ok (.iconst 0, 1) := by decide +kernel
theorem dX10_priceOf_11 : decode cX10_priceOf 11 = .ok (.istore 4, 2) := by decide +kernel
theorem dX10_priceOf_13 : decode cX10_priceOf 13 = .ok (.aload_n 0, 1) := by decide +kernel
theorem dX10_priceOf_14 : decode cX10_priceOf 14 = .ok (.getfield 49, 3) := by decide +kernel
theorem dX10_priceOf_17 : decode cX10_priceOf 17 = .ok (.iconst 4, 1) := by decide +kernel
theorem dX10_priceOf_18 : decode cX10_priceOf 18 = .ok (.iaload, 1) := by decide +kernel
theorem dX10_priceOf_19 : decode cX10_priceOf 19 = .ok (.iload_n 2, 1) := by decide +kernel
theorem dX10_priceOf_20 : decode cX10_priceOf 20 = .ok (.ishr, 1) := by decide +kernel
theorem dX10_priceOf_21 : decode cX10_priceOf 21 = .ok (.iconst 1, 1) := by decide +kernel
theorem dX10_priceOf_22 : decode cX10_priceOf 22 = .ok (.iand, 1) := by decide +kernel
theorem dX10_priceOf_23 : decode cX10_priceOf 23 = .ok (.ifCond .eq 20, 3) := by decide +kernel
theorem dX10_priceOf_26 : decode cX10_priceOf 26 = .ok (.aload_n 0, 1) := by decide +kernel
theorem dX10_priceOf_27 : decode cX10_priceOf 27 = .ok (.aload_n 0, 1) := by decide +kernel
theorem dX10_priceOf_28 : decode cX10_priceOf 28 = .ok (.getfield 30, 3) := by decide +kernel
theorem dX10_priceOf_31 : decode cX10_priceOf 31 = .ok (.getfield 113, 3) := by decide +kernel
theorem dX10_priceOf_34 : decode cX10_priceOf 34 = .ok (.iload_n 1, 1) := by decide +kernel
theorem dX10_priceOf_35 : decode cX10_priceOf 35 = .ok (.iload_n 2, 1) := by decide +kernel
theorem dX10_priceOf_36 : decode cX10_priceOf 36 = .ok (.bipush 99, 2) := by decide +kernel
theorem dX10_priceOf_38 : decode cX10_priceOf 38 = .ok (.invokevirtual 117, 3) := by decide +kernel
theorem dX10_priceOf_41 : decode cX10_priceOf 41 = .ok (.istore 4, 2) := by decide +kernel
theorem dX10_priceOf_43 : decode cX10_priceOf 43 = .ok (.aload_n 0, 1) := by decide +kernel
theorem dX10_priceOf_44 : decode cX10_priceOf 44 = .ok (.getfield 11, 3) := by decide +kernel
theorem dX10_priceOf_47 : decode cX10_priceOf 47 = .ok (.iload_n 1, 1) := by decide +kernel
theorem dX10_priceOf_48 : decode cX10_priceOf 48 = .ok (.aaload, 1) := by decide +kernel
theorem dX10_priceOf_49 : decode cX10_priceOf 49 = .ok (.getfield 121, 3) := by decide +kernel
theorem dX10_priceOf_52 : decode cX10_priceOf 52 = .ok (.iload_n 2, 1) := by decide +kernel
theorem dX10_priceOf_53 : decode cX10_priceOf 53 = .ok (.iload 4, 2) := by decide +kernel
theorem dX10_priceOf_55 : decode cX10_priceOf 55 = .ok (.iastore, 1) := by decide +kernel
theorem dX10_priceOf_56 : decode cX10_priceOf 56 = .ok (.aload_n 0, 1) := by decide +kernel
theorem dX10_priceOf_57 : decode cX10_priceOf 57 = .ok (.getfield 30, 3) := by decide +kernel
theorem dX10_priceOf_60 : decode cX10_priceOf 60 = .ok (.getfield 124, 3) := by decide +kernel
theorem dX10_priceOf_63 : decode cX10_priceOf 63 = .ok (.iload_n 2, 1) := by decide +kernel
theorem dX10_priceOf_64 : decode cX10_priceOf 64 = .ok (.ishr, 1) := by decide +kernel
theorem dX10_priceOf_65 : decode cX10_priceOf 65 = .ok (.iconst 1, 1) := by decide +kernel
theorem dX10_priceOf_66 : decode cX10_priceOf 66 = .ok (.iand, 1) := by decide +kernel
theorem dX10_priceOf_67 : decode cX10_priceOf 67 = .ok (.ifCond .eq 21, 3) := by decide +kernel
theorem dX10_priceOf_70 : decode cX10_priceOf 70 = .ok (.iload_n 3, 1) := by decide +kernel
theorem dX10_priceOf_71 : decode cX10_priceOf 71 = .ok (.aload_n 0, 1) := by decide +kernel
theorem dX10_priceOf_72 : decode cX10_priceOf 72 = .ok (.aload_n 0, 1) := by decide +kernel
theorem dX10_priceOf_73 : decode cX10_priceOf 73 = .ok (.getfield 30, 3) := by decide +kernel
theorem dX10_priceOf_76 : decode cX10_priceOf 76 = .ok (.getfield 127, 3) := by decide +kernel
theorem dX10_priceOf_79 : decode cX10_priceOf 79 = .ok (.iload_n 1, 1) := by decide +kernel
theorem dX10_priceOf_80 : decode cX10_priceOf 80 = .ok (.iload_n 2, 1) := by decide +kernel
theorem dX10_priceOf_81 : decode cX10_priceOf 81 = .ok (.bipush 99, 2) := by decide +kernel
theorem dX10_priceOf_83 : decode cX10_priceOf 83 = .ok (.invokevirtual 117, 3) := by decide +kernel
theorem dX10_priceOf_86 : decode cX10_priceOf 86 = .ok (.iadd, 1) := by decide +kernel
theorem dX10_priceOf_87 : decode cX10_priceOf 87 = .ok (.istore_n 3, 1) := by decide +kernel
theorem dX10_priceOf_88 : decode cX10_priceOf 88 = .ok (.iload_n 3, 1) := by decide +kernel
theorem dX10_priceOf_89 : decode cX10_priceOf 89 = .ok (.iload 4, 2) := by decide +kernel
theorem dX10_priceOf_91 : decode cX10_priceOf 91 = .ok (.iadd, 1) := by decide +kernel
theorem dX10_priceOf_92 : decode cX10_priceOf 92 = .ok (.ireturn, 1) := by decide +kernel
theorem dX10_hoursOf_0 : decode cX10_hoursOf 0 = .ok (.iconst 0, 1) := by decide +kernel
theorem dX10_hoursOf_1 : decode cX10_hoursOf 1 = .ok (.istore_n 2, 1) := by decide +kernel
theorem dX10_hoursOf_2 : decode cX10_hoursOf 2 = .ok (.iconst 0, 1) := by decide +kernel
theorem dX10_hoursOf_3 : decode cX10_hoursOf 3 = .ok (.istore_n 3, 1) := by decide +kernel
theorem dX10_hoursOf_4 : decode cX10_hoursOf 4 = .ok (.iload_n 3, 1) := by decide +kernel
theorem dX10_hoursOf_5 : decode cX10_hoursOf 5 = .ok (.aload_n 1, 1) := by decide +kernel
theorem dX10_hoursOf_6 : decode cX10_hoursOf 6 = .ok (.getfield 130, 3) := by decide +kernel
theorem dX10_hoursOf_9 : decode cX10_hoursOf 9 = .ok (.if_icmp .ge 26, 3) := by decide +kernel
theorem dX10_hoursOf_12 : decode cX10_hoursOf 12 = .ok (.iload_n 2, 1) := by decide +kernel
theorem dX10_hoursOf_13 : decode cX10_hoursOf 13 = .ok (.aload_n 0, 1) := by decide +kernel
theorem dX10_hoursOf_14 : decode cX10_hoursOf 14 = .ok (.getfield 30, 3) := by decide +kernel
theorem dX10_hoursOf_17 : decode cX10_hoursOf 17 = .ok (.getfield 110, 3) := by decide +kernel
theorem dX10_hoursOf_20 : decode cX10_hoursOf 20 = .ok (.aload_n 1, 1) := by decide +kernel
theorem dX10_hoursOf_21 : decode cX10_hoursOf 21 = .ok (.getfield 133, 3) := by decide +kernel
theorem dX10_hoursOf_24 : decode cX10_hoursOf 24 = .ok (.iload_n 3, 1) := by decide +kernel
theorem dX10_hoursOf_25 : decode cX10_hoursOf 25 = .ok (.iaload, 1) := by decide +kernel
theorem dX10_hoursOf_26 : decode cX10_hoursOf 26 = .ok (.iaload, 1) := by decide +kernel
theorem dX10_hoursOf_27 : decode cX10_hoursOf 27 = .ok (.iadd, 1) := by decide +kernel
theorem dX10_hoursOf_28 : decode cX10_hoursOf 28 = .ok (.istore_n 2, 1) := by decide +kernel
theorem dX10_hoursOf_29 : decode cX10_hoursOf 29 = .ok (.iinc 3 1, 3) := by decide +kernel
theorem dX10_hoursOf_32 : decode cX10_hoursOf 32 = .ok (.goto (-28), 3) := by decide +kernel
theorem dX10_hoursOf_35 : decode cX10_hoursOf 35 = .ok (.iload_n 2, 1) := by decide +kernel
theorem dX10_hoursOf_36 : decode cX10_hoursOf 36 = .ok (.ireturn, 1) := by decide +kernel
theorem dX10_paidOn_0 : decode cX10_paidOn 0 = .ok (.iconst 0, 1) := by decide +kernel
theorem dX10_paidOn_1 : decode cX10_paidOn 1 = .ok (.istore_n 3, 1) := by decide +kernel
theorem dX10_paidOn_2 : decode cX10_paidOn 2 = .ok (.iconst 0, 1) := by decide +kernel
theorem dX10_paidOn_3 : decode cX10_paidOn 3 = .ok (.istore 4, 2) := by decide +kernel
theorem dX10_paidOn_5 : decode cX10_paidOn 5 = .ok (.iload 4, 2) := by decide +kernel
theorem dX10_paidOn_7 : decode cX10_paidOn 7 = .ok (.aload_n 1, 1) := by decide +kernel
theorem dX10_paidOn_8 : decode cX10_paidOn 8 = .ok (.getfield 130, 3) := by decide +kernel
theorem dX10_paidOn_11 : decode cX10_paidOn 11 = .ok (.if_icmp .ge 24, 3) := by decide +kernel
theorem dX10_paidOn_14 : decode cX10_paidOn 14 = .ok (.iload_n 3, 1) := by decide +kernel
theorem dX10_paidOn_15 : decode cX10_paidOn 15 = .ok (.aload_n 1, 1) := by decide +kernel
theorem dX10_paidOn_16 : decode cX10_paidOn 16 = .ok (.getfield 121, 3) := by decide +kernel
theorem dX10_paidOn_19 : decode cX10_paidOn 19 = .ok (.aload_n 1, 1) := by decide +kernel
theorem dX10_paidOn_20 : decode cX10_paidOn 20 = .ok (.getfield 133, 3) := by decide +kernel
theorem dX10_paidOn_23 : decode cX10_paidOn 23 = .ok (.iload 4, 2) := by decide +kernel
theorem dX10_paidOn_25 : decode cX10_paidOn 25 = .ok (.iaload, 1) := by decide +kernel
theorem dX10_paidOn_26 : decode cX10_paidOn 26 = .ok (.iaload, 1) := by decide +kernel
theorem dX10_paidOn_27 : decode cX10_paidOn 27 = .ok (.iadd, 1) := by decide +kernel
theorem dX10_paidOn_28 : decode cX10_paidOn 28 = .ok (.istore_n 3, 1) := by decide +kernel
theorem dX10_paidOn_29 : decode cX10_paidOn 29 = .ok (.iinc 4 1, 3) := by decide +kernel
theorem dX10_paidOn_32 : decode cX10_paidOn 32 = .ok (.goto (-27), 3) := by decide +kernel
theorem dX10_paidOn_35 : decode cX10_paidOn 35 = .ok (.iload_n 3, 1) := by decide +kernel
theorem dX10_paidOn_36 : decode cX10_paidOn 36 = .ok (.iload_n 2, 1) := by decide +kernel
theorem dX10_paidOn_37 : decode cX10_paidOn 37 = .ok (.invokestatic 135, 3) := by decide +kernel
theorem dX10_paidOn_40 : decode cX10_paidOn 40 = .ok (.ireturn, 1) := by decide +kernel
theorem dX10_freeGhosts_0 : decode cX10_freeGhosts 0 = .ok (.iconst 0, 1) := by decide +kernel
theorem dX10_freeGhosts_1 : decode cX10_freeGhosts 1 = .ok (.istore_n 1, 1) := by decide +kernel
theorem dX10_freeGhosts_2 : decode cX10_freeGhosts 2 = .ok (.iconst 0, 1) := by decide +kernel
theorem dX10_freeGhosts_3 : decode cX10_freeGhosts 3 = .ok (.istore_n 2, 1) := by decide +kernel
theorem dX10_freeGhosts_4 : decode cX10_freeGhosts 4 = .ok (.iload_n 2, 1) := by decide +kernel
theorem dX10_freeGhosts_5 : decode cX10_freeGhosts 5 = .ok (.aload_n 0, 1) := by decide +kernel
theorem dX10_freeGhosts_6 : decode cX10_freeGhosts 6 = .ok (.getfield 30, 3) := by decide +kernel
theorem dX10_freeGhosts_9 : decode cX10_freeGhosts 9 = .ok (.getfield 71, 3) := by decide +kernel
theorem dX10_freeGhosts_12 : decode cX10_freeGhosts 12 = .ok (.if_icmp .ge 42, 3) := by decide +kernel
theorem dX10_freeGhosts_15 : decode cX10_freeGhosts 15 = .ok (.aload_n 0, 1) := by decide +kernel
theorem dX10_freeGhosts_16 : decode cX10_freeGhosts 16 = .ok (.iload_n 2, 1) := by decide +kernel
theorem dX10_freeGhosts_17 : decode cX10_freeGhosts 17 = .ok (.invokevirtual 80, 3) := by decide +kernel
theorem dX10_freeGhosts_20 : decode cX10_freeGhosts 20 = .ok (.ifCond .eq 28, 3) := by decide +kernel
theorem dX10_freeGhosts_23 : decode cX10_freeGhosts 23 = .ok (.aload_n 0, 1) := by decide +kernel
theorem dX10_freeGhosts_24 : decode cX10_freeGhosts 24 = .ok (.getfield 11, 3) := by decide +kernel
theorem dX10_freeGhosts_27 : decode cX10_freeGhosts 27 = .ok (.iload_n 2, 1) := by decide +kernel
theorem dX10_freeGhosts_28 : decode cX10_freeGhosts 28 = .ok (.aaload, 1) := by decide +kernel
theorem dX10_freeGhosts_29 : decode cX10_freeGhosts 29 = .ok (.getfield 140, 3) := by decide +kernel
theorem dX10_freeGhosts_32 : decode cX10_freeGhosts 32 = .ok (.aload_n 0, 1) := by decide +kernel
theorem dX10_freeGhosts_33 : decode cX10_freeGhosts 33 = .ok (.getfield 49, 3) := by decide +kernel
theorem dX10_freeGhosts_36 : decode cX10_freeGhosts 36 = .ok (.iconst 4, 1) := by decide +kernel
theorem dX10_freeGhosts_37 : decode cX10_freeGhosts 37 = .ok (.iaload, 1) := by decide +kernel
theorem dX10_freeGhosts_38 : decode cX10_freeGhosts 38 = .ok (.iand, 1) := by decide +kernel
theorem dX10_freeGhosts_39 : decode cX10_freeGhosts 39 = .ok (.ifCond .ne 9, 3) := by decide +kernel
theorem dX10_freeGhosts_42 : decode cX10_freeGhosts 42 = .ok (.iload_n 1, 1) := by decide +kernel
theorem dX10_freeGhosts_43 : decode cX10_freeGhosts 43 = .ok (.iconst 1, 1) := by decide +kernel
theorem dX10_freeGhosts_44 : decode cX10_freeGhosts 44 = .ok (.iload_n 2, 1) := by decide +kernel
theorem dX10_freeGhosts_45 : decode cX10_freeGhosts 45 = .ok (.ishl, 1) := by decide +kernel
theorem dX10_freeGhosts_46 : decode cX10_freeGhosts 46 = .ok (.ior, 1) := by decide +kernel
theorem dX10_freeGhosts_47 : decode cX10_freeGhosts 47 = .ok (.istore_n 1, 1) := by decide +kernel
theorem dX10_freeGhosts_48 : decode cX10_freeGhosts 48 = .ok (.iinc 2 1, 3) := by decide +kernel
theorem dX10_freeGhosts_51 : decode cX10_freeGhosts 51 = .ok (.goto (-47), 3) := by decide +kernel
theorem dX10_freeGhosts_54 : decode cX10_freeGhosts 54 = .ok (.iload_n 1, 1) := by decide +kernel
theorem dX10_freeGhosts_55 : decode cX10_freeGhosts 55 = .ok (.ireturn, 1) := by decide +kernel
theorem dX10_walk_0 : decode cX10_walk 0 = .ok (.aload_n 0, 1) := by decide +kernel
theorem dX10_walk_1 : decode cX10_walk 1 = .ok (.getfield 11, 3) := by decide +kernel
theorem dX10_walk_4 : decode cX10_walk 4 = .ok (.iload_n 1, 1) := by decide +kernel
theorem dX10_walk_5 : decode cX10_walk 5 = .ok (.aaload, 1) := by decide +kernel
theorem dX10_walk_6 : decode cX10_walk 6 = .ok (.astore_n 2, 1) := by decide +kernel
theorem dX10_walk_7 : decode cX10_walk 7 = .ok (.aload_n 0, 1) := by decide +kernel
theorem dX10_walk_8 : decode cX10_walk 8 = .ok (.getfield 49, 3) := by decide +kernel
theorem dX10_walk_11 : decode cX10_walk 11 = .ok (.astore_n 3, 1) := by decide +kernel
theorem dX10_walk_12 : decode cX10_walk 12 = .ok (.aload_n 0, 1) := by decide +kernel
theorem dX10_walk_13 : decode cX10_walk 13 = .ok (.getfield 30, 3) := by decide +kernel
theorem dX10_walk_16 : decode cX10_walk 16 = .ok (.getfield 143, 3) := by decide +kernel
theorem dX10_walk_19 : decode cX10_walk 19 = .ok (.iload_n 1, 1) := by decide +kernel
theorem dX10_walk_20 : decode cX10_walk 20 = .ok (.iaload, 1) := by decide +kernel
theorem dX10_walk_21 : decode cX10_walk 21 = .ok (.istore 4, 2) := by decide +kernel
theorem dX10_walk_23 : decode cX10_walk 23 = .ok (.iconst 0, 1) := by decide +kernel
theorem dX10_walk_24 : decode cX10_walk 24 = .ok (.istore 5, 2) := by decide +kernel
theorem dX10_walk_26 : decode cX10_walk 26 = .ok (.iconst 0, 1) := by decide +kernel
theorem dX10_walk_27 : decode cX10_walk 27 = .ok (.istore 6, 2) := by decide +kernel
theorem dX10_walk_29 : decode cX10_walk 29 = .ok (.iload 6, 2) := by decide +kernel
theorem dX10_walk_31 : decode cX10_walk 31 = .ok (.aload_n 2, 1) := by decide +kernel
theorem dX10_walk_32 : decode cX10_walk 32 = .ok (.getfield 130, 3) := by decide +kernel
theorem dX10_walk_35 : decode cX10_walk 35 = .ok (.if_icmp .ge 146, 3) := by decide +kernel
theorem dX10_walk_38 : decode cX10_walk 38 = .ok (.aload_n 2, 1) := by decide +kernel
theorem dX10_walk_39 : decode cX10_walk 39 = .ok (.getfield 133, 3) := by decide +kernel
theorem dX10_walk_42 : decode cX10_walk 42 = .ok (.iload 6, 2) := by decide +kernel
theorem dX10_walk_44 : decode cX10_walk 44 = .ok (.iaload, 1) := by decide +kernel
theorem dX10_walk_45 : decode cX10_walk 45 = .ok (.istore 7, 2) := by decide +kernel
theorem dX10_walk_47 : decode cX10_walk 47 = .ok (.aload_n 2, 1) := by decide +kernel
theorem dX10_walk_48 : decode cX10_walk 48 = .ok (.getfield 121, 3) := by decide +kernel
theorem dX10_walk_51 : decode cX10_walk 51 = .ok (.iload 7, 2) := by decide +kernel
theorem dX10_walk_53 : decode cX10_walk 53 = .ok (.iaload, 1) := by decide +kernel
theorem dX10_walk_54 : decode cX10_walk 54 = .ok (.istore 8, 2) := by decide +kernel
theorem dX10_walk_56 : decode cX10_walk 56 = .ok (.iload 8, 2) := by decide +kernel
theorem dX10_walk_58 : decode cX10_walk 58 = .ok (.ifCond .le 31, 3) := by decide +kernel
theorem dX10_walk_61 : decode cX10_walk 61 = .ok (.iload 8, 2) := by decide +kernel
theorem dX10_walk_63 : decode cX10_walk 63 = .ok (.iload 4, 2) := by decide +kernel
theorem dX10_walk_65 : decode cX10_walk 65 = .ok (.invokestatic 135, 3) := by decide +kernel
theorem dX10_walk_68 : decode cX10_walk 68 = .ok (.istore 9, 2) := by decide +kernel
theorem dX10_walk_70 : decode cX10_walk 70 = .ok (.iload 4, 2) := by decide +kernel
theorem dX10_walk_72 : decode cX10_walk 72 = .ok (.iload 9, 2) := by decide +kernel
theorem dX10_walk_74 : decode cX10_walk 74 = .ok (.isub, 1) := by decide +kernel
theorem dX10_walk_75 : decode cX10_walk 75 = .ok (.istore 4, 2) := by decide +kernel
theorem dX10_walk_77 : decode cX10_walk 77 = .ok (.aload_n 3, 1) := by decide +kernel
theorem dX10_walk_78 : decode cX10_walk 78 = .ok (.bipush 31, 2) := by decide +kernel
theorem dX10_walk_80 : decode cX10_walk 80 = .ok (.iload 7, 2) := by decide +kernel
theorem dX10_walk_82 : decode cX10_walk 82 = .ok (.iadd, 1) := by decide +kernel
theorem dX10_walk_83 : decode cX10_walk 83 = .ok (.dup2, 1) := by decide +kernel
theorem dX10_walk_84 : decode cX10_walk 84 = .ok (.iaload, 1) := by decide +kernel
theorem dX10_walk_85 : decode cX10_walk 85 = .ok (.iload 9, 2) := by decide +kernel
theorem dX10_walk_87 : decode cX10_walk 87 = .ok (.iadd, 1) := by decide +kernel
theorem dX10_walk_88 : decode cX10_walk 88 = .ok (.iastore, 1) := by decide +kernel
theorem dX10_walk_89 : decode cX10_walk 89 = .ok (.aload_n 0, 1) := by decide +kernel
theorem dX10_walk_90 : decode cX10_walk 90 = .ok (.getfield 30, 3) := by decide +kernel
theorem dX10_walk_93 : decode cX10_walk 93 = .ok (.getfield 124, 3) := by decide +kernel
theorem dX10_walk_96 : decode cX10_walk 96 = .ok (.iload 7, 2) := by decide +kernel
theorem dX10_walk_98 : decode cX10_walk 98 = .ok (.ishr, 1) := by decide +kernel
theorem dX10_walk_99 : decode cX10_walk 99 = .ok (.iconst 1, 1) := by decide +kernel
theorem dX10_walk_100 : decode cX10_walk 100 = .ok (.iand, 1) := by decide +kernel
theorem dX10_walk_101 : decode cX10_walk 101 = .ok (.ifCond .eq 37, 3) := by decide +kernel
theorem dX10_walk_104 : decode cX10_walk 104 = .ok (.aload_n 3, 1) := by decide +kernel
theorem dX10_walk_105 : decode cX10_walk 105 = .ok (.bipush 19, 2) := by decide +kernel
theorem dX10_walk_107 : decode cX10_walk 107 = .ok (.iload 7, 2) := by decide +kernel
theorem dX10_walk_109 : decode cX10_walk 109 = .ok (.iadd, 1) := by decide +kernel
theorem dX10_walk_110 : decode cX10_walk 110 = .ok (.dup2, 1) := by decide +kernel
theorem dX10_walk_111 : decode cX10_walk 111 = .ok (.iaload, 1) := by decide +kernel
theorem dX10_walk_112 : decode cX10_walk 112 = .ok (.iconst 1, 1) := by decide +kernel
theorem dX10_walk_113 : decode cX10_walk 113 = .ok (.iadd, 1) := by decide +kernel
theorem dX10_walk_114 : decode cX10_walk 114 = .ok (.iastore, 1) := by decide +kernel
theorem dX10_walk_115 : decode cX10_walk 115 = .ok (.aload_n 3, 1) := by decide +kernel
theorem dX10_walk_116 : decode cX10_walk 116 = .ok (.bipush 64, 2) := by decide +kernel
theorem dX10_walk_118 : decode cX10_walk 118 = .ok (.iload_n 1, 1) := by decide +kernel
theorem dX10_walk_119 : decode cX10_walk 119 = .ok (.iadd, 1) := by decide +kernel
theorem dX10_walk_120 : decode cX10_walk 120 = .ok (.dup2, 1) := by decide +kernel
theorem dX10_walk_121 : decode cX10_walk 121 = .ok (.iaload, 1) := by decide +kernel
theorem dX10_walk_122 : decode cX10_walk 122 = .ok (.iconst 1, 1) := by decide +kernel
theorem dX10_walk_123 : decode cX10_walk 123 = .ok (.iadd, 1) := by decide +kernel
theorem dX10_walk_124 : decode cX10_walk 124 = .ok (.iastore, 1) := by decide +kernel
theorem dX10_walk_125 : decode cX10_walk 125 = .ok (.aload_n 0, 1) := by decide +kernel
theorem dX10_walk_126 : decode cX10_walk 126 = .ok (.dup, 1) := by decide +kernel
theorem dX10_walk_127 : decode cX10_walk 127 = .ok (.getfield 68, 3) := by decide +kernel
theorem dX10_walk_130 : decode cX10_walk 130 = .ok (.iconst 1, 1) := by decide +kernel
theorem dX10_walk_131 : decode cX10_walk 131 = .ok (.iload 7, 2) := by decide +kernel
theorem dX10_walk_133 : decode cX10_walk 133 = .ok (.ishl, 1) := by decide +kernel
theorem dX10_walk_134 : decode cX10_walk 134 = .ok (.ior, 1) := by decide +kernel
theorem dX10_walk_135 : decode cX10_walk 135 = .ok (.putfield 68, 3) := by decide +kernel
theorem dX10_walk_138 : decode cX10_walk 138 = .ok (.aload_n 3, 1) := by decide +kernel
theorem dX10_walk_139 : decode cX10_walk 139 = .ok (.bipush 7, 2) := by decide +kernel
theorem dX10_walk_141 : decode cX10_walk 141 = .ok (.iload 7, 2) := by decide +kernel
theorem dX10_walk_143 : decode cX10_walk 143 = .ok (.iadd, 1) := by decide +kernel
theorem dX10_walk_144 : decode cX10_walk 144 = .ok (.dup2, 1) := by decide +kernel
theorem dX10_walk_145 : decode cX10_walk 145 = .ok (.iaload, 1) := by decide +kernel
theorem dX10_walk_146 : decode cX10_walk 146 = .ok (.iconst 1, 1) := by decide +kernel
theorem dX10_walk_147 : decode cX10_walk 147 = .ok (.iadd, 1) := by decide +kernel
theorem dX10_walk_148 : decode cX10_walk 148 = .ok (.iastore, 1) := by decide +kernel
theorem dX10_walk_149 : decode cX10_walk 149 = .ok (.aload_n 3, 1) := by decide +kernel
theorem dX10_walk_150 : decode cX10_walk 150 = .ok (.bipush 7, 2) := by decide +kernel
theorem dX10_walk_152 : decode cX10_walk 152 = .ok (.iload 7, 2) := by decide +kernel
theorem dX10_walk_154 : decode cX10_walk 154 = .ok (.iadd, 1) := by decide +kernel
theorem dX10_walk_155 : decode cX10_walk 155 = .ok (.iaload, 1) := by decide +kernel
theorem dX10_walk_156 : decode cX10_walk 156 = .ok (.aload_n 0, 1) := by decide +kernel
theorem dX10_walk_157 : decode cX10_walk 157 = .ok (.getfield 17, 3) := by decide +kernel
theorem dX10_walk_160 : decode cX10_walk 160 = .ok (.iload 7, 2) := by decide +kernel
theorem dX10_walk_162 : decode cX10_walk 162 = .ok (.iaload, 1) := by decide +kernel
theorem dX10_walk_163 : decode cX10_walk 163 = .ok (.if_icmp .lt 12, 3) := by decide +kernel
theorem dX10_walk_166 : decode cX10_walk 166 = .ok (.iload 5, 2) := by decide +kernel
theorem dX10_walk_168 : decode cX10_walk 168 = .ok (.iconst 1, 1) := by decide +kernel
theorem dX10_walk_169 : decode cX10_walk 169 = .ok (.iload 7, 2) := by decide +kernel
theorem dX10_walk_171 : decode cX10_walk 171 = .ok (.ishl, 1) := by decide +kernel
theorem dX10_walk_172 : decode cX10_walk 172 = .ok (.ior, 1) := by decide +kernel
theorem dX10_walk_173 : decode cX10_walk 173 = .ok (.istore 5, 2) := by decide +kernel
theorem dX10_walk_175 : decode cX10_walk 175 = .ok (.iinc 6 1, 3) := by decide +kernel
theorem dX10_walk_178 : decode cX10_walk 178 = .ok (.goto (-149), 3) := by decide +kernel
theorem dX10_walk_181 : decode cX10_walk 181 = .ok (.aload_n 0, 1) := by decide +kernel
theorem dX10_walk_182 : decode cX10_walk 182 = .ok (.getfield 30, 3) := by decide +kernel
theorem dX10_walk_185 : decode cX10_walk 185 = .ok (.getfield 143, 3) := by decide +kernel
theorem dX10_walk_188 : decode cX10_walk 188 = .ok (.iload_n 1, 1) := by decide +kernel
theorem dX10_walk_189 : decode cX10_walk 189 = .ok (.iaload, 1) := by decide +kernel
theorem dX10_walk_190 : decode cX10_walk 190 = .ok (.iload 4, 2) := by decide +kernel
theorem dX10_walk_192 : decode cX10_walk 192 = .ok (.isub, 1) := by decide +kernel
theorem dX10_walk_193 : decode cX10_walk 193 = .ok (.istore 6, 2) := by decide +kernel
theorem dX10_walk_195 : decode cX10_walk 195 = .ok (.aload_n 3, 1) := by decide +kernel
theorem dX10_walk_196 : decode cX10_walk 196 = .ok (.iconst 3, 1) := by decide +kernel
theorem dX10_walk_197 : decode cX10_walk 197 = .ok (.dup2, 1) := by decide +kernel
theorem dX10_walk_198 : decode cX10_walk 198 = .ok (.iaload, 1) := by decide +kernel
theorem dX10_walk_199 : decode cX10_walk 199 = .ok (.iload 6, 2) := by decide +kernel
theorem dX10_walk_201 : decode cX10_walk 201 = .ok (.iadd, 1) := by decide +kernel
theorem dX10_walk_202 : decode cX10_walk 202 = .ok (.iastore, 1) := by decide +kernel
theorem dX10_walk_203 : decode cX10_walk 203 = .ok (.aload_n 3, 1) := by decide +kernel
theorem dX10_walk_204 : decode cX10_walk 204 = .ok (.bipush 43, 2) := by decide +kernel
theorem dX10_walk_206 : decode cX10_walk 206 = .ok (.iload_n 1, 1) := by decide +kernel
theorem dX10_walk_207 : decode cX10_walk 207 = .ok (.iadd, 1) := by decide +kernel
theorem dX10_walk_208 : decode cX10_walk 208 = .ok (.dup2, 1) := by decide +kernel
theorem dX10_walk_209 : decode cX10_walk 209 = .ok (.iaload, 1) := by decide +kernel
theorem dX10_walk_210 : decode cX10_walk 210 = .ok (.iload 6, 2) := by decide +kernel
theorem dX10_walk_212 : decode cX10_walk 212 = .ok (.iadd, 1) := by decide +kernel
theorem dX10_walk_213 : decode cX10_walk 213 = .ok (.iastore, 1) := by decide +kernel
theorem dX10_walk_214 : decode cX10_walk 214 = .ok (.aload_n 3, 1) := by decide +kernel
theorem dX10_walk_215 : decode cX10_walk 215 = .ok (.bipush 50, 2) := by decide +kernel
theorem dX10_walk_217 : decode cX10_walk 217 = .ok (.iload_n 1, 1) := by decide +kernel
theorem dX10_walk_218 : decode cX10_walk 218 = .ok (.iadd, 1) := by decide +kernel
theorem dX10_walk_219 : decode cX10_walk 219 = .ok (.dup2, 1) := by decide +kernel
theorem dX10_walk_220 : decode cX10_walk 220 = .ok (.iaload, 1) := by decide +kernel
theorem dX10_walk_221 : decode cX10_walk 221 = .ok (.iconst 1, 1) := by decide +kernel
theorem dX10_walk_222 : decode cX10_walk 222 = .ok (.iadd, 1) := by decide +kernel
theorem dX10_walk_223 : decode cX10_walk 223 = .ok (.iastore, 1) := by decide +kernel
theorem dX10_walk_224 : decode cX10_walk 224 = .ok (.aload_n 0, 1) := by decide +kernel
theorem dX10_walk_225 : decode cX10_walk 225 = .ok (.dup, 1) := by decide +kernel
theorem dX10_walk_226 : decode cX10_walk 226 = .ok (.getfield 57, 3) := by decide +kernel
theorem dX10_walk_229 : decode cX10_walk 229 = .ok (.iload 5, 2) := by decide +kernel
theorem dX10_walk_231 : decode cX10_walk 231 = .ok (.ior, 1) := by decide +kernel
theorem dX10_walk_232 : decode cX10_walk 232 = .ok (.putfield 57, 3) := by decide +kernel
theorem dX10_walk_235 : decode cX10_walk 235 = .ok (.aload_n 0, 1) := by decide +kernel
theorem dX10_walk_236 : decode cX10_walk 236 = .ok (.iload 5, 2) := by decide +kernel
theorem dX10_walk_238 : decode cX10_walk 238 = .ok (.invokevirtual 61, 3) := by decide +kernel
theorem dX10_walk_241 : decode cX10_walk 241 = .ok (.aload_n 0, 1) := by decide +kernel
theorem dX10_walk_242 : decode cX10_walk 242 = .ok (.ldc2_w 146, 3) := by decide +kernel
theorem dX10_walk_245 : decode cX10_walk 245 = .ok (.aload_n 2, 1) := by decide +kernel
theorem dX10_walk_246 : decode cX10_walk 246 = .ok (.getfield 140, 3) := by decide +kernel
theorem dX10_walk_249 : decode cX10_walk 249 = .ok (.invokevirtual 148, 3) := by decide +kernel
theorem dX10_walk_252 : decode cX10_walk 252 = .ok (.return_, 1) := by decide +kernel
theorem dX10_findBroken_0 : decode cX10_findBroken 0 = .ok (.iconst 0, 1) := by decide +kernel
theorem dX10_findBroken_1 : decode cX10_findBroken 1 = .ok (.istore_n 1, 1) := by decide +kernel
theorem dX10_findBroken_2 : decode cX10_findBroken 2 = .ok (.aload_n 0, 1) := by decide +kernel
theorem dX10_findBroken_3 : decode cX10_findBroken 3 = .ok (.getfield 30, 3) := by decide +kernel
theorem dX10_findBroken_6 : decode cX10_findBroken 6 = .ok (.getfield 90, 3) := by decide +kernel
theorem dX10_findBroken_9 : decode cX10_findBroken 9 = .ok (.iconst 1, 1) := by decide +kernel
theorem dX10_findBroken_10 : decode cX10_findBroken 10 = .ok (.isub, 1) := by decide +kernel
theorem dX10_findBroken_11 : decode cX10_findBroken 11 = .ok (.istore_n 2, 1) := by decide +kernel
theorem dX10_findBroken_12 : decode cX10_findBroken 12 = .ok (.iload_n 2, 1) := by decide +kernel
theorem dX10_findBroken_13 : decode cX10_findBroken 13 = .ok (.ifCond .lt 33, 3) := by decide +kernel
theorem dX10_findBroken_16 : decode cX10_findBroken 16 = .ok (.aload_n 0, 1) := by decide +kernel
theorem dX10_findBroken_17 : decode cX10_findBroken 17 = .ok (.getfield 49, 3) := by decide +kernel
theorem dX10_findBroken_20 : decode cX10_findBroken 20 = .ok (.bipush 7, 2) := by decide +kernel
theorem dX10_findBroken_22 : decode cX10_findBroken 22 = .ok (.iload_n 2, 1) := by decide +kernel
theorem dX10_findBroken_23 : decode cX10_findBroken 23 = .ok (.iadd, 1) := by decide +kernel
theorem dX10_findBroken_24 : decode cX10_findBroken 24 = .ok (.iaload, 1) := by decide +kernel
theorem dX10_findBroken_25 : decode cX10_findBroken 25 = .ok (.aload_n 0, 1) := by decide +kernel
theorem dX10_findBroken_26 : decode cX10_findBroken 26 = .ok (.getfield 17, 3) := by decide +kernel
theorem dX10_findBroken_29 : decode cX10_findBroken 29 = .ok (.iload_n 2, 1) := by decide +kernel
theorem dX10_findBroken_30 : decode cX10_findBroken 30 = .ok (.iaload, 1) := by decide +kernel
theorem dX10_findBroken_31 : decode cX10_findBroken 31 = .ok (.if_icmp .lt 9, 3) := by decide +kernel
theorem dX10_findBroken_34 : decode cX10_findBroken 34 = .ok (.iload_n 1, 1) := by decide +kernel
theorem dX10_findBroken_35 : decode cX10_findBroken 35 = .ok (.iconst 1, 1) := by decide +kernel
theorem dX10_findBroken_36 : decode cX10_findBroken 36 = .ok (.iload_n 2, 1) := by decide +kernel
theorem dX10_findBroken_37 : decode cX10_findBroken 37 = .ok (.ishl, 1) := by decide +kernel
theorem dX10_findBroken_38 : decode cX10_findBroken 38 = .ok (.ior, 1) := by decide +kernel
theorem dX10_findBroken_39 : decode cX10_findBroken 39 = .ok (.istore_n 1, 1) := by decide +kernel
theorem dX10_findBroken_40 : decode cX10_findBroken 40 = .ok (.iinc 2 (-1), 3) := by decide +kernel
theorem dX10_findBroken_43 : decode cX10_findBroken 43 = .ok (.goto (-31), 3) := by decide +kernel
theorem dX10_findBroken_46 : decode cX10_findBroken 46 = .ok (.iload_n 1, 1) := by decide +kernel
theorem dX10_findBroken_47 : decode cX10_findBroken 47 = .ok (.ireturn, 1) := by decide +kernel
theorem dX10_doubtBy_0 : decode cX10_doubtBy 0 = .ok (.iconst 0, 1) := by decide +kernel
theorem dX10_doubtBy_1 : decode cX10_doubtBy 1 = .ok (.istore 4, 2) := by decide +kernel
theorem dX10_doubtBy_3 : decode cX10_doubtBy 3 = .ok (.lload_n 1, 1) := by decide +kernel
theorem dX10_doubtBy_4 : decode cX10_doubtBy 4 = .ok (.aload_n 0, 1) := by decide +kernel
theorem dX10_doubtBy_5 : decode cX10_doubtBy 5 = .ok (.getfield 30, 3) := by decide +kernel
theorem dX10_doubtBy_8 : decode cX10_doubtBy 8 = .ok (.getfield 113, 3) := by decide +kernel
theorem dX10_doubtBy_11 : decode cX10_doubtBy 11 = .ok (.getfield 152, 3) := by decide +kernel
theorem dX10_doubtBy_14 : decode cX10_doubtBy 14 = .ok (.land, 1) := by decide +kernel
theorem dX10_doubtBy_15 : decode cX10_doubtBy 15 = .ok (.lconst 0, 1) := by decide +kernel
theorem dX10_doubtBy_16 : decode cX10_doubtBy 16 = .ok (.lcmp, 1) := by decide +kernel
theorem dX10_doubtBy_17 : decode cX10_doubtBy 17 = .ok (.ifCond .eq 14, 3) := by decide +kernel
theorem dX10_doubtBy_20 : decode cX10_doubtBy 20 = .ok (.iload 4, 2) := by decide +kernel
theorem dX10_doubtBy_22 : decode cX10_doubtBy 22 = .ok (.aload_n 0, 1) := by decide +kernel
theorem dX10_doubtBy_23 : decode cX10_doubtBy 23 = .ok (.getfield 49, 3) := by decide +kernel
theorem dX10_doubtBy_26 : decode cX10_doubtBy 26 = .ok (.iconst 4, 1) := by decide +kernel
theorem dX10_doubtBy_27 : decode cX10_doubtBy 27 = .ok (.iaload, 1) := by decide +kernel
theorem dX10_doubtBy_28 : decode cX10_doubtBy 28 = .ok (.ior, 1) := by decide +kernel
theorem dX10_doubtBy_29 : decode cX10_doubtBy 29 = .ok (.istore 4, 2) := by decide +kernel
theorem dX10_doubtBy_31 : decode cX10_doubtBy 31 = .ok (.lload_n 1, 1) := by decide +kernel
theorem dX10_doubtBy_32 : decode cX10_doubtBy 32 = .ok (.aload_n 0, 1) := by decide +kernel
theorem dX10_doubtBy_33 : decode cX10_doubtBy 33 = .ok (.getfield 30, 3) := by decide +kernel
theorem dX10_doubtBy_36 : decode cX10_doubtBy 36 = .ok (.getfield 127, 3) := by decide +kernel
theorem dX10_doubtBy_39 : decode cX10_doubtBy 39 = .ok (.getfield 152, 3) := by decide +kernel
theorem dX10_doubtBy_42 : decode cX10_doubtBy 42 = .ok (.land, 1) := by decide +kernel
theorem dX10_doubtBy_43 : decode cX10_doubtBy 43 = .ok (.lconst 0, 1) := by decide +kernel
theorem dX10_doubtBy_44 : decode cX10_doubtBy 44 = .ok (.lcmp, 1) := by decide +kernel
theorem dX10_doubtBy_45 : decode cX10_doubtBy 45 = .ok (.ifCond .eq 15, 3) := by decide +kernel
theorem dX10_doubtBy_48 : decode cX10_doubtBy 48 = .ok (.iload 4, 2) := by decide +kernel
theorem dX10_doubtBy_50 : decode cX10_doubtBy 50 = .ok (.aload_n 0, 1) := by decide +kernel
theorem dX10_doubtBy_51 : decode cX10_doubtBy 51 = .ok (.getfield 30, 3) := by decide +kernel
theorem dX10_doubtBy_54 : decode cX10_doubtBy 54 = .ok (.getfield 124, 3) := by decide +kernel
theorem dX10_doubtBy_57 : decode cX10_doubtBy 57 = .ok (.ior, 1) := by decide +kernel
theorem dX10_doubtBy_58 : decode cX10_doubtBy 58 = .ok (.istore 4, 2) := by decide +kernel
theorem dX10_doubtBy_60 : decode cX10_doubtBy 60 = .ok (.aload_n 0, 1) := by decide +kernel
theorem dX10_doubtBy_61 : decode cX10_doubtBy 61 = .ok (.iload 4, 2) := by decide +kernel
theorem dX10_doubtBy_63 : decode cX10_doubtBy 63 = .ok (.iload_n 3, 1) := by decide +kernel
theorem dX10_doubtBy_64 : decode cX10_doubtBy 64 = .ok (.iand, 1) := by decide +kernel
theorem dX10_doubtBy_65 : decode cX10_doubtBy 65 = .ok (.invokevirtual 61, 3) := by decide +kernel
theorem dX10_doubtBy_68 : decode cX10_doubtBy 68 = .ok (.return_, 1) := by decide +kernel
theorem dX10_doubt_0 : decode cX10_doubt 0 = .ok (.iconst 0, 1) := by decide +kernel
theorem dX10_doubt_1 : decode cX10_doubt 1 = .ok (.istore_n 2, 1) := by decide +kernel
theorem dX10_doubt_2 : decode cX10_doubt 2 = .ok (.iload_n 1, 1) := by decide +kernel
theorem dX10_doubt_3 : decode cX10_doubt 3 = .ok (.ifCond .eq 35, 3) := by decide +kernel
theorem dX10_doubt_6 : decode cX10_doubt 6 = .ok (.iload_n 2, 1) := by decide +kernel
theorem dX10_doubt_7 : decode cX10_doubt 7 = .ok (.aload_n 0, 1) := by decide +kernel
theorem dX10_doubt_8 : decode cX10_doubt 8 = .ok (.getfield 30, 3) := by decide +kernel
theorem dX10_doubt_11 : decode cX10_doubt 11 = .ok (.getfield 71, 3) := by decide +kernel
theorem dX10_doubt_14 : decode cX10_doubt 14 = .ok (.if_icmp .ge 24, 3) := by decide +kernel
theorem dX10_doubt_17 : decode cX10_doubt 17 = .ok (.aload_n 0, 1) := by decide +kernel
theorem dX10_doubt_18 : decode cX10_doubt 18 = .ok (.getfield 11, 3) := by decide +kernel
theorem dX10_doubt_21 : decode cX10_doubt 21 = .ok (.iload_n 2, 1) := by decide +kernel
theorem dX10_doubt_22 : decode cX10_doubt 22 = .ok (.aaload, 1) := by decide +kernel
theorem dX10_doubt_23 : decode cX10_doubt 23 = .ok (.dup, 1) := by decide +kernel
theorem dX10_doubt_24 : decode cX10_doubt 24 = .ok (.getfield 87, 3) := by decide +kernel
theorem dX10_doubt_27 : decode cX10_doubt 27 = .ok (.iload_n 1, 1) := by decide +kernel
theorem dX10_doubt_28 : decode cX10_doubt 28 = .ok (.ior, 1) := by decide +kernel
theorem dX10_doubt_29 : decode cX10_doubt 29 = .ok (.putfield 87, 3) := by decide +kernel
theorem dX10_doubt_32 : decode cX10_doubt 32 = .ok (.iinc 2 1, 3) := by decide +kernel
theorem dX10_doubt_35 : decode cX10_doubt 35 = .ok (.goto (-33), 3) := by decide +kernel
theorem dX10_doubt_38 : decode cX10_doubt 38 = .ok (.return_, 1) := by decide +kernel
theorem dX10_lookAtNight_0 : decode cX10_lookAtNight 0 = .ok (.aload_n 0, 1) := by decide +kernel
theorem dX10_lookAtNight_1 : decode cX10_lookAtNight 1 = .ok (.getfield 49, 3) := by decide +kernel
theorem dX10_lookAtNight_4 : decode cX10_lookAtNight 4 = .ok (.iconst 0, 1) := by decide +kernel
theorem dX10_lookAtNight_5 : decode cX10_lookAtNight 5 = .ok (.iaload, 1) := by decide +kernel
theorem dX10_lookAtNight_6 : decode cX10_lookAtNight 6 = .ok (.istore_n 1, 1) := by decide +kernel
theorem dX10_lookAtNight_7 : decode cX10_lookAtNight 7 = .ok (.aload_n 0, 1) := by decide +kernel
theorem dX10_lookAtNight_8 : decode cX10_lookAtNight 8 = .ok (.getfield 155, 3) := by decide +kernel
theorem dX10_lookAtNight_11 : decode cX10_lookAtNight 11 = .ok (.lstore_n 2, 1) := by decide +kernel
theorem dX10_lookAtNight_12 : decode cX10_lookAtNight 12 = .ok (.aload_n 0, 1) := by decide +kernel
theorem dX10_lookAtNight_13 : decode cX10_lookAtNight 13 = .ok (.aload_n 0, 1) := by decide +kernel
theorem dX10_lookAtNight_14 : decode cX10_lookAtNight 14 = .ok (.getfield 30, 3) := by decide +kernel
theorem dX10_lookAtNight_17 : decode cX10_lookAtNight 17 = .ok (.getfield 158, 3) := by decide +kernel
theorem dX10_lookAtNight_20 : decode cX10_lookAtNight 20 = .ok (.ifCond .le 29, 3) := by decide +kernel
theorem dX10_lookAtNight_23 : decode cX10_lookAtNight 23 = .ok (.bipush 100, 2) := by decide +kernel
theorem dX10_lookAtNight_25 : decode cX10_lookAtNight 25 = .ok (.aload_n 0, 1) := by decide +kernel
theorem dX10_lookAtNight_26 : decode cX10_lookAtNight 26 = .ok (.getfield 49, 3) := by decide +kernel
theorem dX10_lookAtNight_29 : decode cX10_lookAtNight 29 = .ok (.iconst 5, 1) := by decide +kernel
theorem dX10_lookAtNight_30 : decode cX10_lookAtNight 30 = .ok (.iaload, 1) := by decide +kernel
theorem dX10_lookAtNight_31 : decode cX10_lookAtNight 31 = .ok (.iload_n 1, 1) := by decide +kernel
theorem dX10_lookAtNight_32 : decode cX10_lookAtNight 32 = .ok (.invokestatic 161, 3) := by decide +kernel
theorem dX10_lookAtNight_35 : decode cX10_lookAtNight 35 = .ok (.aload_n 0, 1) := by decide +kernel
theorem dX10_lookAtNight_36 : decode cX10_lookAtNight 36 = .ok (.getfield 30, 3) := by decide +kernel
theorem dX10_lookAtNight_39 : decode cX10_lookAtNight 39 = .ok (.getfield 158, 3) := by decide +kernel
theorem dX10_lookAtNight_42 : decode cX10_lookAtNight 42 = .ok (.if_icmp .ge 7, 3) := by decide +kernel
theorem dX10_lookAtNight_45 : decode cX10_lookAtNight 45 = .ok (.iconst 1, 1) := by decide +kernel
theorem dX10_lookAtNight_46 : decode cX10_lookAtNight 46 = .ok (.goto 4, 3) := by decide +kernel
theorem dX10_lookAtNight_49 : decode cX10_lookAtNight 49 = .ok (.iconst 0, 1) := by decide +kernel
theorem dX10_lookAtNight_50 : decode cX10_lookAtNight 50 = .ok (.putfield 165, 3) := by decide +kernel
theorem dX10_lookAtNight_53 : decode cX10_lookAtNight 53 = .ok (.aload_n 0, 1) := by decide +kernel
theorem dX10_lookAtNight_54 : decode cX10_lookAtNight 54 = .ok (.iload_n 1, 1) := by decide +kernel
theorem dX10_lookAtNight_55 : decode cX10_lookAtNight 55 = .ok (.i2l, 1) := by decide +kernel
theorem dX10_lookAtNight_56 : decode cX10_lookAtNight 56 = .ok (.bipush 32, 2) := by decide +kernel
theorem dX10_lookAtNight_58 : decode cX10_lookAtNight 58 = .ok (.lshl, 1) := by decide +kernel
theorem dX10_lookAtNight_59 : decode cX10_lookAtNight 59 = .ok (.aload_n 0, 1) := by decide +kernel
theorem dX10_lookAtNight_60 : decode cX10_lookAtNight 60 = .ok (.getfield 165, 3) := by decide +kernel
theorem dX10_lookAtNight_63 : decode cX10_lookAtNight 63 = .ok (.i2l, 1) := by decide +kernel
theorem dX10_lookAtNight_64 : decode cX10_lookAtNight 64 = .ok (.bipush 28, 2) := by decide +kernel
theorem dX10_lookAtNight_66 : decode cX10_lookAtNight 66 = .ok (.lshl, 1) := by decide +kernel
theorem dX10_lookAtNight_67 : decode cX10_lookAtNight 67 = .ok (.ladd, 1) := by decide +kernel
theorem dX10_lookAtNight_68 : decode cX10_lookAtNight 68 = .ok (.putfield 155, 3) := by decide +kernel
theorem dX10_lookAtNight_71 : decode cX10_lookAtNight 71 = .ok (.aload_n 0, 1) := by decide +kernel
theorem dX10_lookAtNight_72 : decode cX10_lookAtNight 72 = .ok (.lload_n 2, 1) := by decide +kernel
theorem dX10_lookAtNight_73 : decode cX10_lookAtNight 73 = .ok (.aload_n 0, 1) := by decide +kernel
theorem dX10_lookAtNight_74 : decode cX10_lookAtNight 74 = .ok (.getfield 155, 3) := by decide +kernel
theorem dX10_lookAtNight_77 : decode cX10_lookAtNight 77 = .ok (.lxor, 1) := by decide +kernel
theorem dX10_lookAtNight_78 : decode cX10_lookAtNight 78 = .ok (.iconst (-1), 1) := by decide +kernel
theorem dX10_lookAtNight_79 : decode cX10_lookAtNight 79 = .ok (.invokevirtual 148, 3) := by decide +kernel
theorem dX10_lookAtNight_82 : decode cX10_lookAtNight 82 = .ok (.aload_n 0, 1) := by decide +kernel
theorem dX10_lookAtNight_83 : decode cX10_lookAtNight 83 = .ok (.getfield 155, 3) := by decide +kernel
theorem dX10_lookAtNight_86 : decode cX10_lookAtNight 86 = .ok (.aload_n 0, 1) := by decide +kernel
theorem dX10_lookAtNight_87 : decode cX10_lookAtNight 87 = .ok (.getfield 30, 3) := by decide +kernel
theorem dX10_lookAtNight_90 : decode cX10_lookAtNight 90 = .ok (.getfield 168, 3) := by decide +kernel
theorem dX10_lookAtNight_93 : decode cX10_lookAtNight 93 = .ok (.getfield 152, 3) := by decide +kernel
theorem dX10_lookAtNight_96 : decode cX10_lookAtNight 96 = .ok (.land, 1) := by decide +kernel
theorem dX10_lookAtNight_97 : decode cX10_lookAtNight 97 = .ok (.lstore 4, 2) := by decide +kernel
theorem dX10_lookAtNight_99 : decode cX10_lookAtNight 99 = .ok (.lload 4, 2) := by decide +kernel
theorem dX10_lookAtNight_101 : decode cX10_lookAtNight 101 = .ok (.aload_n 0, 1) := by decide +kernel
theorem dX10_lookAtNight_102 : decode cX10_lookAtNight 102 = .ok (.getfield 36, 3) := by decide +kernel
theorem dX10_lookAtNight_105 : decode cX10_lookAtNight 105 = .ok (.lcmp, 1) := by decide +kernel
theorem dX10_lookAtNight_106 : decode cX10_lookAtNight 106 = .ok (.ifCond .eq 79, 3) := by decide +kernel
theorem dX10_lookAtNight_109 : decode cX10_lookAtNight 109 = .ok (.aload_n 0, 1) := by decide +kernel
theorem dX10_lookAtNight_110 : decode cX10_lookAtNight 110 = .ok (.lload 4, 2) := by decide +kernel
theorem dX10_lookAtNight_112 : decode cX10_lookAtNight 112 = .ok (.putfield 36, 3) := by decide +kernel
theorem dX10_lookAtNight_115 : decode cX10_lookAtNight 115 = .ok (.iconst 0, 1) := by decide +kernel
theorem dX10_lookAtNight_116 : decode cX10_lookAtNight 116 = .ok (.istore 6, 2) := by decide +kernel
theorem dX10_lookAtNight_118 : decode cX10_lookAtNight 118 = .ok (.iload 6, 2) := by decide +kernel
theorem dX10_lookAtNight_120 : decode cX10_lookAtNight 120 = .ok (.aload_n 0, 1) := by decide +kernel
theorem dX10_lookAtNight_121 : decode cX10_lookAtNight 121 = .ok (.getfield 30, 3) := by decide +kernel
theorem dX10_lookAtNight_124 : decode cX10_lookAtNight 124 = .ok (.getfield 90, 3) := by decide +kernel
theorem dX10_lookAtNight_127 : decode cX10_lookAtNight 127 = .ok (.if_icmp .ge 33, 3) := by decide +kernel
theorem dX10_lookAtNight_130 : decode cX10_lookAtNight 130 = .ok (.aload_n 0, 1) := by decide +kernel
theorem dX10_lookAtNight_131 : decode cX10_lookAtNight 131 = .ok (.getfield 17, 3) := by decide +kernel
theorem dX10_lookAtNight_134 : decode cX10_lookAtNight 134 = .ok (.iload 6, 2) := by decide +kernel
theorem dX10_lookAtNight_136 : decode cX10_lookAtNight 136 = .ok (.aload_n 0, 1) := by decide +kernel
theorem dX10_lookAtNight_137 : decode cX10_lookAtNight 137 = .ok (.aload_n 0, 1) := by decide +kernel
theorem dX10_lookAtNight_138 : decode cX10_lookAtNight 138 = .ok (.getfield 30, 3) := by decide +kernel
theorem dX10_lookAtNight_141 : decode cX10_lookAtNight 141 = .ok (.getfield 168, 3) := by decide +kernel
theorem dX10_lookAtNight_144 : decode cX10_lookAtNight 144 = .ok (.iconst 0, 1) := by decide +kernel
theorem dX10_lookAtNight_145 : decode cX10_lookAtNight 145 = .ok (.iload 6, 2) := by decide +kernel
theorem dX10_lookAtNight_147 : decode cX10_lookAtNight 147 = .ok (.sipush 999, 3) := by decide +kernel
theorem dX10_lookAtNight_150 : decode cX10_lookAtNight 150 = .ok (.invokevirtual 117, 3) := by decide +kernel
theorem dX10_lookAtNight_153 : decode cX10_lookAtNight 153 = .ok (.iastore, 1) := by decide +kernel
theorem dX10_lookAtNight_154 : decode cX10_lookAtNight 154 = .ok (.iinc 6 1, 3) := by decide +kernel
theorem dX10_lookAtNight_157 : decode cX10_lookAtNight 157 = .ok (.goto (-39), 3) := by decide +kernel
theorem dX10_lookAtNight_160 : decode cX10_lookAtNight 160 = .ok (.aload_n 0, 1) := by decide +kernel
theorem dX10_lookAtNight_161 : decode cX10_lookAtNight 161 = .ok (.getfield 57, 3) := by decide +kernel
theorem dX10_lookAtNight_164 : decode cX10_lookAtNight 164 = .ok (.istore 6, 2) := by decide +kernel
theorem dX10_lookAtNight_166 : decode cX10_lookAtNight 166 = .ok (.aload_n 0, 1) := by decide +kernel
theorem dX10_lookAtNight_167 : decode cX10_lookAtNight 167 = .ok (.aload_n 0, 1) := by decide +kernel
theorem dX10_lookAtNight_168 : decode cX10_lookAtNight 168 = .ok (.invokevirtual 53, 3) := by decide +kernel
theorem dX10_lookAtNight_171 : decode cX10_lookAtNight 171 = .ok (.putfield 57, 3) := by decide +kernel
theorem dX10_lookAtNight_174 : decode cX10_lookAtNight 174 = .ok (.aload_n 0, 1) := by decide +kernel
theorem dX10_lookAtNight_175 : decode cX10_lookAtNight 175 = .ok (.iload 6, 2) := by decide +kernel
theorem dX10_lookAtNight_177 : decode cX10_lookAtNight 177 = .ok (.aload_n 0, 1) := by decide +kernel
theorem dX10_lookAtNight_178 : decode cX10_lookAtNight 178 = .ok (.getfield 57, 3) := by decide +kernel
theorem dX10_lookAtNight_181 : decode cX10_lookAtNight 181 = .ok (.ixor, 1) := by decide +kernel
theorem dX10_lookAtNight_182 : decode cX10_lookAtNight 182 = .ok (.invokevirtual 61, 3) := by decide +kernel
theorem dX10_lookAtNight_185 : decode cX10_lookAtNight 185 = .ok (.return_, 1) := by decide +kernel
theorem dX10_said_0 : decode cX10_said 0 = .ok (.aload_n 0, 1) := by decide +kernel
theorem dX10_said_1 : decode cX10_said 1 = .ok (.getfield 49, 3) := by decide +kernel
theorem dX10_said_4 : decode cX10_said 4 = .ok (.iconst 1, 1) := by decide +kernel
theorem dX10_said_5 : decode cX10_said 5 = .ok (.iload_n 3, 1) := by decide +kernel
theorem dX10_said_6 : decode cX10_said 6 = .ok (.iconst 1, 1) := by decide +kernel
theorem dX10_said_7 : decode cX10_said 7 = .ok (.iand, 1) := by decide +kernel
theorem dX10_said_8 : decode cX10_said 8 = .ok (.iadd, 1) := by decide +kernel
theorem dX10_said_9 : decode cX10_said 9 = .ok (.iaload, 1) := by decide +kernel
theorem dX10_said_10 : decode cX10_said 10 = .ok (.istore 5, 2) := by decide +kernel
theorem dX10_said_12 : decode cX10_said 12 = .ok (.aload_n 0, 1) := by decide +kernel
theorem dX10_said_13 : decode cX10_said 13 = .ok (.getfield 49, 3) := by decide +kernel
theorem dX10_said_16 : decode cX10_said 16 = .ok (.bipush 7, 2) := by decide +kernel
theorem dX10_said_18 : decode cX10_said 18 = .ok (.iload_n 3, 1) := by decide +kernel
theorem dX10_said_19 : decode cX10_said 19 = .ok (.iadd, 1) := by decide +kernel
theorem dX10_said_20 : decode cX10_said 20 = .ok (.iaload, 1) := by decide +kernel
theorem dX10_said_21 : decode cX10_said 21 = .ok (.istore 6, 2) := by decide +kernel
theorem dX10_said_23 : decode cX10_said 23 = .ok (.aload_n 0, 1) := by decide +kernel
theorem dX10_said_24 : decode cX10_said 24 = .ok (.getfield 155, 3) := by decide +kernel
theorem dX10_said_27 : decode cX10_said 27 = .ok (.iload 5, 2) := by decide +kernel
theorem dX10_said_29 : decode cX10_said 29 = .ok (.i2l, 1) := by decide +kernel
theorem dX10_said_30 : decode cX10_said 30 = .ok (.bipush 24, 2) := by decide +kernel
theorem dX10_said_32 : decode cX10_said 32 = .ok (.lshl, 1) := by decide +kernel
theorem dX10_said_33 : decode cX10_said 33 = .ok (.ladd, 1) := by decide +kernel
theorem dX10_said_34 : decode cX10_said 34 = .ok (.iload 6, 2) := by decide +kernel
theorem dX10_said_36 : decode cX10_said 36 = .ok (.i2l, 1) := by decide +kernel
theorem dX10_said_37 : decode cX10_said 37 = .ok (.ladd, 1) := by decide +kernel
theorem dX10_said_38 : decode cX10_said 38 = .ok (.aload_n 1, 1) := by decide +kernel
theorem dX10_said_39 : decode cX10_said 39 = .ok (.getfield 152, 3) := by decide +kernel
theorem dX10_said_42 : decode cX10_said 42 = .ok (.land, 1) := by decide +kernel
theorem dX10_said_43 : decode cX10_said 43 = .ok (.lstore 7, 2) := by decide +kernel
theorem dX10_said_45 : decode cX10_said 45 = .ok (.iload_n 2, 1) := by decide +kernel
theorem dX10_said_46 : decode cX10_said 46 = .ok (.bipush 12, 2) := by decide +kernel
theorem dX10_said_48 : decode cX10_said 48 = .ok (.imul, 1) := by decide +kernel
theorem dX10_said_49 : decode cX10_said 49 = .ok (.iload_n 3, 1) := by decide +kernel
theorem dX10_said_50 : decode cX10_said 50 = .ok (.iadd, 1) := by decide +kernel
theorem dX10_said_51 : decode cX10_said 51 = .ok (.istore 9, 2) := by decide +kernel
theorem dX10_said_53 : decode cX10_said 53 = .ok (.aload_n 1, 1) := by decide +kernel
theorem dX10_said_54 : decode cX10_said 54 = .ok (.getfield 171, 3) := by decide +kernel
theorem dX10_said_57 : decode cX10_said 57 = .ok (.iload 9, 2) := by decide +kernel
theorem dX10_said_59 : decode cX10_said 59 = .ok (.laload, 1) := by decide +kernel
theorem dX10_said_60 : decode cX10_said 60 = .ok (.lload 7, 2) := by decide +kernel
theorem dX10_said_62 : decode cX10_said 62 = .ok (.lcmp, 1) := by decide +kernel
theorem dX10_said_63 : decode cX10_said 63 = .ok (.ifCond .ne 11, 3) := by decide +kernel
theorem dX10_said_66 : decode cX10_said 66 = .ok (.aload_n 1, 1) := by decide +kernel
theorem dX10_said_67 : decode cX10_said 67 = .ok (.getfield 175, 3) := by decide +kernel
theorem dX10_said_70 : decode cX10_said 70 = .ok (.iload 9, 2) := by decide +kernel
theorem dX10_said_72 : decode cX10_said 72 = .ok (.iaload, 1) := by decide +kernel
theorem dX10_said_73 : decode cX10_said 73 = .ok (.ireturn, 1) := by decide +kernel
theorem dX10_said_74 : decode cX10_said 74 = .ok (.aload_n 0, 1) := by decide +kernel
theorem dX10_said_75 : decode cX10_said 75 = .ok (.getfield 23, 3) := by decide +kernel
theorem dX10_said_78 : decode cX10_said 78 = .ok (.iconst 0, 1) := by decide +kernel
theorem dX10_said_79 : decode cX10_said 79 = .ok (.aload_n 0, 1) := by decide +kernel
theorem dX10_said_80 : decode cX10_said 80 = .ok (.getfield 30, 3) := by decide +kernel
theorem dX10_said_83 : decode cX10_said 83 = .ok (.getfield 178, 3) := by decide +kernel
theorem dX10_said_86 : decode cX10_said 86 = .ok (.iload_n 2, 1) := by decide +kernel
theorem dX10_said_87 : decode cX10_said 87 = .ok (.iaload, 1) := by decide +kernel
theorem dX10_said_88 : decode cX10_said 88 = .ok (.iastore, 1) := by decide +kernel
theorem dX10_said_89 : decode cX10_said 89 = .ok (.aload_n 0, 1) := by decide +kernel
theorem dX10_said_90 : decode cX10_said 90 = .ok (.getfield 23, 3) := by decide +kernel
theorem dX10_said_93 : decode cX10_said 93 = .ok (.iconst 1, 1) := by decide +kernel
theorem dX10_said_94 : decode cX10_said 94 = .ok (.aload_n 0, 1) := by decide +kernel
theorem dX10_said_95 : decode cX10_said 95 = .ok (.getfield 30, 3) := by decide +kernel
theorem dX10_said_98 : decode cX10_said 98 = .ok (.getfield 143, 3) := by decide +kernel
theorem dX10_said_101 : decode cX10_said 101 = .ok (.iload_n 2, 1) := by decide +kernel
theorem dX10_said_102 : decode cX10_said 102 = .ok (.iaload, 1) := by decide +kernel
theorem dX10_said_103 : decode cX10_said 103 = .ok (.iastore, 1) := by decide +kernel
theorem dX10_said_104 : decode cX10_said 104 = .ok (.aload_n 0, 1) := by decide +kernel
theorem dX10_said_105 : decode cX10_said 105 = .ok (.getfield 23, 3) := by decide +kernel
theorem dX10_said_108 : decode cX10_said 108 = .ok (.iconst 2, 1) := by decide +kernel
theorem dX10_said_109 : decode cX10_said 109 = .ok (.aload_n 0, 1) := by decide +kernel
theorem dX10_said_110 : decode cX10_said 110 = .ok (.getfield 30, 3) := by decide +kernel
theorem dX10_said_113 : decode cX10_said 113 = .ok (.getfield 181, 3) := by decide +kernel
theorem dX10_said_116 : decode cX10_said 116 = .ok (.iload_n 2, 1) := by decide +kernel
theorem dX10_said_117 : decode cX10_said 117 = .ok (.iaload, 1) := by decide +kernel
theorem dX10_said_118 : decode cX10_said 118 = .ok (.iastore, 1) := by decide +kernel
theorem dX10_said_119 : decode cX10_said 119 = .ok (.aload_n 0, 1) := by decide +kernel
theorem dX10_said_120 : decode cX10_said 120 = .ok (.getfield 23, 3) := by decide +kernel
theorem dX10_said_123 : decode cX10_said 123 = .ok (.iconst 3, 1) := by decide +kernel
theorem dX10_said_124 : decode cX10_said 124 = .ok (.aload_n 0, 1) := by decide +kernel
theorem dX10_said_125 : decode cX10_said 125 = .ok (.getfield 165, 3) := by decide +kernel
theorem dX10_said_128 : decode cX10_said 128 = .ok (.iastore, 1) := by decide +kernel
theorem dX10_said_129 : decode cX10_said 129 = .ok (.aload_n 0, 1) := by decide +kernel
theorem dX10_said_130 : decode cX10_said 130 = .ok (.getfield 23, 3) := by decide +kernel
theorem dX10_said_133 : decode cX10_said 133 = .ok (.iconst 4, 1) := by decide +kernel
theorem dX10_said_134 : decode cX10_said 134 = .ok (.iload 5, 2) := by decide +kernel
theorem dX10_said_136 : decode cX10_said 136 = .ok (.iastore, 1) := by decide +kernel
theorem dX10_said_137 : decode cX10_said 137 = .ok (.aload_n 0, 1) := by decide +kernel
theorem dX10_said_138 : decode cX10_said 138 = .ok (.getfield 23, 3) := by decide +kernel
theorem dX10_said_141 : decode cX10_said 141 = .ok (.iconst 5, 1) := by decide +kernel
theorem dX10_said_142 : decode cX10_said 142 = .ok (.aload_n 0, 1) := by decide +kernel
theorem dX10_said_143 : decode cX10_said 143 = .ok (.getfield 30, 3) := by decide +kernel
theorem dX10_said_146 : decode cX10_said 146 = .ok (.getfield 110, 3) := by decide +kernel
theorem dX10_said_149 : decode cX10_said 149 = .ok (.iload_n 3, 1) := by decide +kernel
theorem dX10_said_150 : decode cX10_said 150 = .ok (.iaload, 1) := by decide +kernel
theorem dX10_said_151 : decode cX10_said 151 = .ok (.iastore, 1) := by decide +kernel
theorem dX10_said_152 : decode cX10_said 152 = .ok (.aload_n 0, 1) := by decide +kernel
theorem dX10_said_153 : decode cX10_said 153 = .ok (.getfield 23, 3) := by decide +kernel
theorem dX10_said_156 : decode cX10_said 156 = .ok (.bipush 6, 2) := by decide +kernel
theorem dX10_said_158 : decode cX10_said 158 = .ok (.iload 6, 2) := by decide +kernel
theorem dX10_said_160 : decode cX10_said 160 = .ok (.iastore, 1) := by decide +kernel
theorem dX10_said_161 : decode cX10_said 161 = .ok (.aload_n 0, 1) := by decide +kernel
theorem dX10_said_162 : decode cX10_said 162 = .ok (.getfield 23, 3) := by decide +kernel
theorem dX10_said_165 : decode cX10_said 165 = .ok (.bipush 7, 2) := by decide +kernel
theorem dX10_said_167 : decode cX10_said 167 = .ok (.iload_n 3, 1) := by decide +kernel
theorem dX10_said_168 : decode cX10_said 168 = .ok (.iastore, 1) := by decide +kernel
theorem dX10_said_169 : decode cX10_said 169 = .ok (.aload_n 0, 1) := by decide +kernel
theorem dX10_said_170 : decode cX10_said 170 = .ok (.getfield 23, 3) := by decide +kernel
theorem dX10_said_173 : decode cX10_said 173 = .ok (.bipush 8, 2) := by decide +kernel
theorem dX10_said_175 : decode cX10_said 175 = .ok (.aload_n 0, 1) := by decide +kernel
theorem dX10_said_176 : decode cX10_said 176 = .ok (.getfield 49, 3) := by decide +kernel
theorem dX10_said_179 : decode cX10_said 179 = .ok (.iconst 0, 1) := by decide +kernel
theorem dX10_said_180 : decode cX10_said 180 = .ok (.iaload, 1) := by decide +kernel
theorem dX10_said_181 : decode cX10_said 181 = .ok (.iastore, 1) := by decide +kernel
theorem dX10_said_182 : decode cX10_said 182 = .ok (.iconst 0, 1) := by decide +kernel
theorem dX10_said_183 : decode cX10_said 183 = .ok (.iload 4, 2) := by decide +kernel
theorem dX10_said_185 : decode cX10_said 185 = .ok (.aload_n 1, 1) := by decide +kernel
theorem dX10_said_186 : decode cX10_said 186 = .ok (.aload_n 0, 1) := by decide +kernel
theorem dX10_said_187 : decode cX10_said 187 = .ok (.getfield 23, 3) := by decide +kernel
theorem dX10_said_190 : decode cX10_said 190 = .ok (.aload_n 0, 1) := by decide +kernel
theorem dX10_said_191 : decode cX10_said 191 = .ok (.getfield 26, 3) := by decide +kernel
theorem dX10_said_194 : decode cX10_said 194 = .ok (.invokevirtual 184, 3) := by decide +kernel
theorem dX10_said_197 : decode cX10_said 197 = .ok (.invokestatic 135, 3) := by decide +kernel
theorem dX10_said_200 : decode cX10_said 200 = .ok (.invokestatic 188, 3) := by decide +kernel
theorem dX10_said_203 : decode cX10_said 203 = .ok (.istore 10, 2) := by decide +kernel
theorem dX10_said_205 : decode cX10_said 205 = .ok (.aload_n 1, 1) := by decide +kernel
theorem dX10_said_206 : decode cX10_said 206 = .ok (.getfield 171, 3) := by decide +kernel
theorem dX10_said_209 : decode cX10_said 209 = .ok (.iload 9, 2) := by decide +kernel
theorem dX10_said_211 : decode cX10_said 211 = .ok (.lload 7, 2) := by decide +kernel
theorem dX10_said_213 : decode cX10_said 213 = .ok (.lastore, 1) := by decide +kernel
theorem dX10_said_214 : decode cX10_said 214 = .ok (.aload_n 1, 1) := by decide +kernel
theorem dX10_said_215 : decode cX10_said 215 = .ok (.getfield 175, 3) := by decide +kernel
theorem dX10_said_218 : decode cX10_said 218 = .ok (.iload 9, 2) := by decide +kernel
theorem dX10_said_220 : decode cX10_said 220 = .ok (.iload 10, 2) := by decide +kernel
theorem dX10_said_222 : decode cX10_said 222 = .ok (.iastore, 1) := by decide +kernel
theorem dX10_said_223 : decode cX10_said 223 = .ok (.iload 10, 2) := by decide +kernel
theorem dX10_said_225 : decode cX10_said 225 = .ok (.ireturn, 1) := by decide +kernel
theorem dX10_lot_0 : decode cX10_lot 0 = .ok (.iload_n 1, 1) := by decide +kernel
theorem dX10_lot_1 : decode cX10_lot 1 = .ok (.bipush 73, 2) := by decide +kernel
theorem dX10_lot_3 : decode cX10_lot 3 = .ok (.invokestatic 191, 3) := by decide +kernel
theorem dX10_lot_6 : decode cX10_lot 6 = .ok (.iload_n 2, 1) := by decide +kernel
theorem dX10_lot_7 : decode cX10_lot 7 = .ok (.invokestatic 191, 3) := by decide +kernel
theorem dX10_lot_10 : decode cX10_lot 10 = .ok (.istore_n 3, 1) := by decide +kernel
theorem dX10_lot_11 : decode cX10_lot 11 = .ok (.iload_n 0, 1) := by decide +kernel
theorem dX10_lot_12 : decode cX10_lot 12 = .ok (.ifCond .le 11, 3) := by decide +kernel
theorem dX10_lot_15 : decode cX10_lot 15 = .ok (.iload_n 3, 1) := by decide +kernel
theorem dX10_lot_16 : decode cX10_lot 16 = .ok (.iconst 1, 1) := by decide +kernel
theorem dX10_lot_17 : decode cX10_lot 17 = .ok (.iushr, 1) := by decide +kernel
theorem dX10_lot_18 : decode cX10_lot 18 = .ok (.iload_n 0, 1) := by decide +kernel
theorem dX10_lot_19 : decode cX10_lot 19 = .ok (.irem, 1) := by decide +kernel
theorem dX10_lot_20 : decode cX10_lot 20 = .ok (.goto 4, 3) := by decide +kernel
theorem dX10_lot_23 : decode cX10_lot 23 = .ok (.iconst 0, 1) := by decide +kernel
theorem dX10_lot_24 : decode cX10_lot 24 = .ok (.ireturn, 1) := by decide +kernel
theorem dX10_stirred_0 : decode cX10_stirred 0 = .ok (.iload_n 0, 1) := by decide +kernel
theorem dX10_stirred_1 : decode cX10_stirred 1 = .ok (.iload_n 1, 1) := by decide +kernel
theorem dX10_stirred_2 : decode cX10_stirred 2 = .ok (.ixor, 1) := by decide +kernel
theorem dX10_stirred_3 : decode cX10_stirred 3 = .ok (.ldc 194, 2) := by decide +kernel
theorem dX10_stirred_5 : decode cX10_stirred 5 = .ok (.imul, 1) := by decide +kernel
theorem dX10_stirred_6 : decode cX10_stirred 6 = .ok (.sipush 12345, 3) := by decide +kernel
theorem dX10_stirred_9 : decode cX10_stirred 9 = .ok (.iadd, 1) := by decide +kernel
theorem dX10_stirred_10 : decode cX10_stirred 10 = .ok (.istore_n 2, 1) := by decide +kernel
theorem dX10_stirred_11 : decode cX10_stirred 11 = .ok (.iload_n 2, 1) := by decide +kernel
theorem dX10_stirred_12 : decode cX10_stirred 12 = .ok (.iload_n 2, 1) := by decide +kernel
theorem dX10_stirred_13 : decode cX10_stirred 13 = .ok (.bipush 15, 2) := by decide +kernel
theorem dX10_stirred_15 : decode cX10_stirred 15 = .ok (.iushr, 1) := by decide +kernel
theorem dX10_stirred_16 : decode cX10_stirred 16 = .ok (.ixor, 1) := by decide +kernel
theorem dX10_stirred_17 : decode cX10_stirred 17 = .ok (.ireturn, 1) := by decide +kernel
theorem dX11_init_0 : decode cX11_init 0 = .ok (.aload_n 0, 1) := by decide +kernel
theorem dX11_init_1 : decode cX11_init 1 = .ok (.invokespecial 1, 3) := by decide +kernel
theorem dX11_init_4 : decode cX11_init 4 = .ok (.aload_n 0, 1) := by decide +kernel
theorem dX11_init_5 : decode cX11_init 5 = .ok (.new 7, 3) := by decide +kernel
theorem dX11_init_8 : decode cX11_init 8 = .ok (.dup, 1) := by decide +kernel
theorem dX11_init_9 : decode cX11_init 9 = .ok (.invokespecial 9, 3) := by decide +kernel
theorem dX11_init_12 : decode cX11_init 12 = .ok (.putfield 10, 3) := by decide +kernel
theorem dX11_init_15 : decode cX11_init 15 = .ok (.aload_n 0, 1) := by decide +kernel
theorem dX11_init_16 : decode cX11_init 16 = .ok (.new 16, 3) := by decide +kernel
theorem dX11_init_19 : decode cX11_init 19 = .ok (.dup, 1) := by decide +kernel
theorem dX11_init_20 : decode cX11_init 20 = .ok (.invokespecial 18, 3) := by decide +kernel
theorem dX11_init_23 : decode cX11_init 23 = .ok (.putfield 19, 3) := by decide +kernel
theorem dX11_init_26 : decode cX11_init 26 = .ok (.aload_n 0, 1) := by decide +kernel
theorem dX11_init_27 : decode cX11_init 27 = .ok (.new 23, 3) := by decide +kernel
theorem dX11_init_30 : decode cX11_init 30 = .ok (.dup, 1) := by decide +kernel
theorem dX11_init_31 : decode cX11_init 31 = .ok (.invokespecial 25, 3) := by decide +kernel
theorem dX11_init_34 : decode cX11_init 34 = .ok (.putfield 26, 3) := by decide +kernel
theorem dX11_init_37 : decode cX11_init 37 = .ok (.aload_n 0, 1) := by decide +kernel
theorem dX11_init_38 : decode cX11_init 38 = .ok (.new 30, 3) := by decide +kernel
theorem dX11_init_41 : decode cX11_init 41 = .ok (.dup, 1) := by decide +kernel
theorem dX11_init_42 : decode cX11_init 42 = .ok (.invokespecial 32, 3) := by decide +kernel
theorem dX11_init_45 : decode cX11_init 45 = .ok (.putfield 33, 3) := by decide +kernel
theorem dX11_init_48 : decode cX11_init 48 = .ok (.aload_n 0, 1) := by decide +kernel
theorem dX11_init_49 : decode cX11_init 49 = .ok (.new 37, 3) := by decide +kernel
theorem dX11_init_52 : decode cX11_init 52 = .ok (.dup, 1) := by decide +kernel
theorem dX11_init_53 : decode cX11_init 53 = .ok (.invokespecial 39, 3) := by decide +kernel
theorem dX11_init_56 : decode cX11_init 56 = .ok (.putfield 40, 3) := by decide +kernel
theorem dX11_init_59 : decode cX11_init 59 = .ok (.aload_n 0, 1) := by decide +kernel
theorem dX11_init_60 : decode cX11_init 60 = .ok (.new 44, 3) := by decide +kernel
theorem dX11_init_63 : decode cX11_init 63 = .ok (.dup, 1) := by decide +kernel
theorem dX11_init_64 : decode cX11_init 64 = .ok (.aload_n 0, 1) := by decide +kernel
theorem dX11_init_65 : decode cX11_init 65 = .ok (.getfield 26, 3) := by decide +kernel
theorem dX11_init_68 : decode cX11_init 68 = .ok (.aload_n 0, 1) := by decide +kernel
theorem dX11_init_69 : decode cX11_init 69 = .ok (.getfield 33, 3) := by decide +kernel
theorem dX11_init_72 : decode cX11_init 72 = .ok (.invokespecial 46, 3) := by decide +kernel
theorem dX11_init_75 : decode cX11_init 75 = .ok (.putfield 49, 3) := by decide +kernel
theorem dX11_init_78 : decode cX11_init 78 = .ok (.aload_n 0, 1) := by decide +kernel
theorem dX11_init_79 : decode cX11_init 79 = .ok (.new 53, 3) := by decide +kernel
theorem dX11_init_82 : decode cX11_init 82 = .ok (.dup, 1) := by decide +kernel
theorem dX11_init_83 : decode cX11_init 83 = .ok (.aload_n 0, 1) := by decide +kernel
theorem dX11_init_84 : decode cX11_init 84 = .ok (.getfield 26, 3) := by decide +kernel
theorem dX11_init_87 : decode cX11_init 87 = .ok (.invokespecial 55, 3) := by decide +kernel
theorem dX11_init_90 : decode cX11_init 90 = .ok (.putfield 58, 3) := by decide +kernel
theorem dX11_init_93 : decode cX11_init 93 = .ok (.aload_n 0, 1) := by decide +kernel
theorem dX11_init_94 : decode cX11_init 94 = .ok (.new 62, 3) := by decide +kernel
theorem dX11_init_97 : decode cX11_init 97 = .ok (.dup, 1) := by decide +kernel
theorem dX11_init_98 : decode cX11_init 98 = .ok (.invokespecial 64, 3) := by decide +kernel
theorem dX11_init_101 : decode cX11_init 101 = .ok (.putfield 65, 3) := by decide +kernel
theorem dX11_init_104 : decode cX11_init 104 = .ok (.aload_n 0, 1) := by decide +kernel
theorem dX11_init_105 : decode cX11_init 105 = .ok (.iconst (-1), 1) := by decide +kernel
theorem dX11_init_106 : decode cX11_init 106 = .ok (.putfield 69, 3) := by decide +kernel
theorem dX11_init_109 : decode cX11_init 109 = .ok (.new 62, 3) := by decide +kernel
theorem dX11_init_112 : decode cX11_init 112 = .ok (.dup, 1) := by decide +kernel
theorem dX11_init_113 : decode cX11_init 113 = .ok (.invokespecial 64, 3) := by decide +kernel
theorem dX11_init_116 : decode cX11_init 116 = .ok (.astore_n 1, 1) := by decide +kernel
theorem dX11_init_117 : decode cX11_init 117 = .ok (.aload_n 1, 1) := by decide +kernel
theorem dX11_init_118 : decode cX11_init 118 = .ok (.invokevirtual 73, 3) := by decide +kernel
theorem dX11_init_121 : decode cX11_init 121 = .ok (.aload_n 0, 1) := by decide +kernel
theorem dX11_init_122 : decode cX11_init 122 = .ok (.getfield 26, 3) := by decide +kernel
theorem dX11_init_125 : decode cX11_init 125 = .ok (.aload_n 1, 1) := by decide +kernel
theorem dX11_init_126 : decode cX11_init 126 = .ok (.invokevirtual 76, 3) := by decide +kernel
theorem dX11_init_129 : decode cX11_init 129 = .ok (.aload_n 0, 1) := by decide +kernel
theorem dX11_init_130 : decode cX11_init 130 = .ok (.getfield 33, 3) := by decide +kernel
theorem dX11_init_133 : decode cX11_init 133 = .ok (.aload_n 1, 1) := by decide +kernel
theorem dX11_init_134 : decode cX11_init 134 = .ok (.invokevirtual 80, 3) := by decide +kernel
theorem dX11_init_137 : decode cX11_init 137 = .ok (.aload_n 0, 1) := by decide +kernel
theorem dX11_init_138 : decode cX11_init 138 = .ok (.getfield 26, 3) := by decide +kernel
theorem dX11_init_141 : decode cX11_init 141 = .ok (.aload_n 0, 1) := by decide +kernel
theorem dX11_init_142 : decode cX11_init 142 = .ok (.getfield 33, 3) := by decide +kernel
theorem dX11_init_145 : decode cX11_init 145 = .ok (.invokevirtual 81, 3) := by decide +kernel
theorem dX11_init_148 : decode cX11_init 148 = .ok (.return_, 1) := by decide +kernel
theorem dX11_feed_0 : decode cX11_feed 0 = .ok (.aload_n 0, 1) := by decide +kernel
theorem dX11_feed_1 : decode cX11_feed 1 = .ok (.getfield 10, 3) := by decide +kernel
theorem dX11_feed_4 : decode cX11_feed 4 = .ok (.getfield 85, 3) := by decide +kernel
theorem dX11_feed_7 : decode cX11_feed 7 = .ok (.bipush 20, 2) := by decide +kernel
theorem dX11_feed_9 : decode cX11_feed 9 = .ok (.iadd, 1) := by decide +kernel
theorem dX11_feed_10 : decode cX11_feed 10 = .ok (.sipush 2000, 3) := by decide +kernel
theorem dX11_feed_13 : decode cX11_feed 13 = .ok (.if_icmp .le 5, 3) := by decide +kernel
theorem dX11_feed_16 : decode cX11_feed 16 = .ok (.iconst (-1), 1) := by decide +kernel
theorem dX11_feed_17 : decode cX11_feed 17 = .ok (.ireturn, 1) := by decide +kernel
theorem dX11_feed_18 : decode cX11_feed 18 = .ok (.aload_n 0, 1) := by decide +kernel
theorem dX11_feed_19 : decode cX11_feed 19 = .ok (.getfield 10, 3) := by decide +kernel
theorem dX11_feed_22 : decode cX11_feed 22 = .ok (.iload_n 1, 1) := by decide +kernel
theorem dX11_feed_23 : decode cX11_feed 23 = .ok (.invokevirtual 88, 3) := by decide +kernel
theorem dX11_feed_26 : decode cX11_feed 26 = .ok (.aload_n 0, 1) := by decide +kernel
theorem dX11_feed_27 : decode cX11_feed 27 = .ok (.getfield 10, 3) := by decide +kernel
theorem dX11_feed_30 : decode cX11_feed 30 = .ok (.iload_n 2, 1) := by decide +kernel
theorem dX11_feed_31 : decode cX11_feed 31 = .ok (.invokevirtual 88, 3) := by decide +kernel
theorem dX11_feed_34 : decode cX11_feed 34 = .ok (.aload_n 0, 1) := by decide +kernel
theorem dX11_feed_35 : decode cX11_feed 35 = .ok (.getfield 10, 3) := by decide +kernel
theorem dX11_feed_38 : decode cX11_feed 38 = .ok (.iload_n 3, 1) := by decide +kernel
theorem dX11_feed_39 : decode cX11_feed 39 = .ok (.invokevirtual 88, 3) := by decide +kernel
theorem dX11_feed_42 : decode cX11_feed 42 = .ok (.aload_n 0, 1) := by decide +kernel
theorem dX11_feed_43 : decode cX11_feed 43 = .ok (.getfield 10, 3) := by decide +kernel
theorem dX11_feed_46 : decode cX11_feed 46 = .ok (.iload 4, 2) := by decide +kernel
theorem dX11_feed_48 : decode cX11_feed 48 = .ok (.invokevirtual 88, 3) := by decide +kernel
theorem dX11_feed_51 : decode cX11_feed 51 = .ok (.aload_n 0, 1) := by decide +kernel
theorem dX11_feed_52 : decode cX11_feed 52 = .ok (.getfield 10, 3) := by decide +kernel
theorem dX11_feed_55 : decode cX11_feed 55 = .ok (.iload 5, 2) := by decide +kernel
theorem dX11_feed_57 : decode cX11_feed 57 = .ok (.invokevirtual 88, 3) := by decide +kernel
theorem dX11_feed_60 : decode cX11_feed 60 = .ok (.aload_n 0, 1) := by decide +kernel
theorem dX11_feed_61 : decode cX11_feed 61 = .ok (.getfield 10, 3) := by decide +kernel
theorem dX11_feed_64 : decode cX11_feed 64 = .ok (.getfield 85, 3) := by decide +kernel
theorem dX11_feed_67 : decode cX11_feed 67 = .ok (.ireturn, 1) := by decide +kernel
theorem dX11_back_0 : decode cX11_back 0 = .ok (.iload_n 1, 1) := by decide +kernel
theorem dX11_back_1 : decode cX11_back 1 = .ok (.ifCond .lt 14, 3) := by decide +kernel
theorem dX11_back_4 : decode cX11_back 4 = .ok (.iload_n 1, 1) := by decide +kernel
theorem dX11_back_5 : decode cX11_back 5 = .ok (.aload_n 0, 1) := by decide +kernel
theorem dX11_back_6 : decode cX11_back 6 = .ok (.getfield 10, 3) := by decide +kernel
theorem dX11_back_9 : decode cX11_back 9 = .ok (.getfield 85, 3) := by decide +kernel
theorem dX11_back_12 : decode cX11_back 12 = .ok (.if_icmp .le 5, 3) := by decide +kernel
theorem dX11_back_15 : decode cX11_back 15 = .ok (.iconst (-1), 1) := by decide +kernel
theorem dX11_back_16 : decode cX11_back 16 = .ok (.ireturn, 1) := by decide +kernel
theorem dX11_back_17 : decode cX11_back 17 = .ok (.aload_n 0, 1) := by decide +kernel
theorem dX11_back_18 : decode cX11_back 18 = .ok (.getfield 10, 3) := by decide +kernel
theorem dX11_back_21 : decode cX11_back 21 = .ok (.dup, 1) := by decide +kernel
theorem dX11_back_22 : decode cX11_back 22 = .ok (.getfield 85, 3) := by decide +kernel
theorem dX11_back_25 : decode cX11_back 25 = .ok (.iload_n 1, 1) := by decide +kernel
theorem dX11_back_26 : decode cX11_back 26 = .ok (.isub, 1) := by decide +kernel
theorem dX11_back_27 : decode cX11_back 27 = .ok (.putfield 85, 3) := by decide +kernel
theorem dX11_back_30 : decode cX11_back 30 = .ok (.aload_n 0, 1) := by decide +kernel
theorem dX11_back_31 : decode cX11_back 31 = .ok (.getfield 10, 3) := by decide +kernel
theorem dX11_back_34 : decode cX11_back 34 = .ok (.getfield 85, 3) := by decide +kernel
theorem dX11_back_37 : decode cX11_back 37 = .ok (.ireturn, 1) := by decide +kernel
theorem dX11_read_0 : decode cX11_read 0 = .ok (.aload_n 0, 1) := by decide +kernel
theorem dX11_read_1 : decode cX11_read 1 = .ok (.getfield 19, 3) := by decide +kernel
theorem dX11_read_4 : decode cX11_read 4 = .ok (.aload_n 0, 1) := by decide +kernel
theorem dX11_read_5 : decode cX11_read 5 = .ok (.getfield 65, 3) := by decide +kernel
theorem dX11_read_8 : decode cX11_read 8 = .ok (.aload_n 0, 1) := by decide +kernel
theorem dX11_read_9 : decode cX11_read 9 = .ok (.getfield 10, 3) := by decide +kernel
theorem dX11_read_12 : decode cX11_read 12 = .ok (.invokevirtual 92, 3) := by decide +kernel
theorem dX11_read_15 : decode cX11_read 15 = .ok (.istore_n 1, 1) := by decide +kernel
theorem dX11_read_16 : decode cX11_read 16 = .ok (.aload_n 0, 1) := by decide +kernel
theorem dX11_read_17 : decode cX11_read 17 = .ok (.aload_n 0, 1) := by decide +kernel
theorem dX11_read_18 : decode cX11_read 18 = .ok (.getfield 19, 3) := by decide +kernel
theorem dX11_read_21 : decode cX11_read 21 = .ok (.getfield 96, 3) := by decide +kernel
theorem dX11_read_24 : decode cX11_read 24 = .ok (.putfield 69, 3) := by decide +kernel
theorem dX11_read_27 : decode cX11_read 27 = .ok (.aload_n 0, 1) := by decide +kernel
theorem dX11_read_28 : decode cX11_read 28 = .ok (.getfield 10, 3) := by decide +kernel
theorem dX11_read_31 : decode cX11_read 31 = .ok (.iconst 0, 1) := by decide +kernel
theorem dX11_read_32 : decode cX11_read 32 = .ok (.putfield 85, 3) := by decide +kernel
theorem dX11_read_35 : decode cX11_read 35 = .ok (.iload_n 1, 1) := by decide +kernel
theorem dX11_read_36 : decode cX11_read 36 = .ok (.ifCond .ne 59, 3) := by decide +kernel
theorem dX11_read_39 : decode cX11_read 39 = .ok (.aload_n 0, 1) := by decide +kernel
theorem dX11_read_40 : decode cX11_read 40 = .ok (.getfield 26, 3) := by decide +kernel
theorem dX11_read_43 : decode cX11_read 43 = .ok (.getfield 97, 3) := by decide +kernel
theorem dX11_read_46 : decode cX11_read 46 = .ok (.astore_n 2, 1) := by decide +kernel
theorem dX11_read_47 : decode cX11_read 47 = .ok (.aload_n 0, 1) := by decide +kernel
theorem dX11_read_48 : decode cX11_read 48 = .ok (.getfield 26, 3) := by decide +kernel
theorem dX11_read_51 : decode cX11_read 51 = .ok (.aload_n 0, 1) := by decide +kernel
theorem dX11_read_52 : decode cX11_read 52 = .ok (.getfield 65, 3) := by decide +kernel
theorem dX11_read_55 : decode cX11_read 55 = .ok (.invokevirtual 76, 3) := by decide +kernel
theorem dX11_read_58 : decode cX11_read 58 = .ok (.aload_n 0, 1) := by decide +kernel
theorem dX11_read_59 : decode cX11_read 59 = .ok (.getfield 33, 3) := by decide +kernel
theorem dX11_read_62 : decode cX11_read 62 = .ok (.aload_n 0, 1) := by decide +kernel
theorem dX11_read_63 : decode cX11_read 63 = .ok (.getfield 65, 3) := by decide +kernel
theorem dX11_read_66 : decode cX11_read 66 = .ok (.invokevirtual 80, 3) := by decide +kernel
theorem dX11_read_69 : decode cX11_read 69 = .ok (.aload_n 0, 1) := by decide +kernel
theorem dX11_read_70 : decode cX11_read 70 = .ok (.aload_n 2, 1) := by decide +kernel
theorem dX11_read_71 : decode cX11_read 71 = .ok (.putfield 65, 3) := by decide +kernel
theorem dX11_read_74 : decode cX11_read 74 = .ok (.aload_n 0, 1) := by decide +kernel
theorem dX11_read_75 : decode cX11_read 75 = .ok (.getfield 40, 3) := by decide +kernel
theorem dX11_read_78 : decode cX11_read 78 = .ok (.invokevirtual 100, 3) := by decide +kernel
theorem dX11_read_81 : decode cX11_read 81 = .ok (.aload_n 0, 1) := by decide +kernel
theorem dX11_read_82 : decode cX11_read 82 = .ok (.getfield 58, 3) := by decide +kernel
theorem dX11_read_85 : decode cX11_read 85 = .ok (.invokevirtual 101, 3) := by decide +kernel
theorem dX11_read_88 : decode cX11_read 88 = .ok (.aload_n 0, 1) := by decide +kernel
theorem dX11_read_89 : decode cX11_read 89 = .ok (.getfield 49, 3) := by decide +kernel
theorem dX11_read_92 : decode cX11_read 92 = .ok (.invokevirtual 102, 3) := by decide +kernel
theorem dX11_read_95 : decode cX11_read 95 = .ok (.iload_n 1, 1) := by decide +kernel
theorem dX11_read_96 : decode cX11_read 96 = .ok (.ireturn, 1) := by decide +kernel
theorem dX11_place_0 : decode cX11_place 0 = .ok (.aload_n 0, 1) := by decide +kernel
theorem dX11_place_1 : decode cX11_place 1 = .ok (.getfield 69, 3) := by decide +kernel
theorem dX11_place_4 : decode cX11_place 4 = .ok (.ireturn, 1) := by decide +kernel
theorem dX11_road_0 : decode cX11_road 0 = .ok (.aload_n 0, 1) := by decide +kernel
theorem dX11_road_1 : decode cX11_road 1 = .ok (.iload_n 1, 1) := by decide +kernel
theorem dX11_road_2 : decode cX11_road 2 = .ok (.invokevirtual 105, 3) := by decide +kernel
theorem dX11_road_5 : decode cX11_road 5 = .ok (.ifCond .ne 5, 3) := by decide +kernel
theorem dX11_road_8 : decode cX11_road 8 = .ok (.iconst (-1), 1) := by decide +kernel
theorem dX11_road_9 : decode cX11_road 9 = .ok (.ireturn, 1) := by decide +kernel
theorem dX11_road_10 : decode cX11_road 10 = .ok (.aload_n 0, 1) := by decide +kernel
theorem dX11_road_11 : decode cX11_road 11 = .ok (.getfield 26, 3) := by decide +kernel
theorem dX11_road_14 : decode cX11_road 14 = .ok (.getfield 97, 3) := by decide +kernel
theorem dX11_road_17 : decode cX11_road 17 = .ok (.astore_n 3, 1) := by decide +kernel
theorem dX11_road_18 : decode cX11_road 18 = .ok (.iload_n 2, 1) := by decide +kernel
theorem dX11_road_19 : decode cX11_road 19 = .ok (.tableswitch 155 0 8 #[49, 56, 63, 70, 79, 93, 106, 129, 142], 49) := by decide +kernel
theorem dX11_road_68 : decode cX11_road 68 = .ok (.aload_n 3, 1) := by decide +kernel
theorem dX11_road_69 : decode cX11_road 69 = .ok (.getfield 109, 3) := by decide +kernel
theorem dX11_road_72 : decode cX11_road 72 = .ok (.iload_n 1, 1) := by decide +kernel
theorem dX11_road_73 : decode cX11_road 73 = .ok (.iaload, 1) := by decide +kernel
theorem dX11_road_74 : decode cX11_road 74 = .ok (.ireturn, 1) := by decide +kernel
theorem dX11_road_75 : decode cX11_road 75 = .ok (.aload_n 3, 1) := by decide +kernel
theorem dX11_road_76 : decode cX11_road 76 = .ok (.getfield 113, 3) := by decide +kernel
theorem dX11_road_79 : decode cX11_road 79 = .ok (.iload_n 1, 1) := by decide +kernel
theorem dX11_road_80 : decode cX11_road 80 = .ok (.iaload, 1) := by decide +kernel
theorem dX11_road_81 : decode cX11_road 81 = .ok (.ireturn, 1) := by decide +kernel
theorem dX11_road_82 : decode cX11_road 82 = .ok (.aload_n 3, 1) := by decide +kernel
theorem dX11_road_83 : decode cX11_road 83 = .ok (.getfield 116, 3) := by decide +kernel
theorem dX11_road_86 : decode cX11_road 86 = .ok (.iload_n 1, 1) := by decide +kernel
theorem dX11_road_87 : decode cX11_road 87 = .ok (.iaload, 1) := by decide +kernel
theorem dX11_road_88 : decode cX11_road 88 = .ok (.ireturn, 1) := by decide +kernel
theorem dX11_road_89 : decode cX11_road 89 = .ok (.aload_n 3, 1) := by decide +kernel
theorem dX11_road_90 : decode cX11_road 90 = .ok (.getfield 119, 3) := by decide +kernel
theorem dX11_road_93 : decode cX11_road 93 = .ok (.iload_n 1, 1) := by decide +kernel
theorem dX11_road_94 : decode cX11_road 94 = .ok (.ishr, 1) := by decide +kernel
theorem dX11_road_95 : decode cX11_road 95 = .ok (.iconst 1, 1) := by decide +kernel
theorem dX11_road_96 : decode cX11_road 96 = .ok (.iand, 1) := by decide +kernel
theorem dX11_road_97 : decode cX11_road 97 = .ok (.ireturn, 1) := by decide +kernel
theorem dX11_road_98 : decode cX11_road 98 = .ok (.aload_n 0, 1) := by decide +kernel
theorem dX11_road_99 : decode cX11_road 99 = .ok (.getfield 33, 3) := by decide +kernel
theorem dX11_road_102 : decode cX11_road 102 = .ok (.getfield 122, 3) := by decide +kernel
theorem dX11_road_105 : decode cX11_road 105 = .ok (.iconst 4, 1) := by decide +kernel
theorem dX11_road_106 : decode cX11_road 106 = .ok (.iaload, 1) := by decide +kernel
theorem dX11_road_107 : decode cX11_road 107 = .ok (.iload_n 1, 1) := by decide +kernel
theorem dX11_road_108 : decode cX11_road 108 = .ok (.ishr, 1) := by decide +kernel
theorem dX11_road_109 : decode cX11_road 109 = .ok (.iconst 1, 1) := by decide +kernel
theorem dX11_road_110 : decode cX11_road 110 = .ok (.iand, 1) := by decide +kernel
theorem dX11_road_111 : decode cX11_road 111 = .ok (.ireturn, 1) := by decide +kernel
theorem dX11_road_112 : decode cX11_road 112 = .ok (.aload_n 0, 1) := by decide +kernel
theorem dX11_road_113 : decode cX11_road 113 = .ok (.getfield 33, 3) := by decide +kernel
theorem dX11_road_116 : decode cX11_road 116 = .ok (.getfield 122, 3) := by decide +kernel
theorem dX11_road_119 : decode cX11_road 119 = .ok (.bipush 7, 2) := by decide +kernel
theorem dX11_road_121 : decode cX11_road 121 = .ok (.iload_n 1, 1) := by decide +kernel
theorem dX11_road_122 : decode cX11_road 122 = .ok (.iadd, 1) := by decide +kernel
theorem dX11_road_123 : decode cX11_road 123 = .ok (.iaload, 1) := by decide +kernel
theorem dX11_road_124 : decode cX11_road 124 = .ok (.ireturn, 1) := by decide +kernel
theorem dX11_road_125 : decode cX11_road 125 = .ok (.aload_n 0, 1) := by decide +kernel
theorem dX11_road_126 : decode cX11_road 126 = .ok (.getfield 26, 3) := by decide +kernel
theorem dX11_road_129 : decode cX11_road 129 = .ok (.aload_n 0, 1) := by decide +kernel
theorem dX11_road_130 : decode cX11_road 130 = .ok (.getfield 33, 3) := by decide +kernel
theorem dX11_road_133 : decode cX11_road 133 = .ok (.invokevirtual 81, 3) := by decide +kernel
theorem dX11_road_136 : decode cX11_road 136 = .ok (.aload_n 0, 1) := by decide +kernel
theorem dX11_road_137 : decode cX11_road 137 = .ok (.getfield 26, 3) := by decide +kernel
theorem dX11_road_140 : decode cX11_road 140 = .ok (.getfield 125, 3) := by decide +kernel
theorem dX11_road_143 : decode cX11_road 143 = .ok (.iload_n 1, 1) := by decide +kernel
theorem dX11_road_144 : decode cX11_road 144 = .ok (.ishr, 1) := by decide +kernel
theorem dX11_road_145 : decode cX11_road 145 = .ok (.iconst 1, 1) := by decide +kernel
theorem dX11_road_146 : decode cX11_road 146 = .ok (.iand, 1) := by decide +kernel
theorem dX11_road_147 : decode cX11_road 147 = .ok (.ireturn, 1) := by decide +kernel
theorem dX11_road_148 : decode cX11_road 148 = .ok (.aload_n 0, 1) := by decide +kernel
theorem dX11_road_149 : decode cX11_road 149 = .ok (.getfield 33, 3) := by decide +kernel
theorem dX11_road_152 : decode cX11_road 152 = .ok (.getfield 122, 3) := by decide +kernel
theorem dX11_road_155 : decode cX11_road 155 = .ok (.bipush 19, 2) := by decide +kernel
theorem dX11_road_157 : decode cX11_road 157 = .ok (.iload_n 1, 1) := by decide +kernel
theorem dX11_road_158 : decode cX11_road 158 = .ok (.iadd, 1) := by decide +kernel
theorem dX11_road_159 : decode cX11_road 159 = .ok (.iaload, 1) := by decide +kernel
theorem dX11_road_160 : decode cX11_road 160 = .ok (.ireturn, 1) := by decide +kernel
theorem dX11_road_161 : decode cX11_road 161 = .ok (.aload_n 0, 1) := by decide +kernel
theorem dX11_road_162 : decode cX11_road 162 = .ok (.getfield 33, 3) := by decide +kernel
theorem dX11_road_165 : decode cX11_road 165 = .ok (.getfield 122, 3) := by decide +kernel
theorem dX11_road_168 : decode cX11_road 168 = .ok (.bipush 31, 2) := by decide +kernel
theorem dX11_road_170 : decode cX11_road 170 = .ok (.iload_n 1, 1) := by decide +kernel
theorem dX11_road_171 : decode cX11_road 171 = .ok (.iadd, 1) := by decide +kernel
theorem dX11_road_172 : decode cX11_road 172 = .ok (.iaload, 1) := by decide +kernel
theorem dX11_road_173 : decode cX11_road 173 = .ok (.ireturn, 1) := by decide +kernel
theorem dX11_road_174 : decode cX11_road 174 = .ok (.iconst (-1), 1) := by decide +kernel
theorem dX11_road_175 : decode cX11_road 175 = .ok (.ireturn, 1) := by decide +kernel
theorem dX11_ghost_0 : decode cX11_ghost 0 = .ok (.aload_n 0, 1) := by decide +kernel
theorem dX11_ghost_1 : decode cX11_ghost 1 = .ok (.iload_n 1, 1) := by decide +kernel
theorem dX11_ghost_2 : decode cX11_ghost 2 = .ok (.invokevirtual 128, 3) := by decide +kernel
theorem dX11_ghost_5 : decode cX11_ghost 5 = .ok (.ifCond .ne 5, 3) := by decide +kernel
theorem dX11_ghost_8 : decode cX11_ghost 8 = .ok (.iconst (-1), 1) := by decide +kernel
theorem dX11_ghost_9 : decode cX11_ghost 9 = .ok (.ireturn, 1) := by decide +kernel
theorem dX11_ghost_10 : decode cX11_ghost 10 = .ok (.aload_n 0, 1) := by decide +kernel
theorem dX11_ghost_11 : decode cX11_ghost 11 = .ok (.getfield 26, 3) := by decide +kernel
theorem dX11_ghost_14 : decode cX11_ghost 14 = .ok (.getfield 97, 3) := by decide +kernel
theorem dX11_ghost_17 : decode cX11_ghost 17 = .ok (.astore_n 3, 1) := by decide +kernel
theorem dX11_ghost_18 : decode cX11_ghost 18 = .ok (.iload_n 2, 1) := by decide +kernel
theorem dX11_ghost_19 : decode cX11_ghost 19 = .ok (.tableswitch 141 0 7 #[45, 52, 59, 66, 89, 102, 115, 128], 45) := by decide +kernel
theorem dX11_ghost_64 : decode cX11_ghost 64 = .ok (.aload_n 3, 1) := by decide +kernel
theorem dX11_ghost_65 : decode cX11_ghost 65 = .ok (.getfield 131, 3) := by decide +kernel
theorem dX11_ghost_68 : decode cX11_ghost 68 = .ok (.iload_n 1, 1) := by decide +kernel
theorem dX11_ghost_69 : decode cX11_ghost 69 = .ok (.iaload, 1) := by decide +kernel
theorem dX11_ghost_70 : decode cX11_ghost 70 = .ok (.ireturn, 1) := by decide +kernel
theorem dX11_ghost_71 : decode cX11_ghost 71 = .ok (.aload_n 3, 1) := by decide +kernel
theorem dX11_ghost_72 : decode cX11_ghost 72 = .ok (.getfield 134, 3) := by decide +kernel
theorem dX11_ghost_75 : decode cX11_ghost 75 = .ok (.iload_n 1, 1) := by decide +kernel
theorem dX11_ghost_76 : decode cX11_ghost 76 = .ok (.iaload, 1) := by decide +kernel
theorem dX11_ghost_77 : decode cX11_ghost 77 = .ok (.ireturn, 1) := by decide +kernel
theorem dX11_ghost_78 : decode cX11_ghost 78 = .ok (.aload_n 3, 1) := by decide +kernel
theorem dX11_ghost_79 : decode cX11_ghost 79 = .ok (.getfield 137, 3) := by decide +kernel
theorem dX11_ghost_82 : decode cX11_ghost 82 = .ok (.iload_n 1, 1) := by decide +kernel
theorem dX11_ghost_83 : decode cX11_ghost 83 = .ok (.iaload, 1) := by decide +kernel
theorem dX11_ghost_84 : decode cX11_ghost 84 = .ok (.ireturn, 1) := by decide +kernel
theorem dX11_ghost_85 : decode cX11_ghost 85 = .ok (.aload_n 3, 1) := by decide +kernel
theorem dX11_ghost_86 : decode cX11_ghost 86 = .ok (.iload_n 1, 1) := by decide +kernel
theorem dX11_ghost_87 : decode cX11_ghost 87 = .ok (.aload_n 0, 1) := by decide +kernel
theorem dX11_ghost_88 : decode cX11_ghost 88 = .ok (.getfield 33, 3) := by decide +kernel
theorem dX11_ghost_91 : decode cX11_ghost 91 = .ok (.getfield 122, 3) := by decide +kernel
theorem dX11_ghost_94 : decode cX11_ghost 94 = .ok (.iconst 0, 1) := by decide +kernel
theorem dX11_ghost_95 : decode cX11_ghost 95 = .ok (.iaload, 1) := by decide +kernel
theorem dX11_ghost_96 : decode cX11_ghost 96 = .ok (.invokevirtual 140, 3) := by decide +kernel
theorem dX11_ghost_99 : decode cX11_ghost 99 = .ok (.ifCond .eq 7, 3) := by decide +kernel
theorem dX11_ghost_102 : decode cX11_ghost 102 = .ok (.iconst 1, 1) := by decide +kernel
theorem dX11_ghost_103 : decode cX11_ghost 103 = .ok (.goto 4, 3) := by decide +kernel
theorem dX11_ghost_106 : decode cX11_ghost 106 = .ok (.iconst 0, 1) := by decide +kernel
theorem dX11_ghost_107 : decode cX11_ghost 107 = .ok (.ireturn, 1) := by decide +kernel
theorem dX11_ghost_108 : decode cX11_ghost 108 = .ok (.aload_n 0, 1) := by decide +kernel
theorem dX11_ghost_109 : decode cX11_ghost 109 = .ok (.getfield 33, 3) := by decide +kernel
theorem dX11_ghost_112 : decode cX11_ghost 112 = .ok (.getfield 122, 3) := by decide +kernel
theorem dX11_ghost_115 : decode cX11_ghost 115 = .ok (.bipush 43, 2) := by decide +kernel
theorem dX11_ghost_117 : decode cX11_ghost 117 = .ok (.iload_n 1, 1) := by decide +kernel
theorem dX11_ghost_118 : decode cX11_ghost 118 = .ok (.iadd, 1) := by decide +kernel
theorem dX11_ghost_119 : decode cX11_ghost 119 = .ok (.iaload, 1) := by decide +kernel
theorem dX11_ghost_120 : decode cX11_ghost 120 = .ok (.ireturn, 1) := by decide +kernel
theorem dX11_ghost_121 : decode cX11_ghost 121 = .ok (.aload_n 0, 1) := by decide +kernel
theorem dX11_ghost_122 : decode cX11_ghost 122 = .ok (.getfield 33, 3) := by decide +kernel
theorem dX11_ghost_125 : decode cX11_ghost 125 = .ok (.getfield 122, 3) := by decide +kernel
theorem dX11_ghost_128 : decode cX11_ghost 128 = .ok (.bipush 50, 2) := by decide +kernel
theorem dX11_ghost_130 : decode cX11_ghost 130 = .ok (.iload_n 1, 1) := by decide +kernel
theorem dX11_ghost_131 : decode cX11_ghost 131 = .ok (.iadd, 1) := by decide +kernel
theorem dX11_ghost_132 : decode cX11_ghost 132 = .ok (.iaload, 1) := by decide +kernel
theorem dX11_ghost_133 : decode cX11_ghost 133 = .ok (.ireturn, 1) := by decide +kernel
theorem dX11_ghost_134 : decode cX11_ghost 134 = .ok (.aload_n 0, 1) := by decide +kernel
theorem dX11_ghost_135 : decode cX11_ghost 135 = .ok (.getfield 33, 3) := by decide +kernel
theorem dX11_ghost_138 : decode cX11_ghost 138 = .ok (.getfield 122, 3) := by decide +kernel
theorem dX11_ghost_141 : decode cX11_ghost 141 = .ok (.bipush 57, 2) := by decide +kernel
theorem dX11_ghost_143 : decode cX11_ghost 143 = .ok (.iload_n 1, 1) := by decide +kernel
theorem dX11_ghost_144 : decode cX11_ghost 144 = .ok (.iadd, 1) := by decide +kernel
theorem dX11_ghost_145 : decode cX11_ghost 145 = .ok (.iaload, 1) := by decide +kernel
theorem dX11_ghost_146 : decode cX11_ghost 146 = .ok (.ireturn, 1) := by decide +kernel
theorem dX11_ghost_147 : decode cX11_ghost 147 = .ok (.aload_n 0, 1) := by decide +kernel
theorem dX11_ghost_148 : decode cX11_ghost 148 = .ok (.getfield 33, 3) := by decide +kernel
theorem dX11_ghost_151 : decode cX11_ghost 151 = .ok (.getfield 122, 3) := by decide +kernel
theorem dX11_ghost_154 : decode cX11_ghost 154 = .ok (.bipush 64, 2) := by decide +kernel
theorem dX11_ghost_156 : decode cX11_ghost 156 = .ok (.iload_n 1, 1) := by decide +kernel
theorem dX11_ghost_157 : decode cX11_ghost 157 = .ok (.iadd, 1) := by decide +kernel
theorem dX11_ghost_158 : decode cX11_ghost 158 = .ok (.iaload, 1) := by decide +kernel
theorem dX11_ghost_159 : decode cX11_ghost 159 = .ok (.ireturn, 1) := by decide +kernel
theorem dX11_ghost_160 : decode cX11_ghost 160 = .ok (.iconst (-1), 1) := by decide +kernel
theorem dX11_ghost_161 : decode cX11_ghost 161 = .ok (.ireturn, 1) := by decide +kernel
theorem dX11_cost_0 : decode cX11_cost 0 = .ok (.aload_n 0, 1) := by decide +kernel
theorem dX11_cost_1 : decode cX11_cost 1 = .ok (.iload_n 1, 1) := by decide +kernel
theorem dX11_cost_2 : decode cX11_cost 2 = .ok (.invokevirtual 128, 3) := by decide +kernel
theorem dX11_cost_5 : decode cX11_cost 5 = .ok (.ifCond .eq 11, 3) := by decide +kernel
theorem dX11_cost_8 : decode cX11_cost 8 = .ok (.aload_n 0, 1) := by decide +kernel
theorem dX11_cost_9 : decode cX11_cost 9 = .ok (.iload_n 2, 1) := by decide +kernel
theorem dX11_cost_10 : decode cX11_cost 10 = .ok (.invokevirtual 105, 3) := by decide +kernel
theorem dX11_cost_13 : decode cX11_cost 13 = .ok (.ifCond .ne 5, 3) := by decide +kernel
theorem dX11_cost_16 : decode cX11_cost 16 = .ok (.iconst (-1), 1) := by decide +kernel
theorem dX11_cost_17 : decode cX11_cost 17 = .ok (.ireturn, 1) := by decide +kernel
theorem dX11_cost_18 : decode cX11_cost 18 = .ok (.aload_n 0, 1) := by decide +kernel
theorem dX11_cost_19 : decode cX11_cost 19 = .ok (.getfield 26, 3) := by decide +kernel
theorem dX11_cost_22 : decode cX11_cost 22 = .ok (.aload_n 0, 1) := by decide +kernel
theorem dX11_cost_23 : decode cX11_cost 23 = .ok (.getfield 33, 3) := by decide +kernel
theorem dX11_cost_26 : decode cX11_cost 26 = .ok (.invokevirtual 81, 3) := by decide +kernel
theorem dX11_cost_29 : decode cX11_cost 29 = .ok (.aload_n 0, 1) := by decide +kernel
theorem dX11_cost_30 : decode cX11_cost 30 = .ok (.getfield 26, 3) := by decide +kernel
theorem dX11_cost_33 : decode cX11_cost 33 = .ok (.iload_n 1, 1) := by decide +kernel
theorem dX11_cost_34 : decode cX11_cost 34 = .ok (.iload_n 2, 1) := by decide +kernel
theorem dX11_cost_35 : decode cX11_cost 35 = .ok (.invokevirtual 144, 3) := by decide +kernel
theorem dX11_cost_38 : decode cX11_cost 38 = .ok (.ireturn, 1) := by decide +kernel
theorem dX11_way_0 : decode cX11_way 0 = .ok (.aload_n 0, 1) := by decide +kernel
theorem dX11_way_1 : decode cX11_way 1 = .ok (.iload_n 1, 1) := by decide +kernel
theorem dX11_way_2 : decode cX11_way 2 = .ok (.invokevirtual 128, 3) := by decide +kernel
theorem dX11_way_5 : decode cX11_way 5 = .ok (.ifCond .eq 12, 3) := by decide +kernel
theorem dX11_way_8 : decode cX11_way 8 = .ok (.iload_n 2, 1) := by decide +kernel
theorem dX11_way_9 : decode cX11_way 9 = .ok (.ifCond .lt 8, 3) := by decide +kernel
theorem dX11_way_12 : decode cX11_way 12 = .ok (.iload_n 2, 1) := by decide +kernel
theorem dX11_way_13 : decode cX11_way 13 = .ok (.iconst 3, 1) := by decide +kernel
theorem dX11_way_14 : decode cX11_way 14 = .ok (.if_icmp .le 5, 3) := by decide +kernel
theorem dX11_way_17 : decode cX11_way 17 = .ok (.iconst (-1), 1) := by decide +kernel
theorem dX11_way_18 : decode cX11_way 18 = .ok (.ireturn, 1) := by decide +kernel
theorem dX11_way_19 : decode cX11_way 19 = .ok (.aload_n 0, 1) := by decide +kernel
theorem dX11_way_20 : decode cX11_way 20 = .ok (.getfield 26, 3) := by decide +kernel
theorem dX11_way_23 : decode cX11_way 23 = .ok (.aload_n 0, 1) := by decide +kernel
theorem dX11_way_24 : decode cX11_way 24 = .ok (.getfield 33, 3) := by decide +kernel
theorem dX11_way_27 : decode cX11_way 27 = .ok (.invokevirtual 81, 3) := by decide +kernel
theorem dX11_way_30 : decode cX11_way 30 = .ok (.aload_n 0, 1) := by decide +kernel
theorem dX11_way_31 : decode cX11_way 31 = .ok (.getfield 26, 3) := by decide +kernel
theorem dX11_way_34 : decode cX11_way 34 = .ok (.iload_n 1, 1) := by decide +kernel
theorem dX11_way_35 : decode cX11_way 35 = .ok (.invokevirtual 148, 3) := by decide +kernel
theorem dX11_way_38 : decode cX11_way 38 = .ok (.ifCond .ne 6, 3) := by decide +kernel
theorem dX11_way_41 : decode cX11_way 41 = .ok (.bipush (-2), 2) := by decide +kernel
theorem dX11_way_43 : decode cX11_way 43 = .ok (.ireturn, 1) := by decide +kernel
theorem dX11_way_44 : decode cX11_way 44 = .ok (.aload_n 0, 1) := by decide +kernel
theorem dX11_way_45 : decode cX11_way 45 = .ok (.getfield 26, 3) := by decide +kernel
theorem dX11_way_48 : decode cX11_way 48 = .ok (.getfield 151, 3) := by decide +kernel
theorem dX11_way_51 : decode cX11_way 51 = .ok (.iload_n 1, 1) := by decide +kernel
theorem dX11_way_52 : decode cX11_way 52 = .ok (.aaload, 1) := by decide +kernel
theorem dX11_way_53 : decode cX11_way 53 = .ok (.astore_n 3, 1) := by decide +kernel
theorem dX11_way_54 : decode cX11_way 54 = .ok (.iload_n 2, 1) := by decide +kernel
theorem dX11_way_55 : decode cX11_way 55 = .ok (.tableswitch 44 0 2 #[25, 30, 39], 25) := by decide +kernel
theorem dX11_way_80 : decode cX11_way 80 = .ok (.aload_n 3, 1) := by decide +kernel
theorem dX11_way_81 : decode cX11_way 81 = .ok (.getfield 155, 3) := by decide +kernel
theorem dX11_way_84 : decode cX11_way 84 = .ok (.ireturn, 1) := by decide +kernel
theorem dX11_way_85 : decode cX11_way 85 = .ok (.aload_n 0, 1) := by decide +kernel
theorem dX11_way_86 : decode cX11_way 86 = .ok (.getfield 26, 3) := by decide +kernel
theorem dX11_way_89 : decode cX11_way 89 = .ok (.aload_n 3, 1) := by decide +kernel
theorem dX11_way_90 : decode cX11_way 90 = .ok (.invokevirtual 160, 3) := by decide +kernel
theorem dX11_way_93 : decode cX11_way 93 = .ok (.ireturn, 1) := by decide +kernel
theorem dX11_way_94 : decode cX11_way 94 = .ok (.aload_n 3, 1) := by decide +kernel
theorem dX11_way_95 : decode cX11_way 95 = .ok (.getfield 164, 3) := by decide +kernel
theorem dX11_way_98 : decode cX11_way 98 = .ok (.ireturn, 1) := by decide +kernel
theorem dX11_way_99 : decode cX11_way 99 = .ok (.aload_n 0, 1) := by decide +kernel
theorem dX11_way_100 : decode cX11_way 100 = .ok (.getfield 26, 3) := by decide +kernel
theorem dX11_way_103 : decode cX11_way 103 = .ok (.aload_n 3, 1) := by decide +kernel
theorem dX11_way_104 : decode cX11_way 104 = .ok (.aload_n 0, 1) := by decide +kernel
theorem dX11_way_105 : decode cX11_way 105 = .ok (.getfield 26, 3) := by decide +kernel
theorem dX11_way_108 : decode cX11_way 108 = .ok (.getfield 97, 3) := by decide +kernel
theorem dX11_way_111 : decode cX11_way 111 = .ok (.getfield 134, 3) := by decide +kernel
theorem dX11_way_114 : decode cX11_way 114 = .ok (.iload_n 1, 1) := by decide +kernel
theorem dX11_way_115 : decode cX11_way 115 = .ok (.iaload, 1) := by decide +kernel
theorem dX11_way_116 : decode cX11_way 116 = .ok (.invokevirtual 165, 3) := by decide +kernel
theorem dX11_way_119 : decode cX11_way 119 = .ok (.ireturn, 1) := by decide +kernel
theorem dX11_wayAt_0 : decode cX11_wayAt 0 = .ok (.aload_n 0, 1) := by decide +kernel
theorem dX11_wayAt_1 : decode cX11_wayAt 1 = .ok (.iload_n 1, 1) := by decide +kernel
theorem dX11_wayAt_2 : decode cX11_wayAt 2 = .ok (.invokevirtual 128, 3) := by decide +kernel
theorem dX11_wayAt_5 : decode cX11_wayAt 5 = .ok (.ifCond .eq 7, 3) := by decide +kernel
theorem dX11_wayAt_8 : decode cX11_wayAt 8 = .ok (.iload_n 2, 1) := by decide +kernel
theorem dX11_wayAt_9 : decode cX11_wayAt 9 = .ok (.ifCond .ge 5, 3) := by decide +kernel
theorem dX11_wayAt_12 : decode cX11_wayAt 12 = .ok (.iconst (-1), 1) := by decide +kernel
theorem dX11_wayAt_13 : decode cX11_wayAt 13 = .ok (.ireturn, 1) := by decide +kernel
theorem dX11_wayAt_14 : decode cX11_wayAt 14 = .ok (.aload_n 0, 1) := by decide +kernel
theorem dX11_wayAt_15 : decode cX11_wayAt 15 = .ok (.getfield 26, 3) := by decide +kernel
theorem dX11_wayAt_18 : decode cX11_wayAt 18 = .ok (.aload_n 0, 1) := by decide +kernel
theorem dX11_wayAt_19 : decode cX11_wayAt 19 = .ok (.getfield 33, 3) := by decide +kernel
theorem dX11_wayAt_22 : decode cX11_wayAt 22 = .ok (.invokevirtual 81, 3) := by decide +kernel
theorem dX11_wayAt_25 : decode cX11_wayAt 25 = .ok (.aload_n 0, 1) := by decide +kernel
theorem dX11_wayAt_26 : decode cX11_wayAt 26 = .ok (.getfield 26, 3) := by decide +kernel
theorem dX11_wayAt_29 : decode cX11_wayAt 29 = .ok (.iload_n 1, 1) := by decide +kernel
theorem dX11_wayAt_30 : decode cX11_wayAt 30 = .ok (.invokevirtual 148, 3) := by decide +kernel
theorem dX11_wayAt_33 : decode cX11_wayAt 33 = .ok (.ifCond .ne 6, 3) := by decide +kernel
theorem dX11_wayAt_36 : decode cX11_wayAt 36 = .ok (.bipush (-2), 2) := by decide +kernel
theorem dX11_wayAt_38 : decode cX11_wayAt 38 = .ok (.ireturn, 1) := by decide +kernel
theorem dX11_wayAt_39 : decode cX11_wayAt 39 = .ok (.aload_n 0, 1) := by decide +kernel
theorem dX11_wayAt_40 : decode cX11_wayAt 40 = .ok (.getfield 26, 3) := by decide +kernel
theorem dX11_wayAt_43 : decode cX11_wayAt 43 = .ok (.getfield 151, 3) := by decide +kernel
theorem dX11_wayAt_46 : decode cX11_wayAt 46 = .ok (.iload_n 1, 1) := by decide +kernel
theorem dX11_wayAt_47 : decode cX11_wayAt 47 = .ok (.aaload, 1) := by decide +kernel
theorem dX11_wayAt_48 : decode cX11_wayAt 48 = .ok (.astore_n 3, 1) := by decide +kernel
theorem dX11_wayAt_49 : decode cX11_wayAt 49 = .ok (.iload_n 2, 1) := by decide +kernel
theorem dX11_wayAt_50 : decode cX11_wayAt 50 = .ok (.aload_n 3, 1) := by decide +kernel
theorem dX11_wayAt_51 : decode cX11_wayAt 51 = .ok (.getfield 164, 3) := by decide +kernel
theorem dX11_wayAt_54 : decode cX11_wayAt 54 = .ok (.if_icmp .ge 12, 3) := by decide +kernel
theorem dX11_wayAt_57 : decode cX11_wayAt 57 = .ok (.aload_n 3, 1) := by decide +kernel
theorem dX11_wayAt_58 : decode cX11_wayAt 58 = .ok (.getfield 169, 3) := by decide +kernel
theorem dX11_wayAt_61 : decode cX11_wayAt 61 = .ok (.iload_n 2, 1) := by decide +kernel
theorem dX11_wayAt_62 : decode cX11_wayAt 62 = .ok (.iaload, 1) := by decide +kernel
theorem dX11_wayAt_63 : decode cX11_wayAt 63 = .ok (.goto 4, 3) := by decide +kernel
theorem dX11_wayAt_66 : decode cX11_wayAt 66 = .ok (.iconst (-1), 1) := by decide +kernel
theorem dX11_wayAt_67 : decode cX11_wayAt 67 = .ok (.ireturn, 1) := by decide +kernel
theorem dX11_gate_0 : decode cX11_gate 0 = .ok (.aload_n 0, 1) := by decide +kernel
theorem dX11_gate_1 : decode cX11_gate 1 = .ok (.iload_n 1, 1) := by decide +kernel
theorem dX11_gate_2 : decode cX11_gate 2 = .ok (.invokevirtual 105, 3) := by decide +kernel
theorem dX11_gate_5 : decode cX11_gate 5 = .ok (.ifCond .ne 5, 3) := by decide +kernel
theorem dX11_gate_8 : decode cX11_gate 8 = .ok (.iconst 0, 1) := by decide +kernel
theorem dX11_gate_9 : decode cX11_gate 9 = .ok (.ireturn, 1) := by decide +kernel
theorem dX11_gate_10 : decode cX11_gate 10 = .ok (.aload_n 0, 1) := by decide +kernel
theorem dX11_gate_11 : decode cX11_gate 11 = .ok (.getfield 33, 3) := by decide +kernel
theorem dX11_gate_14 : decode cX11_gate 14 = .ok (.getfield 122, 3) := by decide +kernel
theorem dX11_gate_17 : decode cX11_gate 17 = .ok (.iconst 4, 1) := by decide +kernel
theorem dX11_gate_18 : decode cX11_gate 18 = .ok (.iaload, 1) := by decide +kernel
theorem dX11_gate_19 : decode cX11_gate 19 = .ok (.istore_n 3, 1) := by decide +kernel
theorem dX11_gate_20 : decode cX11_gate 20 = .ok (.iload_n 3, 1) := by decide +kernel
theorem dX11_gate_21 : decode cX11_gate 21 = .ok (.iload_n 1, 1) := by decide +kernel
theorem dX11_gate_22 : decode cX11_gate 22 = .ok (.ishr, 1) := by decide +kernel
theorem dX11_gate_23 : decode cX11_gate 23 = .ok (.iconst 1, 1) := by decide +kernel
theorem dX11_gate_24 : decode cX11_gate 24 = .ok (.iand, 1) := by decide +kernel
theorem dX11_gate_25 : decode cX11_gate 25 = .ok (.ifCond .eq 7, 3) := by decide +kernel
theorem dX11_gate_28 : decode cX11_gate 28 = .ok (.iconst 1, 1) := by decide +kernel
theorem dX11_gate_29 : decode cX11_gate 29 = .ok (.goto 4, 3) := by decide +kernel
theorem dX11_gate_32 : decode cX11_gate 32 = .ok (.iconst 0, 1) := by decide +kernel
theorem dX11_gate_33 : decode cX11_gate 33 = .ok (.iload_n 2, 1) := by decide +kernel
theorem dX11_gate_34 : decode cX11_gate 34 = .ok (.if_icmp .ne 5, 3) := by decide +kernel
theorem dX11_gate_37 : decode cX11_gate 37 = .ok (.iconst 0, 1) := by decide +kernel
theorem dX11_gate_38 : decode cX11_gate 38 = .ok (.ireturn, 1) := by decide +kernel
theorem dX11_gate_39 : decode cX11_gate 39 = .ok (.aload_n 0, 1) := by decide +kernel
theorem dX11_gate_40 : decode cX11_gate 40 = .ok (.invokevirtual 172, 3) := by decide +kernel
theorem dX11_gate_43 : decode cX11_gate 43 = .ok (.aload_n 0, 1) := by decide +kernel
theorem dX11_gate_44 : decode cX11_gate 44 = .ok (.getfield 33, 3) := by decide +kernel
theorem dX11_gate_47 : decode cX11_gate 47 = .ok (.getfield 122, 3) := by decide +kernel
theorem dX11_gate_50 : decode cX11_gate 50 = .ok (.iconst 4, 1) := by decide +kernel
theorem dX11_gate_51 : decode cX11_gate 51 = .ok (.iload_n 3, 1) := by decide +kernel
theorem dX11_gate_52 : decode cX11_gate 52 = .ok (.iconst 1, 1) := by decide +kernel
theorem dX11_gate_53 : decode cX11_gate 53 = .ok (.iload_n 1, 1) := by decide +kernel
theorem dX11_gate_54 : decode cX11_gate 54 = .ok (.ishl, 1) := by decide +kernel
theorem dX11_gate_55 : decode cX11_gate 55 = .ok (.ixor, 1) := by decide +kernel
theorem dX11_gate_56 : decode cX11_gate 56 = .ok (.iastore, 1) := by decide +kernel
theorem dX11_gate_57 : decode cX11_gate 57 = .ok (.iconst 1, 1) := by decide +kernel
theorem dX11_gate_58 : decode cX11_gate 58 = .ok (.ireturn, 1) := by decide +kernel
theorem dX11_rate_0 : decode cX11_rate 0 = .ok (.iload_n 1, 1) := by decide +kernel
theorem dX11_rate_1 : decode cX11_rate 1 = .ok (.ifCond .lt 22, 3) := by decide +kernel
theorem dX11_rate_4 : decode cX11_rate 4 = .ok (.iload_n 1, 1) := by decide +kernel
theorem dX11_rate_5 : decode cX11_rate 5 = .ok (.bipush 9, 2) := by decide +kernel
theorem dX11_rate_7 : decode cX11_rate 7 = .ok (.if_icmp .gt 16, 3) := by decide +kernel
theorem dX11_rate_10 : decode cX11_rate 10 = .ok (.iload_n 1, 1) := by decide +kernel
theorem dX11_rate_11 : decode cX11_rate 11 = .ok (.aload_n 0, 1) := by decide +kernel
theorem dX11_rate_12 : decode cX11_rate 12 = .ok (.getfield 33, 3) := by decide +kernel
theorem dX11_rate_15 : decode cX11_rate 15 = .ok (.getfield 122, 3) := by decide +kernel
theorem dX11_rate_18 : decode cX11_rate 18 = .ok (.iconst 1, 1) := by decide +kernel
theorem dX11_rate_19 : decode cX11_rate 19 = .ok (.iaload, 1) := by decide +kernel
theorem dX11_rate_20 : decode cX11_rate 20 = .ok (.if_icmp .ne 5, 3) := by decide +kernel
theorem dX11_rate_23 : decode cX11_rate 23 = .ok (.iconst 0, 1) := by decide +kernel
theorem dX11_rate_24 : decode cX11_rate 24 = .ok (.ireturn, 1) := by decide +kernel
theorem dX11_rate_25 : decode cX11_rate 25 = .ok (.aload_n 0, 1) := by decide +kernel
theorem dX11_rate_26 : decode cX11_rate 26 = .ok (.invokevirtual 172, 3) := by decide +kernel
theorem dX11_rate_29 : decode cX11_rate 29 = .ok (.aload_n 0, 1) := by decide +kernel
theorem dX11_rate_30 : decode cX11_rate 30 = .ok (.getfield 33, 3) := by decide +kernel
theorem dX11_rate_33 : decode cX11_rate 33 = .ok (.iload_n 1, 1) := by decide +kernel
theorem dX11_rate_34 : decode cX11_rate 34 = .ok (.iload_n 1, 1) := by decide +kernel
theorem dX11_rate_35 : decode cX11_rate 35 = .ok (.invokevirtual 175, 3) := by decide +kernel
theorem dX11_rate_38 : decode cX11_rate 38 = .ok (.iconst 1, 1) := by decide +kernel
theorem dX11_rate_39 : decode cX11_rate 39 = .ok (.ireturn, 1) := by decide +kernel
theorem dX11_mend_0 : decode cX11_mend 0 = .ok (.aload_n 0, 1) := by decide +kernel
theorem dX11_mend_1 : decode cX11_mend 1 = .ok (.iload_n 1, 1) := by decide +kernel
theorem dX11_mend_2 : decode cX11_mend 2 = .ok (.invokevirtual 105, 3) := by decide +kernel
theorem dX11_mend_5 : decode cX11_mend 5 = .ok (.ifCond .ne 5, 3) := by decide +kernel
theorem dX11_mend_8 : decode cX11_mend 8 = .ok (.iconst (-1), 1) := by decide +kernel
theorem dX11_mend_9 : decode cX11_mend 9 = .ok (.ireturn, 1) := by decide +kernel
theorem dX11_mend_10 : decode cX11_mend 10 = .ok (.aload_n 0, 1) := by decide +kernel
theorem dX11_mend_11 : decode cX11_mend 11 = .ok (.getfield 33, 3) := by decide +kernel
theorem dX11_mend_14 : decode cX11_mend 14 = .ok (.getfield 122, 3) := by decide +kernel
theorem dX11_mend_17 : decode cX11_mend 17 = .ok (.bipush 7, 2) := by decide +kernel
theorem dX11_mend_19 : decode cX11_mend 19 = .ok (.iload_n 1, 1) := by decide +kernel
theorem dX11_mend_20 : decode cX11_mend 20 = .ok (.iadd, 1) := by decide +kernel
theorem dX11_mend_21 : decode cX11_mend 21 = .ok (.iaload, 1) := by decide +kernel
theorem dX11_mend_22 : decode cX11_mend 22 = .ok (.istore_n 2, 1) := by decide +kernel
theorem dX11_mend_23 : decode cX11_mend 23 = .ok (.aload_n 0, 1) := by decide +kernel
theorem dX11_mend_24 : decode cX11_mend 24 = .ok (.getfield 33, 3) := by decide +kernel
theorem dX11_mend_27 : decode cX11_mend 27 = .ok (.getfield 122, 3) := by decide +kernel
theorem dX11_mend_30 : decode cX11_mend 30 = .ok (.iconst 3, 1) := by decide +kernel
theorem dX11_mend_31 : decode cX11_mend 31 = .ok (.iaload, 1) := by decide +kernel
theorem dX11_mend_32 : decode cX11_mend 32 = .ok (.istore_n 3, 1) := by decide +kernel
theorem dX11_mend_33 : decode cX11_mend 33 = .ok (.iload_n 2, 1) := by decide +kernel
theorem dX11_mend_34 : decode cX11_mend 34 = .ok (.ifCond .eq 8, 3) := by decide +kernel
theorem dX11_mend_37 : decode cX11_mend 37 = .ok (.iload_n 2, 1) := by decide +kernel
theorem dX11_mend_38 : decode cX11_mend 38 = .ok (.iload_n 3, 1) := by decide +kernel
theorem dX11_mend_39 : decode cX11_mend 39 = .ok (.if_icmp .le 6, 3) := by decide +kernel
theorem dX11_mend_42 : decode cX11_mend 42 = .ok (.bipush (-2), 2) := by decide +kernel
theorem dX11_mend_44 : decode cX11_mend 44 = .ok (.ireturn, 1) := by decide +kernel
theorem dX11_mend_45 : decode cX11_mend 45 = .ok (.aload_n 0, 1) := by decide +kernel
theorem dX11_mend_46 : decode cX11_mend 46 = .ok (.invokevirtual 172, 3) := by decide +kernel
theorem dX11_mend_49 : decode cX11_mend 49 = .ok (.aload_n 0, 1) := by decide +kernel
theorem dX11_mend_50 : decode cX11_mend 50 = .ok (.getfield 33, 3) := by decide +kernel
theorem dX11_mend_53 : decode cX11_mend 53 = .ok (.getfield 122, 3) := by decide +kernel
theorem dX11_mend_56 : decode cX11_mend 56 = .ok (.bipush 7, 2) := by decide +kernel
theorem dX11_mend_58 : decode cX11_mend 58 = .ok (.iload_n 1, 1) := by decide +kernel
theorem dX11_mend_59 : decode cX11_mend 59 = .ok (.iadd, 1) := by decide +kernel
theorem dX11_mend_60 : decode cX11_mend 60 = .ok (.iconst 0, 1) := by decide +kernel
theorem dX11_mend_61 : decode cX11_mend 61 = .ok (.iastore, 1) := by decide +kernel
theorem dX11_mend_62 : decode cX11_mend 62 = .ok (.aload_n 0, 1) := by decide +kernel
theorem dX11_mend_63 : decode cX11_mend 63 = .ok (.getfield 33, 3) := by decide +kernel
theorem dX11_mend_66 : decode cX11_mend 66 = .ok (.getfield 122, 3) := by decide +kernel
theorem dX11_mend_69 : decode cX11_mend 69 = .ok (.iconst 3, 1) := by decide +kernel
theorem dX11_mend_70 : decode cX11_mend 70 = .ok (.iload_n 3, 1) := by decide +kernel
theorem dX11_mend_71 : decode cX11_mend 71 = .ok (.iload_n 2, 1) := by decide +kernel
theorem dX11_mend_72 : decode cX11_mend 72 = .ok (.isub, 1) := by decide +kernel
theorem dX11_mend_73 : decode cX11_mend 73 = .ok (.iastore, 1) := by decide +kernel
theorem dX11_mend_74 : decode cX11_mend 74 = .ok (.iload_n 3, 1) := by decide +kernel
theorem dX11_mend_75 : decode cX11_mend 75 = .ok (.iload_n 2, 1) := by decide +kernel
theorem dX11_mend_76 : decode cX11_mend 76 = .ok (.isub, 1) := by decide +kernel
theorem dX11_mend_77 : decode cX11_mend 77 = .ok (.ireturn, 1) := by decide +kernel
theorem dX11_nights_0 : decode cX11_nights 0 = .ok (.iload_n 1, 1) := by decide +kernel
theorem dX11_nights_1 : decode cX11_nights 1 = .ok (.ifCond .lt 9, 3) := by decide +kernel
theorem dX11_nights_4 : decode cX11_nights 4 = .ok (.iload_n 1, 1) := by decide +kernel
theorem dX11_nights_5 : decode cX11_nights 5 = .ok (.bipush 30, 2) := by decide +kernel
theorem dX11_nights_7 : decode cX11_nights 7 = .ok (.if_icmp .le 5, 3) := by decide +kernel
theorem dX11_nights_10 : decode cX11_nights 10 = .ok (.iconst (-1), 1) := by decide +kernel
theorem dX11_nights_11 : decode cX11_nights 11 = .ok (.ireturn, 1) := by decide +kernel
theorem dX11_nights_12 : decode cX11_nights 12 = .ok (.iload_n 1, 1) := by decide +kernel
theorem dX11_nights_13 : decode cX11_nights 13 = .ok (.ifCond .le 26, 3) := by decide +kernel
theorem dX11_nights_16 : decode cX11_nights 16 = .ok (.aload_n 0, 1) := by decide +kernel
theorem dX11_nights_17 : decode cX11_nights 17 = .ok (.invokevirtual 172, 3) := by decide +kernel
theorem dX11_nights_20 : decode cX11_nights 20 = .ok (.aload_n 0, 1) := by decide +kernel
theorem dX11_nights_21 : decode cX11_nights 21 = .ok (.getfield 26, 3) := by decide +kernel
theorem dX11_nights_24 : decode cX11_nights 24 = .ok (.aload_n 0, 1) := by decide +kernel
theorem dX11_nights_25 : decode cX11_nights 25 = .ok (.getfield 33, 3) := by decide +kernel
theorem dX11_nights_28 : decode cX11_nights 28 = .ok (.invokevirtual 81, 3) := by decide +kernel
theorem dX11_nights_31 : decode cX11_nights 31 = .ok (.aload_n 0, 1) := by decide +kernel
theorem dX11_nights_32 : decode cX11_nights 32 = .ok (.getfield 26, 3) := by decide +kernel
theorem dX11_nights_35 : decode cX11_nights 35 = .ok (.iload_n 1, 1) := by decide +kernel
theorem dX11_nights_36 : decode cX11_nights 36 = .ok (.invokevirtual 179, 3) := by decide +kernel
theorem dX11_nights_39 : decode cX11_nights 39 = .ok (.aload_n 0, 1) := by decide +kernel
theorem dX11_nights_40 : decode cX11_nights 40 = .ok (.getfield 33, 3) := by decide +kernel
theorem dX11_nights_43 : decode cX11_nights 43 = .ok (.getfield 122, 3) := by decide +kernel
theorem dX11_nights_46 : decode cX11_nights 46 = .ok (.iconst 0, 1) := by decide +kernel
theorem dX11_nights_47 : decode cX11_nights 47 = .ok (.iaload, 1) := by decide +kernel
theorem dX11_nights_48 : decode cX11_nights 48 = .ok (.ireturn, 1) := by decide +kernel
theorem dX11_undo_0 : decode cX11_undo 0 = .ok (.aload_n 0, 1) := by decide +kernel
theorem dX11_undo_1 : decode cX11_undo 1 = .ok (.getfield 49, 3) := by decide +kernel
theorem dX11_undo_4 : decode cX11_undo 4 = .ok (.invokevirtual 102, 3) := by decide +kernel
theorem dX11_undo_7 : decode cX11_undo 7 = .ok (.aload_n 0, 1) := by decide +kernel
theorem dX11_undo_8 : decode cX11_undo 8 = .ok (.getfield 40, 3) := by decide +kernel
theorem dX11_undo_11 : decode cX11_undo 11 = .ok (.aload_n 0, 1) := by decide +kernel
theorem dX11_undo_12 : decode cX11_undo 12 = .ok (.getfield 33, 3) := by decide +kernel
theorem dX11_undo_15 : decode cX11_undo 15 = .ok (.invokevirtual 182, 3) := by decide +kernel
theorem dX11_undo_18 : decode cX11_undo 18 = .ok (.ireturn, 1) := by decide +kernel
theorem dX11_tonight_0 : decode cX11_tonight 0 = .ok (.iload_n 1, 1) := by decide +kernel
theorem dX11_tonight_1 : decode cX11_tonight 1 = .ok (.ifCond .lt 8, 3) := by decide +kernel
theorem dX11_tonight_4 : decode cX11_tonight 4 = .ok (.iload_n 1, 1) := by decide +kernel
theorem dX11_tonight_5 : decode cX11_tonight 5 = .ok (.iconst 2, 1) := by decide +kernel
theorem dX11_tonight_6 : decode cX11_tonight 6 = .ok (.if_icmp .le 5, 3) := by decide +kernel
theorem dX11_tonight_9 : decode cX11_tonight 9 = .ok (.iconst (-1), 1) := by decide +kernel
theorem dX11_tonight_10 : decode cX11_tonight 10 = .ok (.ireturn, 1) := by decide +kernel
theorem dX11_tonight_11 : decode cX11_tonight 11 = .ok (.aload_n 0, 1) := by decide +kernel
theorem dX11_tonight_12 : decode cX11_tonight 12 = .ok (.getfield 49, 3) := by decide +kernel
theorem dX11_tonight_15 : decode cX11_tonight 15 = .ok (.invokevirtual 186, 3) := by decide +kernel
theorem dX11_tonight_18 : decode cX11_tonight 18 = .ok (.aload_n 0, 1) := by decide +kernel
theorem dX11_tonight_19 : decode cX11_tonight 19 = .ok (.getfield 49, 3) := by decide +kernel
theorem dX11_tonight_22 : decode cX11_tonight 22 = .ok (.iconst 1, 1) := by decide +kernel
theorem dX11_tonight_23 : decode cX11_tonight 23 = .ok (.invokevirtual 189, 3) := by decide +kernel
theorem dX11_tonight_26 : decode cX11_tonight 26 = .ok (.iload_n 1, 1) := by decide +kernel
theorem dX11_tonight_27 : decode cX11_tonight 27 = .ok (.lookupswitch 47 #[(0, 25), (1, 35)], 25) := by decide +kernel
theorem dX11_tonight_52 : decode cX11_tonight 52 = .ok (.aload_n 0, 1) := by decide +kernel
theorem dX11_tonight_53 : decode cX11_tonight 53 = .ok (.getfield 49, 3) := by decide +kernel
theorem dX11_tonight_56 : decode cX11_tonight 56 = .ok (.iconst 3, 1) := by decide +kernel
theorem dX11_tonight_57 : decode cX11_tonight 57 = .ok (.iconst 1, 1) := by decide +kernel
theorem dX11_tonight_58 : decode cX11_tonight 58 = .ok (.invokevirtual 192, 3) := by decide +kernel
theorem dX11_tonight_61 : decode cX11_tonight 61 = .ok (.ireturn, 1) := by decide +kernel
theorem dX11_tonight_62 : decode cX11_tonight 62 = .ok (.aload_n 0, 1) := by decide +kernel
theorem dX11_tonight_63 : decode cX11_tonight 63 = .ok (.getfield 49, 3) := by decide +kernel
theorem dX11_tonight_66 : decode cX11_tonight 66 = .ok (.bipush 50, 2) := by decide +kernel
theorem dX11_tonight_68 : decode cX11_tonight 68 = .ok (.bipush 7, 2) := by decide +kernel
theorem dX11_tonight_70 : decode cX11_tonight 70 = .ok (.invokevirtual 192, 3) := by decide +kernel
theorem dX11_tonight_73 : decode cX11_tonight 73 = .ok (.ireturn, 1) := by decide +kernel
theorem dX11_tonight_74 : decode cX11_tonight 74 = .ok (.aload_n 0, 1) := by decide +kernel
theorem dX11_tonight_75 : decode cX11_tonight 75 = .ok (.getfield 49, 3) := by decide +kernel
theorem dX11_tonight_78 : decode cX11_tonight 78 = .ok (.bipush 64, 2) := by decide +kernel
theorem dX11_tonight_80 : decode cX11_tonight 80 = .ok (.bipush 7, 2) := by decide +kernel
theorem dX11_tonight_82 : decode cX11_tonight 82 = .ok (.invokevirtual 192, 3) := by decide +kernel
theorem dX11_tonight_85 : decode cX11_tonight 85 = .ok (.ireturn, 1) := by decide +kernel
theorem dX11_put_0 : decode cX11_put 0 = .ok (.iload_n 1, 1) := by decide +kernel
theorem dX11_put_1 : decode cX11_put 1 = .ok (.iconst 1, 1) := by decide +kernel
theorem dX11_put_2 : decode cX11_put 2 = .ok (.if_icmp .lt 23, 3) := by decide +kernel
theorem dX11_put_5 : decode cX11_put 5 = .ok (.iload_n 1, 1) := by decide +kernel
theorem dX11_put_6 : decode cX11_put 6 = .ok (.iconst 3, 1) := by decide +kernel
theorem dX11_put_7 : decode cX11_put 7 = .ok (.if_icmp .gt 18, 3) := by decide +kernel
theorem dX11_put_10 : decode cX11_put 10 = .ok (.iload_n 2, 1) := by decide +kernel
theorem dX11_put_11 : decode cX11_put 11 = .ok (.iconst 1, 1) := by decide +kernel
theorem dX11_put_12 : decode cX11_put 12 = .ok (.if_icmp .lt 13, 3) := by decide +kernel
theorem dX11_put_15 : decode cX11_put 15 = .ok (.iload_n 2, 1) := by decide +kernel
theorem dX11_put_16 : decode cX11_put 16 = .ok (.bipush 9, 2) := by decide +kernel
theorem dX11_put_18 : decode cX11_put 18 = .ok (.if_icmp .gt 7, 3) := by decide +kernel
theorem dX11_put_21 : decode cX11_put 21 = .ok (.iconst 1, 1) := by decide +kernel
theorem dX11_put_22 : decode cX11_put 22 = .ok (.goto 4, 3) := by decide +kernel
theorem dX11_put_25 : decode cX11_put 25 = .ok (.iconst 0, 1) := by decide +kernel
theorem dX11_put_26 : decode cX11_put 26 = .ok (.istore 4, 2) := by decide +kernel
theorem dX11_put_28 : decode cX11_put 28 = .ok (.iload 4, 2) := by decide +kernel
theorem dX11_put_30 : decode cX11_put 30 = .ok (.ifCond .eq 12, 3) := by decide +kernel
theorem dX11_put_33 : decode cX11_put 33 = .ok (.iload_n 3, 1) := by decide +kernel
theorem dX11_put_34 : decode cX11_put 34 = .ok (.ifCond .lt 8, 3) := by decide +kernel
theorem dX11_put_37 : decode cX11_put 37 = .ok (.iload_n 3, 1) := by decide +kernel
theorem dX11_put_38 : decode cX11_put 38 = .ok (.iconst 1, 1) := by decide +kernel
theorem dX11_put_39 : decode cX11_put 39 = .ok (.if_icmp .le 5, 3) := by decide +kernel
theorem dX11_put_42 : decode cX11_put 42 = .ok (.iconst (-1), 1) := by decide +kernel
theorem dX11_put_43 : decode cX11_put 43 = .ok (.ireturn, 1) := by decide +kernel
theorem dX11_put_44 : decode cX11_put 44 = .ok (.aload_n 0, 1) := by decide +kernel
theorem dX11_put_45 : decode cX11_put 45 = .ok (.getfield 26, 3) := by decide +kernel
theorem dX11_put_48 : decode cX11_put 48 = .ok (.getfield 97, 3) := by decide +kernel
theorem dX11_put_51 : decode cX11_put 51 = .ok (.getfield 195, 3) := by decide +kernel
theorem dX11_put_54 : decode cX11_put 54 = .ok (.iload_n 1, 1) := by decide +kernel
theorem dX11_put_55 : decode cX11_put 55 = .ok (.if_icmp .ge 6, 3) := by decide +kernel
theorem dX11_put_58 : decode cX11_put 58 = .ok (.bipush (-2), 2) := by decide +kernel
theorem dX11_put_60 : decode cX11_put 60 = .ok (.ireturn, 1) := by decide +kernel
theorem dX11_put_61 : decode cX11_put 61 = .ok (.aload_n 0, 1) := by decide +kernel
theorem dX11_put_62 : decode cX11_put 62 = .ok (.getfield 49, 3) := by decide +kernel
theorem dX11_put_65 : decode cX11_put 65 = .ok (.iload_n 1, 1) := by decide +kernel
theorem dX11_put_66 : decode cX11_put 66 = .ok (.iload_n 2, 1) := by decide +kernel
theorem dX11_put_67 : decode cX11_put 67 = .ok (.invokevirtual 197, 3) := by decide +kernel
theorem dX11_put_70 : decode cX11_put 70 = .ok (.iload_n 3, 1) := by decide +kernel
theorem dX11_put_71 : decode cX11_put 71 = .ok (.ifCond .ne 13, 3) := by decide +kernel
theorem dX11_put_74 : decode cX11_put 74 = .ok (.aload_n 0, 1) := by decide +kernel
theorem dX11_put_75 : decode cX11_put 75 = .ok (.getfield 49, 3) := by decide +kernel
theorem dX11_put_78 : decode cX11_put 78 = .ok (.getfield 200, 3) := by decide +kernel
theorem dX11_put_81 : decode cX11_put 81 = .ok (.goto 10, 3) := by decide +kernel
theorem dX11_put_84 : decode cX11_put 84 = .ok (.aload_n 0, 1) := by decide +kernel
theorem dX11_put_85 : decode cX11_put 85 = .ok (.getfield 49, 3) := by decide +kernel
theorem dX11_put_88 : decode cX11_put 88 = .ok (.getfield 203, 3) := by decide +kernel
theorem dX11_put_91 : decode cX11_put 91 = .ok (.ireturn, 1) := by decide +kernel
theorem dX11_free_0 : decode cX11_free 0 = .ok (.aload_n 0, 1) := by decide +kernel
theorem dX11_free_1 : decode cX11_free 1 = .ok (.getfield 26, 3) := by decide +kernel
theorem dX11_free_4 : decode cX11_free 4 = .ok (.aload_n 0, 1) := by decide +kernel
theorem dX11_free_5 : decode cX11_free 5 = .ok (.getfield 33, 3) := by decide +kernel
theorem dX11_free_8 : decode cX11_free 8 = .ok (.invokevirtual 81, 3) := by decide +kernel
theorem dX11_free_11 : decode cX11_free 11 = .ok (.aload_n 0, 1) := by decide +kernel
theorem dX11_free_12 : decode cX11_free 12 = .ok (.getfield 26, 3) := by decide +kernel
theorem dX11_free_15 : decode cX11_free 15 = .ok (.invokevirtual 206, 3) := by decide +kernel
theorem dX11_free_18 : decode cX11_free 18 = .ok (.ireturn, 1) := by decide +kernel
theorem dX11_stop_0 : decode cX11_stop 0 = .ok (.iload_n 1, 1) := by decide +kernel
theorem dX11_stop_1 : decode cX11_stop 1 = .ok (.ifCond .lt 8, 3) := by decide +kernel
theorem dX11_stop_4 : decode cX11_stop 4 = .ok (.iload_n 1, 1) := by decide +kernel
theorem dX11_stop_5 : decode cX11_stop 5 = .ok (.iconst 1, 1) := by decide +kernel
theorem dX11_stop_6 : decode cX11_stop 6 = .ok (.if_icmp .le 5, 3) := by decide +kernel
theorem dX11_stop_9 : decode cX11_stop 9 = .ok (.iconst (-1), 1) := by decide +kernel
theorem dX11_stop_10 : decode cX11_stop 10 = .ok (.ireturn, 1) := by decide +kernel
theorem dX11_stop_11 : decode cX11_stop 11 = .ok (.aload_n 0, 1) := by decide +kernel
theorem dX11_stop_12 : decode cX11_stop 12 = .ok (.getfield 49, 3) := by decide +kernel
theorem dX11_stop_15 : decode cX11_stop 15 = .ok (.invokevirtual 210, 3) := by decide +kernel
theorem dX11_stop_18 : decode cX11_stop 18 = .ok (.iload_n 1, 1) := by decide +kernel
theorem dX11_stop_19 : decode cX11_stop 19 = .ok (.ifCond .ne 13, 3) := by decide +kernel
theorem dX11_stop_22 : decode cX11_stop 22 = .ok (.aload_n 0, 1) := by decide +kernel
theorem dX11_stop_23 : decode cX11_stop 23 = .ok (.getfield 49, 3) := by decide +kernel
theorem dX11_stop_26 : decode cX11_stop 26 = .ok (.getfield 200, 3) := by decide +kernel
theorem dX11_stop_29 : decode cX11_stop 29 = .ok (.goto 10, 3) := by decide +kernel
theorem dX11_stop_32 : decode cX11_stop 32 = .ok (.aload_n 0, 1) := by decide +kernel
theorem dX11_stop_33 : decode cX11_stop 33 = .ok (.getfield 49, 3) := by decide +kernel
theorem dX11_stop_36 : decode cX11_stop 36 = .ok (.getfield 203, 3) := by decide +kernel
theorem dX11_stop_39 : decode cX11_stop 39 = .ok (.ireturn, 1) := by decide +kernel
theorem dX11_saves_0 : decode cX11_saves 0 = .ok (.aload_n 0, 1) := by decide +kernel
theorem dX11_saves_1 : decode cX11_saves 1 = .ok (.iload_n 1, 1) := by decide +kernel
theorem dX11_saves_2 : decode cX11_saves 2 = .ok (.invokevirtual 128, 3) := by decide +kernel
theorem dX11_saves_5 : decode cX11_saves 5 = .ok (.ifCond .ne 5, 3) := by decide +kernel
theorem dX11_saves_8 : decode cX11_saves 8 = .ok (.iconst (-1), 1) := by decide +kernel
theorem dX11_saves_9 : decode cX11_saves 9 = .ok (.ireturn, 1) := by decide +kernel
theorem dX11_saves_10 : decode cX11_saves 10 = .ok (.aload_n 0, 1) := by decide +kernel
theorem dX11_saves_11 : decode cX11_saves 11 = .ok (.getfield 26, 3) := by decide +kernel
theorem dX11_saves_14 : decode cX11_saves 14 = .ok (.aload_n 0, 1) := by decide +kernel
theorem dX11_saves_15 : decode cX11_saves 15 = .ok (.getfield 33, 3) := by decide +kernel
theorem dX11_saves_18 : decode cX11_saves 18 = .ok (.invokevirtual 81, 3) := by decide +kernel
theorem dX11_saves_21 : decode cX11_saves 21 = .ok (.aload_n 0, 1) := by decide +kernel
theorem dX11_saves_22 : decode cX11_saves 22 = .ok (.getfield 26, 3) := by decide +kernel
theorem dX11_saves_25 : decode cX11_saves 25 = .ok (.iload_n 1, 1) := by decide +kernel
theorem dX11_saves_26 : decode cX11_saves 26 = .ok (.invokevirtual 148, 3) := by decide +kernel
theorem dX11_saves_29 : decode cX11_saves 29 = .ok (.ifCond .ne 6, 3) := by decide +kernel
theorem dX11_saves_32 : decode cX11_saves 32 = .ok (.bipush (-2), 2) := by decide +kernel
theorem dX11_saves_34 : decode cX11_saves 34 = .ok (.ireturn, 1) := by decide +kernel
theorem dX11_saves_35 : decode cX11_saves 35 = .ok (.aload_n 0, 1) := by decide +kernel
theorem dX11_saves_36 : decode cX11_saves 36 = .ok (.getfield 26, 3) := by decide +kernel
theorem dX11_saves_39 : decode cX11_saves 39 = .ok (.getfield 151, 3) := by decide +kernel
theorem dX11_saves_42 : decode cX11_saves 42 = .ok (.iload_n 1, 1) := by decide +kernel
theorem dX11_saves_43 : decode cX11_saves 43 = .ok (.aaload, 1) := by decide +kernel
theorem dX11_saves_44 : decode cX11_saves 44 = .ok (.getfield 155, 3) := by decide +kernel
theorem dX11_saves_47 : decode cX11_saves 47 = .ok (.aload_n 0, 1) := by decide +kernel
theorem dX11_saves_48 : decode cX11_saves 48 = .ok (.getfield 49, 3) := by decide +kernel
theorem dX11_saves_51 : decode cX11_saves 51 = .ok (.iload_n 1, 1) := by decide +kernel
theorem dX11_saves_52 : decode cX11_saves 52 = .ok (.invokevirtual 213, 3) := by decide +kernel
theorem dX11_saves_55 : decode cX11_saves 55 = .ok (.isub, 1) := by decide +kernel
theorem dX11_saves_56 : decode cX11_saves 56 = .ok (.ireturn, 1) := by decide +kernel
theorem dX11_pays_0 : decode cX11_pays 0 = .ok (.aload_n 0, 1) := by decide +kernel
theorem dX11_pays_1 : decode cX11_pays 1 = .ok (.iload_n 1, 1) := by decide +kernel
theorem dX11_pays_2 : decode cX11_pays 2 = .ok (.invokevirtual 128, 3) := by decide +kernel
theorem dX11_pays_5 : decode cX11_pays 5 = .ok (.ifCond .eq 13, 3) := by decide +kernel
theorem dX11_pays_8 : decode cX11_pays 8 = .ok (.iload_n 2, 1) := by decide +kernel
theorem dX11_pays_9 : decode cX11_pays 9 = .ok (.ifCond .lt 9, 3) := by decide +kernel
theorem dX11_pays_12 : decode cX11_pays 12 = .ok (.iload_n 2, 1) := by decide +kernel
theorem dX11_pays_13 : decode cX11_pays 13 = .ok (.bipush 60, 2) := by decide +kernel
theorem dX11_pays_15 : decode cX11_pays 15 = .ok (.if_icmp .le 5, 3) := by decide +kernel
theorem dX11_pays_18 : decode cX11_pays 18 = .ok (.iconst (-1), 1) := by decide +kernel
theorem dX11_pays_19 : decode cX11_pays 19 = .ok (.ireturn, 1) := by decide +kernel
theorem dX11_pays_20 : decode cX11_pays 20 = .ok (.aload_n 0, 1) := by decide +kernel
theorem dX11_pays_21 : decode cX11_pays 21 = .ok (.getfield 49, 3) := by decide +kernel
theorem dX11_pays_24 : decode cX11_pays 24 = .ok (.invokevirtual 186, 3) := by decide +kernel
theorem dX11_pays_27 : decode cX11_pays 27 = .ok (.aload_n 0, 1) := by decide +kernel
theorem dX11_pays_28 : decode cX11_pays 28 = .ok (.getfield 49, 3) := by decide +kernel
theorem dX11_pays_31 : decode cX11_pays 31 = .ok (.iload_n 2, 1) := by decide +kernel
theorem dX11_pays_32 : decode cX11_pays 32 = .ok (.invokevirtual 189, 3) := by decide +kernel
theorem dX11_pays_35 : decode cX11_pays 35 = .ok (.aload_n 0, 1) := by decide +kernel
theorem dX11_pays_36 : decode cX11_pays 36 = .ok (.getfield 49, 3) := by decide +kernel
theorem dX11_pays_39 : decode cX11_pays 39 = .ok (.bipush 43, 2) := by decide +kernel
theorem dX11_pays_41 : decode cX11_pays 41 = .ok (.iload_n 1, 1) := by decide +kernel
theorem dX11_pays_42 : decode cX11_pays 42 = .ok (.iadd, 1) := by decide +kernel
theorem dX11_pays_43 : decode cX11_pays 43 = .ok (.iconst 1, 1) := by decide +kernel
theorem dX11_pays_44 : decode cX11_pays 44 = .ok (.invokevirtual 192, 3) := by decide +kernel
theorem dX11_pays_47 : decode cX11_pays 47 = .ok (.ireturn, 1) := by decide +kernel
theorem dX11_seen_0 : decode cX11_seen 0 = .ok (.aload_n 0, 1) := by decide +kernel
theorem dX11_seen_1 : decode cX11_seen 1 = .ok (.iload_n 1, 1) := by decide +kernel
theorem dX11_seen_2 : decode cX11_seen 2 = .ok (.invokevirtual 105, 3) := by decide +kernel
theorem dX11_seen_5 : decode cX11_seen 5 = .ok (.ifCond .eq 13, 3) := by decide +kernel
theorem dX11_seen_8 : decode cX11_seen 8 = .ok (.iload_n 2, 1) := by decide +kernel
theorem dX11_seen_9 : decode cX11_seen 9 = .ok (.ifCond .lt 9, 3) := by decide +kernel
theorem dX11_seen_12 : decode cX11_seen 12 = .ok (.iload_n 2, 1) := by decide +kernel
theorem dX11_seen_13 : decode cX11_seen 13 = .ok (.bipush 60, 2) := by decide +kernel
theorem dX11_seen_15 : decode cX11_seen 15 = .ok (.if_icmp .le 5, 3) := by decide +kernel
theorem dX11_seen_18 : decode cX11_seen 18 = .ok (.iconst (-1), 1) := by decide +kernel
theorem dX11_seen_19 : decode cX11_seen 19 = .ok (.ireturn, 1) := by decide +kernel
theorem dX11_seen_20 : decode cX11_seen 20 = .ok (.aload_n 0, 1) := by decide +kernel
theorem dX11_seen_21 : decode cX11_seen 21 = .ok (.getfield 49, 3) := by decide +kernel
theorem dX11_seen_24 : decode cX11_seen 24 = .ok (.invokevirtual 186, 3) := by decide +kernel
theorem dX11_seen_27 : decode cX11_seen 27 = .ok (.aload_n 0, 1) := by decide +kernel
theorem dX11_seen_28 : decode cX11_seen 28 = .ok (.getfield 49, 3) := by decide +kernel
theorem dX11_seen_31 : decode cX11_seen 31 = .ok (.iload_n 2, 1) := by decide +kernel
theorem dX11_seen_32 : decode cX11_seen 32 = .ok (.invokevirtual 189, 3) := by decide +kernel
theorem dX11_seen_35 : decode cX11_seen 35 = .ok (.aload_n 0, 1) := by decide +kernel
theorem dX11_seen_36 : decode cX11_seen 36 = .ok (.getfield 49, 3) := by decide +kernel
theorem dX11_seen_39 : decode cX11_seen 39 = .ok (.bipush 19, 2) := by decide +kernel
theorem dX11_seen_41 : decode cX11_seen 41 = .ok (.iload_n 1, 1) := by decide +kernel
theorem dX11_seen_42 : decode cX11_seen 42 = .ok (.iadd, 1) := by decide +kernel
theorem dX11_seen_43 : decode cX11_seen 43 = .ok (.iconst 1, 1) := by decide +kernel
theorem dX11_seen_44 : decode cX11_seen 44 = .ok (.invokevirtual 192, 3) := by decide +kernel
theorem dX11_seen_47 : decode cX11_seen 47 = .ok (.ireturn, 1) := by decide +kernel
theorem dX11_busiest_0 : decode cX11_busiest 0 = .ok (.iload_n 1, 1) := by decide +kernel
theorem dX11_busiest_1 : decode cX11_busiest 1 = .ok (.ifCond .lt 18, 3) := by decide +kernel
theorem dX11_busiest_4 : decode cX11_busiest 4 = .ok (.iload_n 1, 1) := by decide +kernel
theorem dX11_busiest_5 : decode cX11_busiest 5 = .ok (.bipush 60, 2) := by decide +kernel
theorem dX11_busiest_7 : decode cX11_busiest 7 = .ok (.if_icmp .gt 12, 3) := by decide +kernel
theorem dX11_busiest_10 : decode cX11_busiest 10 = .ok (.iload_n 2, 1) := by decide +kernel
theorem dX11_busiest_11 : decode cX11_busiest 11 = .ok (.ifCond .lt 8, 3) := by decide +kernel
theorem dX11_busiest_14 : decode cX11_busiest 14 = .ok (.iload_n 2, 1) := by decide +kernel
theorem dX11_busiest_15 : decode cX11_busiest 15 = .ok (.iconst 1, 1) := by decide +kernel
theorem dX11_busiest_16 : decode cX11_busiest 16 = .ok (.if_icmp .le 5, 3) := by decide +kernel
theorem dX11_busiest_19 : decode cX11_busiest 19 = .ok (.iconst (-1), 1) := by decide +kernel
theorem dX11_busiest_20 : decode cX11_busiest 20 = .ok (.ireturn, 1) := by decide +kernel
theorem dX11_busiest_21 : decode cX11_busiest 21 = .ok (.aload_n 0, 1) := by decide +kernel
theorem dX11_busiest_22 : decode cX11_busiest 22 = .ok (.getfield 26, 3) := by decide +kernel
theorem dX11_busiest_25 : decode cX11_busiest 25 = .ok (.getfield 97, 3) := by decide +kernel
theorem dX11_busiest_28 : decode cX11_busiest 28 = .ok (.getfield 195, 3) := by decide +kernel
theorem dX11_busiest_31 : decode cX11_busiest 31 = .ok (.ifCond .ne 6, 3) := by decide +kernel
theorem dX11_busiest_34 : decode cX11_busiest 34 = .ok (.bipush (-2), 2) := by decide +kernel
theorem dX11_busiest_36 : decode cX11_busiest 36 = .ok (.ireturn, 1) := by decide +kernel
theorem dX11_busiest_37 : decode cX11_busiest 37 = .ok (.aload_n 0, 1) := by decide +kernel
theorem dX11_busiest_38 : decode cX11_busiest 38 = .ok (.getfield 49, 3) := by decide +kernel
theorem dX11_busiest_41 : decode cX11_busiest 41 = .ok (.iload_n 1, 1) := by decide +kernel
theorem dX11_busiest_42 : decode cX11_busiest 42 = .ok (.invokevirtual 217, 3) := by decide +kernel
theorem dX11_busiest_45 : decode cX11_busiest 45 = .ok (.iload_n 2, 1) := by decide +kernel
theorem dX11_busiest_46 : decode cX11_busiest 46 = .ok (.ifCond .ne 13, 3) := by decide +kernel
theorem dX11_busiest_49 : decode cX11_busiest 49 = .ok (.aload_n 0, 1) := by decide +kernel
theorem dX11_busiest_50 : decode cX11_busiest 50 = .ok (.getfield 49, 3) := by decide +kernel
theorem dX11_busiest_53 : decode cX11_busiest 53 = .ok (.getfield 203, 3) := by decide +kernel
theorem dX11_busiest_56 : decode cX11_busiest 56 = .ok (.goto 10, 3) := by decide +kernel
theorem dX11_busiest_59 : decode cX11_busiest 59 = .ok (.aload_n 0, 1) := by decide +kernel
theorem dX11_busiest_60 : decode cX11_busiest 60 = .ok (.getfield 49, 3) := by decide +kernel
theorem dX11_busiest_63 : decode cX11_busiest 63 = .ok (.getfield 200, 3) := by decide +kernel
theorem dX11_busiest_66 : decode cX11_busiest 66 = .ok (.ireturn, 1) := by decide +kernel
theorem dX11_best_0 : decode cX11_best 0 = .ok (.iload_n 1, 1) := by decide +kernel
theorem dX11_best_1 : decode cX11_best 1 = .ok (.iconst 1, 1) := by decide +kernel
theorem dX11_best_2 : decode cX11_best 2 = .ok (.if_icmp .lt 18, 3) := by decide +kernel
theorem dX11_best_5 : decode cX11_best 5 = .ok (.iload_n 1, 1) := by decide +kernel
theorem dX11_best_6 : decode cX11_best 6 = .ok (.bipush 30, 2) := by decide +kernel
theorem dX11_best_8 : decode cX11_best 8 = .ok (.if_icmp .gt 12, 3) := by decide +kernel
theorem dX11_best_11 : decode cX11_best 11 = .ok (.iload_n 2, 1) := by decide +kernel
theorem dX11_best_12 : decode cX11_best 12 = .ok (.ifCond .lt 8, 3) := by decide +kernel
theorem dX11_best_15 : decode cX11_best 15 = .ok (.iload_n 2, 1) := by decide +kernel
theorem dX11_best_16 : decode cX11_best 16 = .ok (.iconst 1, 1) := by decide +kernel
theorem dX11_best_17 : decode cX11_best 17 = .ok (.if_icmp .le 5, 3) := by decide +kernel
theorem dX11_best_20 : decode cX11_best 20 = .ok (.iconst (-1), 1) := by decide +kernel
theorem dX11_best_21 : decode cX11_best 21 = .ok (.ireturn, 1) := by decide +kernel
theorem dX11_best_22 : decode cX11_best 22 = .ok (.aload_n 0, 1) := by decide +kernel
theorem dX11_best_23 : decode cX11_best 23 = .ok (.getfield 49, 3) := by decide +kernel
theorem dX11_best_26 : decode cX11_best 26 = .ok (.iload_n 1, 1) := by decide +kernel
theorem dX11_best_27 : decode cX11_best 27 = .ok (.invokevirtual 220, 3) := by decide +kernel
theorem dX11_best_30 : decode cX11_best 30 = .ok (.iload_n 2, 1) := by decide +kernel
theorem dX11_best_31 : decode cX11_best 31 = .ok (.ifCond .ne 13, 3) := by decide +kernel
theorem dX11_best_34 : decode cX11_best 34 = .ok (.aload_n 0, 1) := by decide +kernel
theorem dX11_best_35 : decode cX11_best 35 = .ok (.getfield 49, 3) := by decide +kernel
theorem dX11_best_38 : decode cX11_best 38 = .ok (.getfield 203, 3) := by decide +kernel
theorem dX11_best_41 : decode cX11_best 41 = .ok (.goto 10, 3) := by decide +kernel
theorem dX11_best_44 : decode cX11_best 44 = .ok (.aload_n 0, 1) := by decide +kernel
theorem dX11_best_45 : decode cX11_best 45 = .ok (.getfield 49, 3) := by decide +kernel
theorem dX11_best_48 : decode cX11_best 48 = .ok (.getfield 200, 3) := by decide +kernel
theorem dX11_best_51 : decode cX11_best 51 = .ok (.ireturn, 1) := by decide +kernel
theorem dX11_keepers_0 : decode cX11_keepers 0 = .ok (.iload_n 1, 1) := by decide +kernel
theorem dX11_keepers_1 : decode cX11_keepers 1 = .ok (.iconst 1, 1) := by decide +kernel
theorem dX11_keepers_2 : decode cX11_keepers 2 = .ok (.if_icmp .lt 14, 3) := by decide +kernel
theorem dX11_keepers_5 : decode cX11_keepers 5 = .ok (.iload_n 1, 1) := by decide +kernel
theorem dX11_keepers_6 : decode cX11_keepers 6 = .ok (.bipush 9, 2) := by decide +kernel
theorem dX11_keepers_8 : decode cX11_keepers 8 = .ok (.if_icmp .gt 8, 3) := by decide +kernel
theorem dX11_keepers_11 : decode cX11_keepers 11 = .ok (.iload_n 2, 1) := by decide +kernel
theorem dX11_keepers_12 : decode cX11_keepers 12 = .ok (.iconst (-1), 1) := by decide +kernel
theorem dX11_keepers_13 : decode cX11_keepers 13 = .ok (.if_icmp .ge 5, 3) := by decide +kernel
theorem dX11_keepers_16 : decode cX11_keepers 16 = .ok (.iconst (-1), 1) := by decide +kernel
theorem dX11_keepers_17 : decode cX11_keepers 17 = .ok (.ireturn, 1) := by decide +kernel
theorem dX11_keepers_18 : decode cX11_keepers 18 = .ok (.aload_n 0, 1) := by decide +kernel
theorem dX11_keepers_19 : decode cX11_keepers 19 = .ok (.getfield 49, 3) := by decide +kernel
theorem dX11_keepers_22 : decode cX11_keepers 22 = .ok (.iload_n 1, 1) := by decide +kernel
theorem dX11_keepers_23 : decode cX11_keepers 23 = .ok (.invokevirtual 223, 3) := by decide +kernel
theorem dX11_keepers_26 : decode cX11_keepers 26 = .ok (.aload_n 0, 1) := by decide +kernel
theorem dX11_keepers_27 : decode cX11_keepers 27 = .ok (.getfield 49, 3) := by decide +kernel
theorem dX11_keepers_30 : decode cX11_keepers 30 = .ok (.iload_n 2, 1) := by decide +kernel
theorem dX11_keepers_31 : decode cX11_keepers 31 = .ok (.invokevirtual 226, 3) := by decide +kernel
theorem dX11_keepers_34 : decode cX11_keepers 34 = .ok (.ireturn, 1) := by decide +kernel
theorem dX11_breaks_0 : decode cX11_breaks 0 = .ok (.aload_n 0, 1) := by decide +kernel
theorem dX11_breaks_1 : decode cX11_breaks 1 = .ok (.iload_n 1, 1) := by decide +kernel
theorem dX11_breaks_2 : decode cX11_breaks 2 = .ok (.invokevirtual 105, 3) := by decide +kernel
theorem dX11_breaks_5 : decode cX11_breaks 5 = .ok (.ifCond .eq 14, 3) := by decide +kernel
theorem dX11_breaks_8 : decode cX11_breaks 8 = .ok (.aload_n 0, 1) := by decide +kernel
theorem dX11_breaks_9 : decode cX11_breaks 9 = .ok (.getfield 49, 3) := by decide +kernel
theorem dX11_breaks_12 : decode cX11_breaks 12 = .ok (.iload_n 1, 1) := by decide +kernel
theorem dX11_breaks_13 : decode cX11_breaks 13 = .ok (.invokevirtual 229, 3) := by decide +kernel
theorem dX11_breaks_16 : decode cX11_breaks 16 = .ok (.goto 4, 3) := by decide +kernel
theorem dX11_breaks_19 : decode cX11_breaks 19 = .ok (.iconst (-1), 1) := by decide +kernel
theorem dX11_breaks_20 : decode cX11_breaks 20 = .ok (.ireturn, 1) := by decide +kernel
theorem dX11_first_0 : decode cX11_first 0 = .ok (.iload_n 1, 1) := by decide +kernel
theorem dX11_first_1 : decode cX11_first 1 = .ok (.ifCond .lt 8, 3) := by decide +kernel
theorem dX11_first_4 : decode cX11_first 4 = .ok (.iload_n 1, 1) := by decide +kernel
theorem dX11_first_5 : decode cX11_first 5 = .ok (.iconst 1, 1) := by decide +kernel
theorem dX11_first_6 : decode cX11_first 6 = .ok (.if_icmp .le 5, 3) := by decide +kernel
theorem dX11_first_9 : decode cX11_first 9 = .ok (.iconst (-1), 1) := by decide +kernel
theorem dX11_first_10 : decode cX11_first 10 = .ok (.ireturn, 1) := by decide +kernel
theorem dX11_first_11 : decode cX11_first 11 = .ok (.aload_n 0, 1) := by decide +kernel
theorem dX11_first_12 : decode cX11_first 12 = .ok (.getfield 49, 3) := by decide +kernel
theorem dX11_first_15 : decode cX11_first 15 = .ok (.invokevirtual 232, 3) := by decide +kernel
theorem dX11_first_18 : decode cX11_first 18 = .ok (.iload_n 1, 1) := by decide +kernel
theorem dX11_first_19 : decode cX11_first 19 = .ok (.ifCond .ne 13, 3) := by decide +kernel
theorem dX11_first_22 : decode cX11_first 22 = .ok (.aload_n 0, 1) := by decide +kernel
theorem dX11_first_23 : decode cX11_first 23 = .ok (.getfield 49, 3) := by decide +kernel
theorem dX11_first_26 : decode cX11_first 26 = .ok (.getfield 203, 3) := by decide +kernel
theorem dX11_first_29 : decode cX11_first 29 = .ok (.goto 10, 3) := by decide +kernel
theorem dX11_first_32 : decode cX11_first 32 = .ok (.aload_n 0, 1) := by decide +kernel
theorem dX11_first_33 : decode cX11_first 33 = .ok (.getfield 49, 3) := by decide +kernel
theorem dX11_first_36 : decode cX11_first 36 = .ok (.getfield 200, 3) := by decide +kernel
theorem dX11_first_39 : decode cX11_first 39 = .ok (.ireturn, 1) := by decide +kernel
theorem dX11_meets_0 : decode cX11_meets 0 = .ok (.aload_n 0, 1) := by decide +kernel
theorem dX11_meets_1 : decode cX11_meets 1 = .ok (.iload_n 1, 1) := by decide +kernel
theorem dX11_meets_2 : decode cX11_meets 2 = .ok (.invokevirtual 128, 3) := by decide +kernel
theorem dX11_meets_5 : decode cX11_meets 5 = .ok (.ifCond .eq 16, 3) := by decide +kernel
theorem dX11_meets_8 : decode cX11_meets 8 = .ok (.aload_n 0, 1) := by decide +kernel
theorem dX11_meets_9 : decode cX11_meets 9 = .ok (.iload_n 2, 1) := by decide +kernel
theorem dX11_meets_10 : decode cX11_meets 10 = .ok (.invokevirtual 128, 3) := by decide +kernel
theorem dX11_meets_13 : decode cX11_meets 13 = .ok (.ifCond .eq 8, 3) := by decide +kernel
theorem dX11_meets_16 : decode cX11_meets 16 = .ok (.iload_n 1, 1) := by decide +kernel
theorem dX11_meets_17 : decode cX11_meets 17 = .ok (.iload_n 2, 1) := by decide +kernel
theorem dX11_meets_18 : decode cX11_meets 18 = .ok (.if_icmp .ne 5, 3) := by decide +kernel
theorem dX11_meets_21 : decode cX11_meets 21 = .ok (.iconst (-1), 1) := by decide +kernel
theorem dX11_meets_22 : decode cX11_meets 22 = .ok (.ireturn, 1) := by decide +kernel
theorem dX11_meets_23 : decode cX11_meets 23 = .ok (.aload_n 0, 1) := by decide +kernel
theorem dX11_meets_24 : decode cX11_meets 24 = .ok (.getfield 26, 3) := by decide +kernel
theorem dX11_meets_27 : decode cX11_meets 27 = .ok (.getfield 97, 3) := by decide +kernel
theorem dX11_meets_30 : decode cX11_meets 30 = .ok (.astore_n 3, 1) := by decide +kernel
theorem dX11_meets_31 : decode cX11_meets 31 = .ok (.aload_n 0, 1) := by decide +kernel
theorem dX11_meets_32 : decode cX11_meets 32 = .ok (.getfield 33, 3) := by decide +kernel
theorem dX11_meets_35 : decode cX11_meets 35 = .ok (.getfield 122, 3) := by decide +kernel
theorem dX11_meets_38 : decode cX11_meets 38 = .ok (.iconst 0, 1) := by decide +kernel
theorem dX11_meets_39 : decode cX11_meets 39 = .ok (.iaload, 1) := by decide +kernel
theorem dX11_meets_40 : decode cX11_meets 40 = .ok (.istore 4, 2) := by decide +kernel
theorem dX11_meets_42 : decode cX11_meets 42 = .ok (.iload 4, 2) := by decide +kernel
theorem dX11_meets_44 : decode cX11_meets 44 = .ok (.bipush 99, 2) := by decide +kernel
theorem dX11_meets_46 : decode cX11_meets 46 = .ok (.if_icmp .gt 32, 3) := by decide +kernel
theorem dX11_meets_49 : decode cX11_meets 49 = .ok (.aload_n 3, 1) := by decide +kernel
theorem dX11_meets_50 : decode cX11_meets 50 = .ok (.iload_n 1, 1) := by decide +kernel
theorem dX11_meets_51 : decode cX11_meets 51 = .ok (.iload 4, 2) := by decide +kernel
theorem dX11_meets_53 : decode cX11_meets 53 = .ok (.invokevirtual 140, 3) := by decide +kernel
theorem dX11_meets_56 : decode cX11_meets 56 = .ok (.ifCond .eq 16, 3) := by decide +kernel
theorem dX11_meets_59 : decode cX11_meets 59 = .ok (.aload_n 3, 1) := by decide +kernel
theorem dX11_meets_60 : decode cX11_meets 60 = .ok (.iload_n 2, 1) := by decide +kernel
theorem dX11_meets_61 : decode cX11_meets 61 = .ok (.iload 4, 2) := by decide +kernel
theorem dX11_meets_63 : decode cX11_meets 63 = .ok (.invokevirtual 140, 3) := by decide +kernel
theorem dX11_meets_66 : decode cX11_meets 66 = .ok (.ifCond .eq 6, 3) := by decide +kernel
theorem dX11_meets_69 : decode cX11_meets 69 = .ok (.iload 4, 2) := by decide +kernel
theorem dX11_meets_71 : decode cX11_meets 71 = .ok (.ireturn, 1) := by decide +kernel
theorem dX11_meets_72 : decode cX11_meets 72 = .ok (.iinc 4 1, 3) := by decide +kernel
theorem dX11_meets_75 : decode cX11_meets 75 = .ok (.goto (-33), 3) := by decide +kernel
theorem dX11_meets_78 : decode cX11_meets 78 = .ok (.bipush (-2), 2) := by decide +kernel
theorem dX11_meets_80 : decode cX11_meets 80 = .ok (.ireturn, 1) := by decide +kernel
theorem dX11_cutOff_0 : decode cX11_cutOff 0 = .ok (.aload_n 0, 1) := by decide +kernel
theorem dX11_cutOff_1 : decode cX11_cutOff 1 = .ok (.iload_n 1, 1) := by decide +kernel
theorem dX11_cutOff_2 : decode cX11_cutOff 2 = .ok (.invokevirtual 128, 3) := by decide +kernel
theorem dX11_cutOff_5 : decode cX11_cutOff 5 = .ok (.ifCond .eq 14, 3) := by decide +kernel
theorem dX11_cutOff_8 : decode cX11_cutOff 8 = .ok (.aload_n 0, 1) := by decide +kernel
theorem dX11_cutOff_9 : decode cX11_cutOff 9 = .ok (.getfield 49, 3) := by decide +kernel
theorem dX11_cutOff_12 : decode cX11_cutOff 12 = .ok (.iload_n 1, 1) := by decide +kernel
theorem dX11_cutOff_13 : decode cX11_cutOff 13 = .ok (.invokevirtual 235, 3) := by decide +kernel
theorem dX11_cutOff_16 : decode cX11_cutOff 16 = .ok (.goto 4, 3) := by decide +kernel
theorem dX11_cutOff_19 : decode cX11_cutOff 19 = .ok (.iconst (-1), 1) := by decide +kernel
theorem dX11_cutOff_20 : decode cX11_cutOff 20 = .ok (.ireturn, 1) := by decide +kernel
theorem dX11_year_0 : decode cX11_year 0 = .ok (.iload_n 1, 1) := by decide +kernel
theorem dX11_year_1 : decode cX11_year 1 = .ok (.ifCond .lt 20, 3) := by decide +kernel
theorem dX11_year_4 : decode cX11_year 4 = .ok (.iload_n 1, 1) := by decide +kernel
theorem dX11_year_5 : decode cX11_year 5 = .ok (.bipush 60, 2) := by decide +kernel
theorem dX11_year_7 : decode cX11_year 7 = .ok (.if_icmp .gt 14, 3) := by decide +kernel
theorem dX11_year_10 : decode cX11_year 10 = .ok (.iload_n 2, 1) := by decide +kernel
theorem dX11_year_11 : decode cX11_year 11 = .ok (.iconst 1, 1) := by decide +kernel
theorem dX11_year_12 : decode cX11_year 12 = .ok (.if_icmp .lt 9, 3) := by decide +kernel
theorem dX11_year_15 : decode cX11_year 15 = .ok (.iload_n 2, 1) := by decide +kernel
theorem dX11_year_16 : decode cX11_year 16 = .ok (.bipush 20, 2) := by decide +kernel
theorem dX11_year_18 : decode cX11_year 18 = .ok (.if_icmp .le 5, 3) := by decide +kernel
theorem dX11_year_21 : decode cX11_year 21 = .ok (.iconst (-1), 1) := by decide +kernel
theorem dX11_year_22 : decode cX11_year 22 = .ok (.ireturn, 1) := by decide +kernel
theorem dX11_year_23 : decode cX11_year 23 = .ok (.aload_n 0, 1) := by decide +kernel
theorem dX11_year_24 : decode cX11_year 24 = .ok (.getfield 49, 3) := by decide +kernel
theorem dX11_year_27 : decode cX11_year 27 = .ok (.iload_n 1, 1) := by decide +kernel
theorem dX11_year_28 : decode cX11_year 28 = .ok (.iload_n 2, 1) := by decide +kernel
theorem dX11_year_29 : decode cX11_year 29 = .ok (.invokevirtual 238, 3) := by decide +kernel
theorem dX11_year_32 : decode cX11_year 32 = .ok (.ireturn, 1) := by decide +kernel
theorem dX11_sheet_0 : decode cX11_sheet 0 = .ok (.aload_n 0, 1) := by decide +kernel
theorem dX11_sheet_1 : decode cX11_sheet 1 = .ok (.getfield 26, 3) := by decide +kernel
theorem dX11_sheet_4 : decode cX11_sheet 4 = .ok (.getfield 97, 3) := by decide +kernel
theorem dX11_sheet_7 : decode cX11_sheet 7 = .ok (.iload_n 1, 1) := by decide +kernel
theorem dX11_sheet_8 : decode cX11_sheet 8 = .ok (.iload_n 2, 1) := by decide +kernel
theorem dX11_sheet_9 : decode cX11_sheet 9 = .ok (.invokevirtual 241, 3) := by decide +kernel
theorem dX11_sheet_12 : decode cX11_sheet 12 = .ok (.ireturn, 1) := by decide +kernel
theorem dX11_tell_0 : decode cX11_tell 0 = .ok (.aload_n 0, 1) := by decide +kernel
theorem dX11_tell_1 : decode cX11_tell 1 = .ok (.iload_n 1, 1) := by decide +kernel
theorem dX11_tell_2 : decode cX11_tell 2 = .ok (.invokevirtual 105, 3) := by decide +kernel
theorem dX11_tell_5 : decode cX11_tell 5 = .ok (.ifCond .eq 17, 3) := by decide +kernel
theorem dX11_tell_8 : decode cX11_tell 8 = .ok (.iload_n 2, 1) := by decide +kernel
theorem dX11_tell_9 : decode cX11_tell 9 = .ok (.ifCond .lt 13, 3) := by decide +kernel
theorem dX11_tell_12 : decode cX11_tell 12 = .ok (.iload_n 2, 1) := by decide +kernel
theorem dX11_tell_13 : decode cX11_tell 13 = .ok (.bipush 30, 2) := by decide +kernel
theorem dX11_tell_15 : decode cX11_tell 15 = .ok (.if_icmp .gt 7, 3) := by decide +kernel
theorem dX11_tell_18 : decode cX11_tell 18 = .ok (.iconst 1, 1) := by decide +kernel
theorem dX11_tell_19 : decode cX11_tell 19 = .ok (.goto 4, 3) := by decide +kernel
theorem dX11_tell_22 : decode cX11_tell 22 = .ok (.iconst 0, 1) := by decide +kernel
theorem dX11_tell_23 : decode cX11_tell 23 = .ok (.istore 4, 2) := by decide +kernel
theorem dX11_tell_25 : decode cX11_tell 25 = .ok (.iload 4, 2) := by decide +kernel
theorem dX11_tell_27 : decode cX11_tell 27 = .ok (.ifCond .eq 20, 3) := by decide +kernel
theorem dX11_tell_30 : decode cX11_tell 30 = .ok (.aload_n 0, 1) := by decide +kernel
theorem dX11_tell_31 : decode cX11_tell 31 = .ok (.getfield 26, 3) := by decide +kernel
theorem dX11_tell_34 : decode cX11_tell 34 = .ok (.getfield 97, 3) := by decide +kernel
theorem dX11_tell_37 : decode cX11_tell 37 = .ok (.getfield 119, 3) := by decide +kernel
theorem dX11_tell_40 : decode cX11_tell 40 = .ok (.iload_n 1, 1) := by decide +kernel
theorem dX11_tell_41 : decode cX11_tell 41 = .ok (.ishr, 1) := by decide +kernel
theorem dX11_tell_42 : decode cX11_tell 42 = .ok (.iconst 1, 1) := by decide +kernel
theorem dX11_tell_43 : decode cX11_tell 43 = .ok (.iand, 1) := by decide +kernel
theorem dX11_tell_44 : decode cX11_tell 44 = .ok (.ifCond .ne 5, 3) := by decide +kernel
theorem dX11_tell_47 : decode cX11_tell 47 = .ok (.iconst (-1), 1) := by decide +kernel
theorem dX11_tell_48 : decode cX11_tell 48 = .ok (.ireturn, 1) := by decide +kernel
theorem dX11_tell_49 : decode cX11_tell 49 = .ok (.aload_n 0, 1) := by decide +kernel
theorem dX11_tell_50 : decode cX11_tell 50 = .ok (.getfield 58, 3) := by decide +kernel
theorem dX11_tell_53 : decode cX11_tell 53 = .ok (.iload_n 1, 1) := by decide +kernel
theorem dX11_tell_54 : decode cX11_tell 54 = .ok (.iload_n 2, 1) := by decide +kernel
theorem dX11_tell_55 : decode cX11_tell 55 = .ok (.iload_n 3, 1) := by decide +kernel
theorem dX11_tell_56 : decode cX11_tell 56 = .ok (.invokevirtual 245, 3) := by decide +kernel
theorem dX11_tell_59 : decode cX11_tell 59 = .ok (.ireturn, 1) := by decide +kernel
theorem dX11_forget_0 : decode cX11_forget 0 = .ok (.aload_n 0, 1) := by decide +kernel
theorem dX11_forget_1 : decode cX11_forget 1 = .ok (.getfield 58, 3) := by decide +kernel
theorem dX11_forget_4 : decode cX11_forget 4 = .ok (.getfield 248, 3) := by decide +kernel
theorem dX11_forget_7 : decode cX11_forget 7 = .ok (.istore_n 1, 1) := by decide +kernel
theorem dX11_forget_8 : decode cX11_forget 8 = .ok (.aload_n 0, 1) := by decide +kernel
theorem dX11_forget_9 : decode cX11_forget 9 = .ok (.getfield 58, 3) := by decide +kernel
theorem dX11_forget_12 : decode cX11_forget 12 = .ok (.iconst 0, 1) := by decide +kernel
theorem dX11_forget_13 : decode cX11_forget 13 = .ok (.putfield 248, 3) := by decide +kernel
theorem dX11_forget_16 : decode cX11_forget 16 = .ok (.iload_n 1, 1) := by decide +kernel
theorem dX11_forget_17 : decode cX11_forget 17 = .ok (.ireturn, 1) := by decide +kernel
theorem dX11_who_0 : decode cX11_who 0 = .ok (.iload_n 1, 1) := by decide +kernel
theorem dX11_who_1 : decode cX11_who 1 = .ok (.ifCond .lt 19, 3) := by decide +kernel
theorem dX11_who_4 : decode cX11_who 4 = .ok (.iload_n 1, 1) := by decide +kernel
theorem dX11_who_5 : decode cX11_who 5 = .ok (.aload_n 0, 1) := by decide +kernel
theorem dX11_who_6 : decode cX11_who 6 = .ok (.getfield 58, 3) := by decide +kernel
theorem dX11_who_9 : decode cX11_who 9 = .ok (.getfield 248, 3) := by decide +kernel
theorem dX11_who_12 : decode cX11_who 12 = .ok (.if_icmp .gt 8, 3) := by decide +kernel
theorem dX11_who_15 : decode cX11_who 15 = .ok (.iload_n 2, 1) := by decide +kernel
theorem dX11_who_16 : decode cX11_who 16 = .ok (.iconst (-1), 1) := by decide +kernel
theorem dX11_who_17 : decode cX11_who 17 = .ok (.if_icmp .ge 5, 3) := by decide +kernel
theorem dX11_who_20 : decode cX11_who 20 = .ok (.iconst (-1), 1) := by decide +kernel
theorem dX11_who_21 : decode cX11_who 21 = .ok (.ireturn, 1) := by decide +kernel
theorem dX11_who_22 : decode cX11_who 22 = .ok (.aload_n 0, 1) := by decide +kernel
theorem dX11_who_23 : decode cX11_who 23 = .ok (.getfield 58, 3) := by decide +kernel
theorem dX11_who_26 : decode cX11_who 26 = .ok (.iload_n 1, 1) := by decide +kernel
theorem dX11_who_27 : decode cX11_who 27 = .ok (.iconst (-1), 1) := by decide +kernel
theorem dX11_who_28 : decode cX11_who 28 = .ok (.invokevirtual 251, 3) := by decide +kernel
theorem dX11_who_31 : decode cX11_who 31 = .ok (.aload_n 0, 1) := by decide +kernel
theorem dX11_who_32 : decode cX11_who 32 = .ok (.getfield 58, 3) := by decide +kernel
theorem dX11_who_35 : decode cX11_who 35 = .ok (.iload_n 1, 1) := by decide +kernel
theorem dX11_who_36 : decode cX11_who 36 = .ok (.iload_n 2, 1) := by decide +kernel
theorem dX11_who_37 : decode cX11_who 37 = .ok (.invokevirtual 254, 3) := by decide +kernel
theorem dX11_who_40 : decode cX11_who 40 = .ok (.ireturn, 1) := by decide +kernel
theorem dX11_watch_0 : decode cX11_watch 0 = .ok (.iload_n 1, 1) := by decide +kernel
theorem dX11_watch_1 : decode cX11_watch 1 = .ok (.ifCond .lt 24, 3) := by decide +kernel
theorem dX11_watch_4 : decode cX11_watch 4 = .ok (.iload_n 1, 1) := by decide +kernel
theorem dX11_watch_5 : decode cX11_watch 5 = .ok (.aload_n 0, 1) := by decide +kernel
theorem dX11_watch_6 : decode cX11_watch 6 = .ok (.getfield 58, 3) := by decide +kernel
theorem dX11_watch_9 : decode cX11_watch 9 = .ok (.getfield 248, 3) := by decide +kernel
theorem dX11_watch_12 : decode cX11_watch 12 = .ok (.if_icmp .gt 13, 3) := by decide +kernel
theorem dX11_watch_15 : decode cX11_watch 15 = .ok (.iload_n 2, 1) := by decide +kernel
theorem dX11_watch_16 : decode cX11_watch 16 = .ok (.ifCond .lt 9, 3) := by decide +kernel
theorem dX11_watch_19 : decode cX11_watch 19 = .ok (.iload_n 2, 1) := by decide +kernel
theorem dX11_watch_20 : decode cX11_watch 20 = .ok (.bipush 30, 2) := by decide +kernel
theorem dX11_watch_22 : decode cX11_watch 22 = .ok (.if_icmp .le 5, 3) := by decide +kernel
theorem dX11_watch_25 : decode cX11_watch 25 = .ok (.iconst (-1), 1) := by decide +kernel
theorem dX11_watch_26 : decode cX11_watch 26 = .ok (.ireturn, 1) := by decide +kernel
theorem dX11_watch_27 : decode cX11_watch 27 = .ok (.aload_n 0, 1) := by decide +kernel
theorem dX11_watch_28 : decode cX11_watch 28 = .ok (.getfield 58, 3) := by decide +kernel
theorem dX11_watch_31 : decode cX11_watch 31 = .ok (.iload_n 1, 1) := by decide +kernel
theorem dX11_watch_32 : decode cX11_watch 32 = .ok (.iload_n 2, 1) := by decide +kernel
theorem dX11_watch_33 : decode cX11_watch 33 = .ok (.invokevirtual 251, 3) := by decide +kernel
theorem dX11_watch_36 : decode cX11_watch 36 = .ok (.aload_n 0, 1) := by decide +kernel
theorem dX11_watch_37 : decode cX11_watch 37 = .ok (.getfield 58, 3) := by decide +kernel
theorem dX11_watch_40 : decode cX11_watch 40 = .ok (.iload_n 1, 1) := by decide +kernel
theorem dX11_watch_41 : decode cX11_watch 41 = .ok (.iload_n 2, 1) := by decide +kernel
theorem dX11_watch_42 : decode cX11_watch 42 = .ok (.invokevirtual 257, 3) := by decide +kernel
theorem dX11_watch_45 : decode cX11_watch 45 = .ok (.ireturn, 1) := by decide +kernel
theorem dX11_hold_0 : decode cX11_hold 0 = .ok (.aload_n 0, 1) := by decide +kernel
theorem dX11_hold_1 : decode cX11_hold 1 = .ok (.getfield 40, 3) := by decide +kernel
theorem dX11_hold_4 : decode cX11_hold 4 = .ok (.iload_n 1, 1) := by decide +kernel
theorem dX11_hold_5 : decode cX11_hold 5 = .ok (.aload_n 0, 1) := by decide +kernel
theorem dX11_hold_6 : decode cX11_hold 6 = .ok (.getfield 33, 3) := by decide +kernel
theorem dX11_hold_9 : decode cX11_hold 9 = .ok (.invokevirtual 260, 3) := by decide +kernel
theorem dX11_hold_12 : decode cX11_hold 12 = .ok (.ireturn, 1) := by decide +kernel
theorem dX11_restore_0 : decode cX11_restore 0 = .ok (.aload_n 0, 1) := by decide +kernel
theorem dX11_restore_1 : decode cX11_restore 1 = .ok (.getfield 49, 3) := by decide +kernel
theorem dX11_restore_4 : decode cX11_restore 4 = .ok (.invokevirtual 102, 3) := by decide +kernel
theorem dX11_restore_7 : decode cX11_restore 7 = .ok (.aload_n 0, 1) := by decide +kernel
theorem dX11_restore_8 : decode cX11_restore 8 = .ok (.getfield 40, 3) := by decide +kernel
theorem dX11_restore_11 : decode cX11_restore 11 = .ok (.iload_n 1, 1) := by decide +kernel
theorem dX11_restore_12 : decode cX11_restore 12 = .ok (.aload_n 0, 1) := by decide +kernel
theorem dX11_restore_13 : decode cX11_restore 13 = .ok (.getfield 33, 3) := by decide +kernel
theorem dX11_restore_16 : decode cX11_restore 16 = .ok (.invokevirtual 264, 3) := by decide +kernel
theorem dX11_restore_19 : decode cX11_restore 19 = .ok (.ireturn, 1) := by decide +kernel
theorem dX11_count_0 : decode cX11_count 0 = .ok (.aload_n 0, 1) := by decide +kernel
theorem dX11_count_1 : decode cX11_count 1 = .ok (.getfield 26, 3) := by decide +kernel
theorem dX11_count_4 : decode cX11_count 4 = .ok (.getfield 97, 3) := by decide +kernel
theorem dX11_count_7 : decode cX11_count 7 = .ok (.astore_n 2, 1) := by decide +kernel
theorem dX11_count_8 : decode cX11_count 8 = .ok (.iload_n 1, 1) := by decide +kernel
theorem dX11_count_9 : decode cX11_count 9 = .ok (.tableswitch 195 0 12 #[67, 72, 77, 82, 92, 102, 112, 122, 141, 149, 157, 165, 176], 67) := by decide +kernel
theorem dX11_count_76 : decode cX11_count 76 = .ok (.aload_n 2, 1) := by decide +kernel
theorem dX11_count_77 : decode cX11_count 77 = .ok (.getfield 267, 3) := by decide +kernel
theorem dX11_count_80 : decode cX11_count 80 = .ok (.ireturn, 1) := by decide +kernel
theorem dX11_count_81 : decode cX11_count 81 = .ok (.aload_n 2, 1) := by decide +kernel
theorem dX11_count_82 : decode cX11_count 82 = .ok (.getfield 195, 3) := by decide +kernel
theorem dX11_count_85 : decode cX11_count 85 = .ok (.ireturn, 1) := by decide +kernel
theorem dX11_count_86 : decode cX11_count 86 = .ok (.aload_n 2, 1) := by decide +kernel
theorem dX11_count_87 : decode cX11_count 87 = .ok (.getfield 270, 3) := by decide +kernel
theorem dX11_count_90 : decode cX11_count 90 = .ok (.ireturn, 1) := by decide +kernel
theorem dX11_count_91 : decode cX11_count 91 = .ok (.aload_n 0, 1) := by decide +kernel
theorem dX11_count_92 : decode cX11_count 92 = .ok (.getfield 33, 3) := by decide +kernel
theorem dX11_count_95 : decode cX11_count 95 = .ok (.getfield 122, 3) := by decide +kernel
theorem dX11_count_98 : decode cX11_count 98 = .ok (.iconst 0, 1) := by decide +kernel
theorem dX11_count_99 : decode cX11_count 99 = .ok (.iaload, 1) := by decide +kernel
theorem dX11_count_100 : decode cX11_count 100 = .ok (.ireturn, 1) := by decide +kernel
theorem dX11_count_101 : decode cX11_count 101 = .ok (.aload_n 0, 1) := by decide +kernel
theorem dX11_count_102 : decode cX11_count 102 = .ok (.getfield 33, 3) := by decide +kernel
theorem dX11_count_105 : decode cX11_count 105 = .ok (.getfield 122, 3) := by decide +kernel
theorem dX11_count_108 : decode cX11_count 108 = .ok (.iconst 1, 1) := by decide +kernel
theorem dX11_count_109 : decode cX11_count 109 = .ok (.iaload, 1) := by decide +kernel
theorem dX11_count_110 : decode cX11_count 110 = .ok (.ireturn, 1) := by decide +kernel
theorem dX11_count_111 : decode cX11_count 111 = .ok (.aload_n 0, 1) := by decide +kernel
theorem dX11_count_112 : decode cX11_count 112 = .ok (.getfield 33, 3) := by decide +kernel
theorem dX11_count_115 : decode cX11_count 115 = .ok (.getfield 122, 3) := by decide +kernel
theorem dX11_count_118 : decode cX11_count 118 = .ok (.iconst 3, 1) := by decide +kernel
theorem dX11_count_119 : decode cX11_count 119 = .ok (.iaload, 1) := by decide +kernel
theorem dX11_count_120 : decode cX11_count 120 = .ok (.ireturn, 1) := by decide +kernel
theorem dX11_count_121 : decode cX11_count 121 = .ok (.aload_n 0, 1) := by decide +kernel
theorem dX11_count_122 : decode cX11_count 122 = .ok (.getfield 33, 3) := by decide +kernel
theorem dX11_count_125 : decode cX11_count 125 = .ok (.getfield 122, 3) := by decide +kernel
theorem dX11_count_128 : decode cX11_count 128 = .ok (.iconst 4, 1) := by decide +kernel
theorem dX11_count_129 : decode cX11_count 129 = .ok (.iaload, 1) := by decide +kernel
theorem dX11_count_130 : decode cX11_count 130 = .ok (.ireturn, 1) := by decide +kernel
theorem dX11_count_131 : decode cX11_count 131 = .ok (.aload_n 0, 1) := by decide +kernel
theorem dX11_count_132 : decode cX11_count 132 = .ok (.getfield 26, 3) := by decide +kernel
theorem dX11_count_135 : decode cX11_count 135 = .ok (.aload_n 0, 1) := by decide +kernel
theorem dX11_count_136 : decode cX11_count 136 = .ok (.getfield 33, 3) := by decide +kernel
theorem dX11_count_139 : decode cX11_count 139 = .ok (.invokevirtual 81, 3) := by decide +kernel
theorem dX11_count_142 : decode cX11_count 142 = .ok (.aload_n 0, 1) := by decide +kernel
theorem dX11_count_143 : decode cX11_count 143 = .ok (.getfield 26, 3) := by decide +kernel
theorem dX11_count_146 : decode cX11_count 146 = .ok (.getfield 273, 3) := by decide +kernel
theorem dX11_count_149 : decode cX11_count 149 = .ok (.ireturn, 1) := by decide +kernel
theorem dX11_count_150 : decode cX11_count 150 = .ok (.aload_n 0, 1) := by decide +kernel
theorem dX11_count_151 : decode cX11_count 151 = .ok (.getfield 10, 3) := by decide +kernel
theorem dX11_count_154 : decode cX11_count 154 = .ok (.getfield 85, 3) := by decide +kernel
theorem dX11_count_157 : decode cX11_count 157 = .ok (.ireturn, 1) := by decide +kernel
theorem dX11_count_158 : decode cX11_count 158 = .ok (.aload_n 0, 1) := by decide +kernel
theorem dX11_count_159 : decode cX11_count 159 = .ok (.getfield 40, 3) := by decide +kernel
theorem dX11_count_162 : decode cX11_count 162 = .ok (.getfield 276, 3) := by decide +kernel
theorem dX11_count_165 : decode cX11_count 165 = .ok (.ireturn, 1) := by decide +kernel
theorem dX11_count_166 : decode cX11_count 166 = .ok (.aload_n 0, 1) := by decide +kernel
theorem dX11_count_167 : decode cX11_count 167 = .ok (.getfield 58, 3) := by decide +kernel
theorem dX11_count_170 : decode cX11_count 170 = .ok (.getfield 248, 3) := by decide +kernel
theorem dX11_count_173 : decode cX11_count 173 = .ok (.ireturn, 1) := by decide +kernel
theorem dX11_count_174 : decode cX11_count 174 = .ok (.aload_n 0, 1) := by decide +kernel
theorem dX11_count_175 : decode cX11_count 175 = .ok (.getfield 40, 3) := by decide +kernel
theorem dX11_count_178 : decode cX11_count 178 = .ok (.getfield 277, 3) := by decide +kernel
theorem dX11_count_181 : decode cX11_count 181 = .ok (.invokestatic 280, 3) := by decide +kernel
theorem dX11_count_184 : decode cX11_count 184 = .ok (.ireturn, 1) := by decide +kernel
theorem dX11_count_185 : decode cX11_count 185 = .ok (.aload_n 0, 1) := by decide +kernel
theorem dX11_count_186 : decode cX11_count 186 = .ok (.getfield 26, 3) := by decide +kernel
theorem dX11_count_189 : decode cX11_count 189 = .ok (.aload_n 0, 1) := by decide +kernel
theorem dX11_count_190 : decode cX11_count 190 = .ok (.getfield 33, 3) := by decide +kernel
theorem dX11_count_193 : decode cX11_count 193 = .ok (.invokevirtual 81, 3) := by decide +kernel
theorem dX11_count_196 : decode cX11_count 196 = .ok (.aload_n 0, 1) := by decide +kernel
theorem dX11_count_197 : decode cX11_count 197 = .ok (.getfield 26, 3) := by decide +kernel
theorem dX11_count_200 : decode cX11_count 200 = .ok (.getfield 125, 3) := by decide +kernel
theorem dX11_count_203 : decode cX11_count 203 = .ok (.ireturn, 1) := by decide +kernel
theorem dX11_count_204 : decode cX11_count 204 = .ok (.iconst (-1), 1) := by decide +kernel
theorem dX11_count_205 : decode cX11_count 205 = .ok (.ireturn, 1) := by decide +kernel
theorem dX11_beginThing_0 : decode cX11_beginThing 0 = .ok (.aload_n 0, 1) := by decide +kernel
theorem dX11_beginThing_1 : decode cX11_beginThing 1 = .ok (.getfield 40, 3) := by decide +kernel
theorem dX11_beginThing_4 : decode cX11_beginThing 4 = .ok (.aload_n 0, 1) := by decide +kernel
theorem dX11_beginThing_5 : decode cX11_beginThing 5 = .ok (.getfield 33, 3) := by decide +kernel
theorem dX11_beginThing_8 : decode cX11_beginThing 8 = .ok (.invokevirtual 285, 3) := by decide +kernel
theorem dX11_beginThing_11 : decode cX11_beginThing 11 = .ok (.aload_n 0, 1) := by decide +kernel
theorem dX11_beginThing_12 : decode cX11_beginThing 12 = .ok (.getfield 49, 3) := by decide +kernel
theorem dX11_beginThing_15 : decode cX11_beginThing 15 = .ok (.invokevirtual 102, 3) := by decide +kernel
theorem dX11_beginThing_18 : decode cX11_beginThing 18 = .ok (.return_, 1) := by decide +kernel
theorem dX11_isRoad_0 : decode cX11_isRoad 0 = .ok (.iload_n 1, 1) := by decide +kernel
theorem dX11_isRoad_1 : decode cX11_isRoad 1 = .ok (.ifCond .lt 21, 3) := by decide +kernel
theorem dX11_isRoad_4 : decode cX11_isRoad 4 = .ok (.iload_n 1, 1) := by decide +kernel
theorem dX11_isRoad_5 : decode cX11_isRoad 5 = .ok (.aload_n 0, 1) := by decide +kernel
theorem dX11_isRoad_6 : decode cX11_isRoad 6 = .ok (.getfield 26, 3) := by decide +kernel
theorem dX11_isRoad_9 : decode cX11_isRoad 9 = .ok (.getfield 97, 3) := by decide +kernel
theorem dX11_isRoad_12 : decode cX11_isRoad 12 = .ok (.getfield 195, 3) := by decide +kernel
theorem dX11_isRoad_15 : decode cX11_isRoad 15 = .ok (.if_icmp .ge 7, 3) := by decide +kernel
theorem dX11_isRoad_18 : decode cX11_isRoad 18 = .ok (.iconst 1, 1) := by decide +kernel
theorem dX11_isRoad_19 : decode cX11_isRoad 19 = .ok (.goto 4, 3) := by decide +kernel
theorem dX11_isRoad_22 : decode cX11_isRoad 22 = .ok (.iconst 0, 1) := by decide +kernel
theorem dX11_isRoad_23 : decode cX11_isRoad 23 = .ok (.ireturn, 1) := by decide +kernel
theorem dX11_isGhost_0 : decode cX11_isGhost 0 = .ok (.iload_n 1, 1) := by decide +kernel
theorem dX11_isGhost_1 : decode cX11_isGhost 1 = .ok (.ifCond .lt 21, 3) := by decide +kernel
theorem dX11_isGhost_4 : decode cX11_isGhost 4 = .ok (.iload_n 1, 1) := by decide +kernel
theorem dX11_isGhost_5 : decode cX11_isGhost 5 = .ok (.aload_n 0, 1) := by decide +kernel
theorem dX11_isGhost_6 : decode cX11_isGhost 6 = .ok (.getfield 26, 3) := by decide +kernel
theorem dX11_isGhost_9 : decode cX11_isGhost 9 = .ok (.getfield 97, 3) := by decide +kernel
theorem dX11_isGhost_12 : decode cX11_isGhost 12 = .ok (.getfield 270, 3) := by decide +kernel
theorem dX11_isGhost_15 : decode cX11_isGhost 15 = .ok (.if_icmp .ge 7, 3) := by decide +kernel
theorem dX11_isGhost_18 : decode cX11_isGhost 18 = .ok (.iconst 1, 1) := by decide +kernel
theorem dX11_isGhost_19 : decode cX11_isGhost 19 = .ok (.goto 4, 3) := by decide +kernel
theorem dX11_isGhost_22 : decode cX11_isGhost 22 = .ok (.iconst 0, 1) := by decide +kernel
theorem dX11_isGhost_23 : decode cX11_isGhost 23 = .ok (.ireturn, 1) := by decide +kernel
