theorem dX0_init_0 : decode cX0_init 0 = .ok (.aload_n 0, 1) := by decide +kernel
theorem dX0_init_1 : decode cX0_init 1 = .ok (.invokespecial 3, 3) := by decide +kernel
theorem dX0_init_4 : decode cX0_init 4 = .ok (.aload_n 0, 1) := by decide +kernel
theorem dX0_init_5 : decode cX0_init 5 = .ok (.new 9, 3) := by decide +kernel
theorem dX0_init_8 : decode cX0_init 8 = .ok (.dup, 1) := by decide +kernel
theorem dX0_init_9 : decode cX0_init 9 = .ok (.invokespecial 11, 3) := by decide +kernel
theorem dX0_init_12 : decode cX0_init 12 = .ok (.putfield 12, 3) := by decide +kernel
theorem dX0_init_15 : decode cX0_init 15 = .ok (.aload_n 0, 1) := by decide +kernel
theorem dX0_init_16 : decode cX0_init 16 = .ok (.bipush 20, 2) := by decide +kernel
theorem dX0_init_18 : decode cX0_init 18 = .ok (.newarray .int, 2) := by decide +kernel
theorem dX0_init_20 : decode cX0_init 20 = .ok (.putfield 18, 3) := by decide +kernel
theorem dX0_init_23 : decode cX0_init 23 = .ok (.aload_n 0, 1) := by decide +kernel
theorem dX0_init_24 : decode cX0_init 24 = .ok (.bipush 20, 2) := by decide +kernel
theorem dX0_init_26 : decode cX0_init 26 = .ok (.newarray .int, 2) := by decide +kernel
theorem dX0_init_28 : decode cX0_init 28 = .ok (.putfield 22, 3) := by decide +kernel
theorem dX0_init_31 : decode cX0_init 31 = .ok (.aload_n 0, 1) := by decide +kernel
theorem dX0_init_32 : decode cX0_init 32 = .ok (.bipush 20, 2) := by decide +kernel
theorem dX0_init_34 : decode cX0_init 34 = .ok (.newarray .int, 2) := by decide +kernel
theorem dX0_init_36 : decode cX0_init 36 = .ok (.putfield 25, 3) := by decide +kernel
theorem dX0_init_39 : decode cX0_init 39 = .ok (.aload_n 0, 1) := by decide +kernel
theorem dX0_init_40 : decode cX0_init 40 = .ok (.bipush 12, 2) := by decide +kernel
theorem dX0_init_42 : decode cX0_init 42 = .ok (.newarray .int, 2) := by decide +kernel
theorem dX0_init_44 : decode cX0_init 44 = .ok (.putfield 28, 3) := by decide +kernel
theorem dX0_init_47 : decode cX0_init 47 = .ok (.aload_n 0, 1) := by decide +kernel
theorem dX0_init_48 : decode cX0_init 48 = .ok (.aload_n 1, 1) := by decide +kernel
theorem dX0_init_49 : decode cX0_init 49 = .ok (.putfield 31, 3) := by decide +kernel
theorem dX0_init_52 : decode cX0_init 52 = .ok (.return_, 1) := by decide +kernel
theorem dX0_clear_0 : decode cX0_clear 0 = .ok (.aload_n 0, 1) := by decide +kernel
theorem dX0_clear_1 : decode cX0_clear 1 = .ok (.iconst 0, 1) := by decide +kernel
theorem dX0_clear_2 : decode cX0_clear 2 = .ok (.putfield 35, 3) := by decide +kernel
theorem dX0_clear_5 : decode cX0_clear 5 = .ok (.aload_n 0, 1) := by decide +kernel
theorem dX0_clear_6 : decode cX0_clear 6 = .ok (.iconst 0, 1) := by decide +kernel
theorem dX0_clear_7 : decode cX0_clear 7 = .ok (.putfield 39, 3) := by decide +kernel
theorem dX0_clear_10 : decode cX0_clear 10 = .ok (.return_, 1) := by decide +kernel
theorem dX0_add_0 : decode cX0_add 0 = .ok (.aload_n 0, 1) := by decide +kernel
theorem dX0_add_1 : decode cX0_add 1 = .ok (.getfield 35, 3) := by decide +kernel
theorem dX0_add_4 : decode cX0_add 4 = .ok (.bipush 20, 2) := by decide +kernel
theorem dX0_add_6 : decode cX0_add 6 = .ok (.if_icmp .lt 5, 3) := by decide +kernel
theorem dX0_add_9 : decode cX0_add 9 = .ok (.iconst (-1), 1) := by decide +kernel
theorem dX0_add_10 : decode cX0_add 10 = .ok (.ireturn, 1) := by decide +kernel
theorem dX0_add_11 : decode cX0_add 11 = .ok (.aload_n 0, 1) := by decide +kernel
theorem dX0_add_12 : decode cX0_add 12 = .ok (.getfield 18, 3) := by decide +kernel
theorem dX0_add_15 : decode cX0_add 15 = .ok (.aload_n 0, 1) := by decide +kernel
theorem dX0_add_16 : decode cX0_add 16 = .ok (.getfield 35, 3) := by decide +kernel
theorem dX0_add_19 : decode cX0_add 19 = .ok (.iload_n 1, 1) := by decide +kernel
theorem dX0_add_20 : decode cX0_add 20 = .ok (.iastore, 1) := by decide +kernel
theorem dX0_add_21 : decode cX0_add 21 = .ok (.aload_n 0, 1) := by decide +kernel
theorem dX0_add_22 : decode cX0_add 22 = .ok (.getfield 22, 3) := by decide +kernel
theorem dX0_add_25 : decode cX0_add 25 = .ok (.aload_n 0, 1) := by decide +kernel
theorem dX0_add_26 : decode cX0_add 26 = .ok (.getfield 35, 3) := by decide +kernel
theorem dX0_add_29 : decode cX0_add 29 = .ok (.iload_n 2, 1) := by decide +kernel
theorem dX0_add_30 : decode cX0_add 30 = .ok (.iastore, 1) := by decide +kernel
theorem dX0_add_31 : decode cX0_add 31 = .ok (.aload_n 0, 1) := by decide +kernel
theorem dX0_add_32 : decode cX0_add 32 = .ok (.getfield 25, 3) := by decide +kernel
theorem dX0_add_35 : decode cX0_add 35 = .ok (.aload_n 0, 1) := by decide +kernel
theorem dX0_add_36 : decode cX0_add 36 = .ok (.getfield 35, 3) := by decide +kernel
theorem dX0_add_39 : decode cX0_add 39 = .ok (.iload_n 3, 1) := by decide +kernel
theorem dX0_add_40 : decode cX0_add 40 = .ok (.ifCond .eq 7, 3) := by decide +kernel
theorem dX0_add_43 : decode cX0_add 43 = .ok (.iconst 1, 1) := by decide +kernel
theorem dX0_add_44 : decode cX0_add 44 = .ok (.goto 4, 3) := by decide +kernel
theorem dX0_add_47 : decode cX0_add 47 = .ok (.iconst 0, 1) := by decide +kernel
theorem dX0_add_48 : decode cX0_add 48 = .ok (.iastore, 1) := by decide +kernel
theorem dX0_add_49 : decode cX0_add 49 = .ok (.aload_n 0, 1) := by decide +kernel
theorem dX0_add_50 : decode cX0_add 50 = .ok (.dup, 1) := by decide +kernel
theorem dX0_add_51 : decode cX0_add 51 = .ok (.getfield 35, 3) := by decide +kernel
theorem dX0_add_54 : decode cX0_add 54 = .ok (.iconst 1, 1) := by decide +kernel
theorem dX0_add_55 : decode cX0_add 55 = .ok (.iadd, 1) := by decide +kernel
theorem dX0_add_56 : decode cX0_add 56 = .ok (.putfield 35, 3) := by decide +kernel
theorem dX0_add_59 : decode cX0_add 59 = .ok (.aload_n 0, 1) := by decide +kernel
theorem dX0_add_60 : decode cX0_add 60 = .ok (.getfield 35, 3) := by decide +kernel
theorem dX0_add_63 : decode cX0_add 63 = .ok (.iconst 1, 1) := by decide +kernel
theorem dX0_add_64 : decode cX0_add 64 = .ok (.isub, 1) := by decide +kernel
theorem dX0_add_65 : decode cX0_add 65 = .ok (.ireturn, 1) := by decide +kernel
theorem dX0_pickSet_0 : decode cX0_pickSet 0 = .ok (.iconst 0, 1) := by decide +kernel
theorem dX0_pickSet_1 : decode cX0_pickSet 1 = .ok (.istore_n 3, 1) := by decide +kernel
theorem dX0_pickSet_2 : decode cX0_pickSet 2 = .ok (.iconst 1, 1) := by decide +kernel
theorem dX0_pickSet_3 : decode cX0_pickSet 3 = .ok (.aload_n 0, 1) := by decide +kernel
theorem dX0_pickSet_4 : decode cX0_pickSet 4 = .ok (.getfield 31, 3) := by decide +kernel
theorem dX0_pickSet_7 : decode cX0_pickSet 7 = .ok (.getfield 42, 3) := by decide +kernel
theorem dX0_pickSet_10 : decode cX0_pickSet 10 = .ok (.getfield 48, 3) := by decide +kernel
theorem dX0_pickSet_13 : decode cX0_pickSet 13 = .ok (.ishl, 1) := by decide +kernel
theorem dX0_pickSet_14 : decode cX0_pickSet 14 = .ok (.istore 4, 2) := by decide +kernel
theorem dX0_pickSet_16 : decode cX0_pickSet 16 = .ok (.iconst 0, 1) := by decide +kernel
theorem dX0_pickSet_17 : decode cX0_pickSet 17 = .ok (.istore 5, 2) := by decide +kernel
theorem dX0_pickSet_19 : decode cX0_pickSet 19 = .ok (.iload 5, 2) := by decide +kernel
theorem dX0_pickSet_21 : decode cX0_pickSet 21 = .ok (.iload 4, 2) := by decide +kernel
theorem dX0_pickSet_23 : decode cX0_pickSet 23 = .ok (.if_icmp .ge 30, 3) := by decide +kernel
theorem dX0_pickSet_26 : decode cX0_pickSet 26 = .ok (.aload_n 0, 1) := by decide +kernel
theorem dX0_pickSet_27 : decode cX0_pickSet 27 = .ok (.iload 5, 2) := by decide +kernel
theorem dX0_pickSet_29 : decode cX0_pickSet 29 = .ok (.iload_n 1, 1) := by decide +kernel
theorem dX0_pickSet_30 : decode cX0_pickSet 30 = .ok (.invokevirtual 53, 3) := by decide +kernel
theorem dX0_pickSet_33 : decode cX0_pickSet 33 = .ok (.ifCond .eq 14, 3) := by decide +kernel
theorem dX0_pickSet_36 : decode cX0_pickSet 36 = .ok (.iload_n 3, 1) := by decide +kernel
theorem dX0_pickSet_37 : decode cX0_pickSet 37 = .ok (.iload_n 2, 1) := by decide +kernel
theorem dX0_pickSet_38 : decode cX0_pickSet 38 = .ok (.if_icmp .ne 6, 3) := by decide +kernel
theorem dX0_pickSet_41 : decode cX0_pickSet 41 = .ok (.iload 5, 2) := by decide +kernel
theorem dX0_pickSet_43 : decode cX0_pickSet 43 = .ok (.ireturn, 1) := by decide +kernel
theorem dX0_pickSet_44 : decode cX0_pickSet 44 = .ok (.iinc 3 1, 3) := by decide +kernel
theorem dX0_pickSet_47 : decode cX0_pickSet 47 = .ok (.iinc 5 1, 3) := by decide +kernel
theorem dX0_pickSet_50 : decode cX0_pickSet 50 = .ok (.goto (-31), 3) := by decide +kernel
theorem dX0_pickSet_53 : decode cX0_pickSet 53 = .ok (.iload_n 2, 1) := by decide +kernel
theorem dX0_pickSet_54 : decode cX0_pickSet 54 = .ok (.iconst (-1), 1) := by decide +kernel
theorem dX0_pickSet_55 : decode cX0_pickSet 55 = .ok (.if_icmp .ne 7, 3) := by decide +kernel
theorem dX0_pickSet_58 : decode cX0_pickSet 58 = .ok (.iload_n 3, 1) := by decide +kernel
theorem dX0_pickSet_59 : decode cX0_pickSet 59 = .ok (.goto 4, 3) := by decide +kernel
theorem dX0_pickSet_62 : decode cX0_pickSet 62 = .ok (.iconst (-1), 1) := by decide +kernel
theorem dX0_pickSet_63 : decode cX0_pickSet 63 = .ok (.ireturn, 1) := by decide +kernel
theorem dX0_roadToWatch_0 : decode cX0_roadToWatch 0 = .ok (.aload_n 0, 1) := by decide +kernel
theorem dX0_roadToWatch_1 : decode cX0_roadToWatch 1 = .ok (.getfield 28, 3) := by decide +kernel
theorem dX0_roadToWatch_4 : decode cX0_roadToWatch 4 = .ok (.iconst 0, 1) := by decide +kernel
theorem dX0_roadToWatch_5 : decode cX0_roadToWatch 5 = .ok (.invokestatic 57, 3) := by decide +kernel
theorem dX0_roadToWatch_8 : decode cX0_roadToWatch 8 = .ok (.iconst 0, 1) := by decide +kernel
theorem dX0_roadToWatch_9 : decode cX0_roadToWatch 9 = .ok (.istore_n 3, 1) := by decide +kernel
theorem dX0_roadToWatch_10 : decode cX0_roadToWatch 10 = .ok (.iconst 1, 1) := by decide +kernel
theorem dX0_roadToWatch_11 : decode cX0_roadToWatch 11 = .ok (.aload_n 0, 1) := by decide +kernel
theorem dX0_roadToWatch_12 : decode cX0_roadToWatch 12 = .ok (.getfield 31, 3) := by decide +kernel
theorem dX0_roadToWatch_15 : decode cX0_roadToWatch 15 = .ok (.getfield 42, 3) := by decide +kernel
theorem dX0_roadToWatch_18 : decode cX0_roadToWatch 18 = .ok (.getfield 48, 3) := by decide +kernel
theorem dX0_roadToWatch_21 : decode cX0_roadToWatch 21 = .ok (.ishl, 1) := by decide +kernel
theorem dX0_roadToWatch_22 : decode cX0_roadToWatch 22 = .ok (.istore 4, 2) := by decide +kernel
theorem dX0_roadToWatch_24 : decode cX0_roadToWatch 24 = .ok (.iconst 0, 1) := by decide +kernel
theorem dX0_roadToWatch_25 : decode cX0_roadToWatch 25 = .ok (.istore 5, 2) := by decide +kernel
theorem dX0_roadToWatch_27 : decode cX0_roadToWatch 27 = .ok (.iload 5, 2) := by decide +kernel
theorem dX0_roadToWatch_29 : decode cX0_roadToWatch 29 = .ok (.iload 4, 2) := by decide +kernel
theorem dX0_roadToWatch_31 : decode cX0_roadToWatch 31 = .ok (.if_icmp .ge 74, 3) := by decide +kernel
theorem dX0_roadToWatch_34 : decode cX0_roadToWatch 34 = .ok (.aload_n 0, 1) := by decide +kernel
theorem dX0_roadToWatch_35 : decode cX0_roadToWatch 35 = .ok (.iload 5, 2) := by decide +kernel
theorem dX0_roadToWatch_37 : decode cX0_roadToWatch 37 = .ok (.iload_n 1, 1) := by decide +kernel
theorem dX0_roadToWatch_38 : decode cX0_roadToWatch 38 = .ok (.invokevirtual 53, 3) := by decide +kernel
theorem dX0_roadToWatch_41 : decode cX0_roadToWatch 41 = .ok (.ifCond .eq 58, 3) := by decide +kernel
theorem dX0_roadToWatch_44 : decode cX0_roadToWatch 44 = .ok (.iinc 3 1, 3) := by decide +kernel
theorem dX0_roadToWatch_47 : decode cX0_roadToWatch 47 = .ok (.iconst 0, 1) := by decide +kernel
theorem dX0_roadToWatch_48 : decode cX0_roadToWatch 48 = .ok (.istore 6, 2) := by decide +kernel
theorem dX0_roadToWatch_50 : decode cX0_roadToWatch 50 = .ok (.iload 6, 2) := by decide +kernel
theorem dX0_roadToWatch_52 : decode cX0_roadToWatch 52 = .ok (.aload_n 0, 1) := by decide +kernel
theorem dX0_roadToWatch_53 : decode cX0_roadToWatch 53 = .ok (.getfield 31, 3) := by decide +kernel
theorem dX0_roadToWatch_56 : decode cX0_roadToWatch 56 = .ok (.getfield 42, 3) := by decide +kernel
theorem dX0_roadToWatch_59 : decode cX0_roadToWatch 59 = .ok (.getfield 63, 3) := by decide +kernel
theorem dX0_roadToWatch_62 : decode cX0_roadToWatch 62 = .ok (.if_icmp .ge 37, 3) := by decide +kernel
theorem dX0_roadToWatch_65 : decode cX0_roadToWatch 65 = .ok (.aload_n 0, 1) := by decide +kernel
theorem dX0_roadToWatch_66 : decode cX0_roadToWatch 66 = .ok (.getfield 28, 3) := by decide +kernel
theorem dX0_roadToWatch_69 : decode cX0_roadToWatch 69 = .ok (.iload 6, 2) := by decide +kernel
theorem dX0_roadToWatch_71 : decode cX0_roadToWatch 71 = .ok (.dup2, 1) := by decide +kernel
theorem dX0_roadToWatch_72 : decode cX0_roadToWatch 72 = .ok (.iaload, 1) := by decide +kernel
theorem dX0_roadToWatch_73 : decode cX0_roadToWatch 73 = .ok (.aload_n 0, 1) := by decide +kernel
theorem dX0_roadToWatch_74 : decode cX0_roadToWatch 74 = .ok (.getfield 65, 3) := by decide +kernel
theorem dX0_roadToWatch_77 : decode cX0_roadToWatch 77 = .ok (.iload_n 2, 1) := by decide +kernel
theorem dX0_roadToWatch_78 : decode cX0_roadToWatch 78 = .ok (.sipush 128, 3) := by decide +kernel
theorem dX0_roadToWatch_81 : decode cX0_roadToWatch 81 = .ok (.imul, 1) := by decide +kernel
theorem dX0_roadToWatch_82 : decode cX0_roadToWatch 82 = .ok (.iload 5, 2) := by decide +kernel
theorem dX0_roadToWatch_84 : decode cX0_roadToWatch 84 = .ok (.iadd, 1) := by decide +kernel
theorem dX0_roadToWatch_85 : decode cX0_roadToWatch 85 = .ok (.iaload, 1) := by decide +kernel
theorem dX0_roadToWatch_86 : decode cX0_roadToWatch 86 = .ok (.iload 6, 2) := by decide +kernel
theorem dX0_roadToWatch_88 : decode cX0_roadToWatch 88 = .ok (.ishr, 1) := by decide +kernel
theorem dX0_roadToWatch_89 : decode cX0_roadToWatch 89 = .ok (.iconst 1, 1) := by decide +kernel
theorem dX0_roadToWatch_90 : decode cX0_roadToWatch 90 = .ok (.iand, 1) := by decide +kernel
theorem dX0_roadToWatch_91 : decode cX0_roadToWatch 91 = .ok (.iadd, 1) := by decide +kernel
theorem dX0_roadToWatch_92 : decode cX0_roadToWatch 92 = .ok (.iastore, 1) := by decide +kernel
theorem dX0_roadToWatch_93 : decode cX0_roadToWatch 93 = .ok (.iinc 6 1, 3) := by decide +kernel
theorem dX0_roadToWatch_96 : decode cX0_roadToWatch 96 = .ok (.goto (-46), 3) := by decide +kernel
theorem dX0_roadToWatch_99 : decode cX0_roadToWatch 99 = .ok (.iinc 5 1, 3) := by decide +kernel
theorem dX0_roadToWatch_102 : decode cX0_roadToWatch 102 = .ok (.goto (-75), 3) := by decide +kernel
theorem dX0_roadToWatch_105 : decode cX0_roadToWatch 105 = .ok (.aload_n 0, 1) := by decide +kernel
theorem dX0_roadToWatch_106 : decode cX0_roadToWatch 106 = .ok (.iload_n 3, 1) := by decide +kernel
theorem dX0_roadToWatch_107 : decode cX0_roadToWatch 107 = .ok (.invokevirtual 68, 3) := by decide +kernel
theorem dX0_roadToWatch_110 : decode cX0_roadToWatch 110 = .ok (.ireturn, 1) := by decide +kernel
theorem dX0_roadThatLeavesFewest_0 : decode cX0_roadThatLeavesFewest 0 = .ok (.sipush 129, 3) := by decide +kernel
theorem dX0_roadThatLeavesFewest_3 : decode cX0_roadThatLeavesFewest 3 = .ok (.istore_n 2, 1) := by decide +kernel
theorem dX0_roadThatLeavesFewest_4 : decode cX0_roadThatLeavesFewest 4 = .ok (.bipush (-2), 2) := by decide +kernel
theorem dX0_roadThatLeavesFewest_6 : decode cX0_roadThatLeavesFewest 6 = .ok (.istore_n 3, 1) := by decide +kernel
theorem dX0_roadThatLeavesFewest_7 : decode cX0_roadThatLeavesFewest 7 = .ok (.iconst 0, 1) := by decide +kernel
theorem dX0_roadThatLeavesFewest_8 : decode cX0_roadThatLeavesFewest 8 = .ok (.istore 4, 2) := by decide +kernel
theorem dX0_roadThatLeavesFewest_10 : decode cX0_roadThatLeavesFewest 10 = .ok (.iload 4, 2) := by decide +kernel
theorem dX0_roadThatLeavesFewest_12 : decode cX0_roadThatLeavesFewest 12 = .ok (.aload_n 0, 1) := by decide +kernel
theorem dX0_roadThatLeavesFewest_13 : decode cX0_roadThatLeavesFewest 13 = .ok (.getfield 31, 3) := by decide +kernel
theorem dX0_roadThatLeavesFewest_16 : decode cX0_roadThatLeavesFewest 16 = .ok (.getfield 42, 3) := by decide +kernel
theorem dX0_roadThatLeavesFewest_19 : decode cX0_roadThatLeavesFewest 19 = .ok (.getfield 63, 3) := by decide +kernel
theorem dX0_roadThatLeavesFewest_22 : decode cX0_roadThatLeavesFewest 22 = .ok (.if_icmp .ge 60, 3) := by decide +kernel
theorem dX0_roadThatLeavesFewest_25 : decode cX0_roadThatLeavesFewest 25 = .ok (.aload_n 0, 1) := by decide +kernel
theorem dX0_roadThatLeavesFewest_26 : decode cX0_roadThatLeavesFewest 26 = .ok (.getfield 28, 3) := by decide +kernel
theorem dX0_roadThatLeavesFewest_29 : decode cX0_roadThatLeavesFewest 29 = .ok (.iload 4, 2) := by decide +kernel
theorem dX0_roadThatLeavesFewest_31 : decode cX0_roadThatLeavesFewest 31 = .ok (.iaload, 1) := by decide +kernel
theorem dX0_roadThatLeavesFewest_32 : decode cX0_roadThatLeavesFewest 32 = .ok (.iload_n 1, 1) := by decide +kernel
theorem dX0_roadThatLeavesFewest_33 : decode cX0_roadThatLeavesFewest 33 = .ok (.aload_n 0, 1) := by decide +kernel
theorem dX0_roadThatLeavesFewest_34 : decode cX0_roadThatLeavesFewest 34 = .ok (.getfield 28, 3) := by decide +kernel
theorem dX0_roadThatLeavesFewest_37 : decode cX0_roadThatLeavesFewest 37 = .ok (.iload 4, 2) := by decide +kernel
theorem dX0_roadThatLeavesFewest_39 : decode cX0_roadThatLeavesFewest 39 = .ok (.iaload, 1) := by decide +kernel
theorem dX0_roadThatLeavesFewest_40 : decode cX0_roadThatLeavesFewest 40 = .ok (.isub, 1) := by decide +kernel
theorem dX0_roadThatLeavesFewest_41 : decode cX0_roadThatLeavesFewest 41 = .ok (.invokestatic 72, 3) := by decide +kernel
theorem dX0_roadThatLeavesFewest_44 : decode cX0_roadThatLeavesFewest 44 = .ok (.istore 5, 2) := by decide +kernel
theorem dX0_roadThatLeavesFewest_46 : decode cX0_roadThatLeavesFewest 46 = .ok (.aload_n 0, 1) := by decide +kernel
theorem dX0_roadThatLeavesFewest_47 : decode cX0_roadThatLeavesFewest 47 = .ok (.getfield 31, 3) := by decide +kernel
theorem dX0_roadThatLeavesFewest_50 : decode cX0_roadThatLeavesFewest 50 = .ok (.getfield 42, 3) := by decide +kernel
theorem dX0_roadThatLeavesFewest_53 : decode cX0_roadThatLeavesFewest 53 = .ok (.getfield 78, 3) := by decide +kernel
theorem dX0_roadThatLeavesFewest_56 : decode cX0_roadThatLeavesFewest 56 = .ok (.iload 4, 2) := by decide +kernel
theorem dX0_roadThatLeavesFewest_58 : decode cX0_roadThatLeavesFewest 58 = .ok (.ishr, 1) := by decide +kernel
theorem dX0_roadThatLeavesFewest_59 : decode cX0_roadThatLeavesFewest 59 = .ok (.iconst 1, 1) := by decide +kernel
theorem dX0_roadThatLeavesFewest_60 : decode cX0_roadThatLeavesFewest 60 = .ok (.iand, 1) := by decide +kernel
theorem dX0_roadThatLeavesFewest_61 : decode cX0_roadThatLeavesFewest 61 = .ok (.ifCond .eq 15, 3) := by decide +kernel
theorem dX0_roadThatLeavesFewest_64 : decode cX0_roadThatLeavesFewest 64 = .ok (.iload 5, 2) := by decide +kernel
theorem dX0_roadThatLeavesFewest_66 : decode cX0_roadThatLeavesFewest 66 = .ok (.iload_n 2, 1) := by decide +kernel
theorem dX0_roadThatLeavesFewest_67 : decode cX0_roadThatLeavesFewest 67 = .ok (.if_icmp .ge 9, 3) := by decide +kernel
theorem dX0_roadThatLeavesFewest_70 : decode cX0_roadThatLeavesFewest 70 = .ok (.iload 5, 2) := by decide +kernel
theorem dX0_roadThatLeavesFewest_72 : decode cX0_roadThatLeavesFewest 72 = .ok (.istore_n 2, 1) := by decide +kernel
theorem dX0_roadThatLeavesFewest_73 : decode cX0_roadThatLeavesFewest 73 = .ok (.iload 4, 2) := by decide +kernel
theorem dX0_roadThatLeavesFewest_75 : decode cX0_roadThatLeavesFewest 75 = .ok (.istore_n 3, 1) := by decide +kernel
theorem dX0_roadThatLeavesFewest_76 : decode cX0_roadThatLeavesFewest 76 = .ok (.iinc 4 1, 3) := by decide +kernel
theorem dX0_roadThatLeavesFewest_79 : decode cX0_roadThatLeavesFewest 79 = .ok (.goto (-69), 3) := by decide +kernel
theorem dX0_roadThatLeavesFewest_82 : decode cX0_roadThatLeavesFewest 82 = .ok (.iload_n 3, 1) := by decide +kernel
theorem dX0_roadThatLeavesFewest_83 : decode cX0_roadThatLeavesFewest 83 = .ok (.ireturn, 1) := by decide +kernel
theorem dX0_mayBe_0 : decode cX0_mayBe 0 = .ok (.iconst 0, 1) := by decide +kernel
theorem dX0_mayBe_1 : decode cX0_mayBe 1 = .ok (.istore_n 3, 1) := by decide +kernel
theorem dX0_mayBe_2 : decode cX0_mayBe 2 = .ok (.iload_n 3, 1) := by decide +kernel
theorem dX0_mayBe_3 : decode cX0_mayBe 3 = .ok (.iload_n 2, 1) := by decide +kernel
theorem dX0_mayBe_4 : decode cX0_mayBe 4 = .ok (.if_icmp .ge 46, 3) := by decide +kernel
theorem dX0_mayBe_7 : decode cX0_mayBe 7 = .ok (.aload_n 0, 1) := by decide +kernel
theorem dX0_mayBe_8 : decode cX0_mayBe 8 = .ok (.getfield 65, 3) := by decide +kernel
theorem dX0_mayBe_11 : decode cX0_mayBe 11 = .ok (.aload_n 0, 1) := by decide +kernel
theorem dX0_mayBe_12 : decode cX0_mayBe 12 = .ok (.getfield 22, 3) := by decide +kernel
theorem dX0_mayBe_15 : decode cX0_mayBe 15 = .ok (.iload_n 3, 1) := by decide +kernel
theorem dX0_mayBe_16 : decode cX0_mayBe 16 = .ok (.iaload, 1) := by decide +kernel
theorem dX0_mayBe_17 : decode cX0_mayBe 17 = .ok (.sipush 128, 3) := by decide +kernel
theorem dX0_mayBe_20 : decode cX0_mayBe 20 = .ok (.imul, 1) := by decide +kernel
theorem dX0_mayBe_21 : decode cX0_mayBe 21 = .ok (.iload_n 1, 1) := by decide +kernel
theorem dX0_mayBe_22 : decode cX0_mayBe 22 = .ok (.iadd, 1) := by decide +kernel
theorem dX0_mayBe_23 : decode cX0_mayBe 23 = .ok (.iaload, 1) := by decide +kernel
theorem dX0_mayBe_24 : decode cX0_mayBe 24 = .ok (.aload_n 0, 1) := by decide +kernel
theorem dX0_mayBe_25 : decode cX0_mayBe 25 = .ok (.getfield 18, 3) := by decide +kernel
theorem dX0_mayBe_28 : decode cX0_mayBe 28 = .ok (.iload_n 3, 1) := by decide +kernel
theorem dX0_mayBe_29 : decode cX0_mayBe 29 = .ok (.iaload, 1) := by decide +kernel
theorem dX0_mayBe_30 : decode cX0_mayBe 30 = .ok (.ishr, 1) := by decide +kernel
theorem dX0_mayBe_31 : decode cX0_mayBe 31 = .ok (.iconst 1, 1) := by decide +kernel
theorem dX0_mayBe_32 : decode cX0_mayBe 32 = .ok (.iand, 1) := by decide +kernel
theorem dX0_mayBe_33 : decode cX0_mayBe 33 = .ok (.aload_n 0, 1) := by decide +kernel
theorem dX0_mayBe_34 : decode cX0_mayBe 34 = .ok (.getfield 25, 3) := by decide +kernel
theorem dX0_mayBe_37 : decode cX0_mayBe 37 = .ok (.iload_n 3, 1) := by decide +kernel
theorem dX0_mayBe_38 : decode cX0_mayBe 38 = .ok (.iaload, 1) := by decide +kernel
theorem dX0_mayBe_39 : decode cX0_mayBe 39 = .ok (.if_icmp .eq 5, 3) := by decide +kernel
theorem dX0_mayBe_42 : decode cX0_mayBe 42 = .ok (.iconst 0, 1) := by decide +kernel
theorem dX0_mayBe_43 : decode cX0_mayBe 43 = .ok (.ireturn, 1) := by decide +kernel
theorem dX0_mayBe_44 : decode cX0_mayBe 44 = .ok (.iinc 3 1, 3) := by decide +kernel
theorem dX0_mayBe_47 : decode cX0_mayBe 47 = .ok (.goto (-45), 3) := by decide +kernel
theorem dX0_mayBe_50 : decode cX0_mayBe 50 = .ok (.iconst 1, 1) := by decide +kernel
theorem dX0_mayBe_51 : decode cX0_mayBe 51 = .ok (.ireturn, 1) := by decide +kernel
theorem dX0_learnFor_0 : decode cX0_learnFor 0 = .ok (.iload_n 2, 1) := by decide +kernel
theorem dX0_learnFor_1 : decode cX0_learnFor 1 = .ok (.istore_n 3, 1) := by decide +kernel
theorem dX0_learnFor_2 : decode cX0_learnFor 2 = .ok (.iconst 0, 1) := by decide +kernel
theorem dX0_learnFor_3 : decode cX0_learnFor 3 = .ok (.istore 4, 2) := by decide +kernel
theorem dX0_learnFor_5 : decode cX0_learnFor 5 = .ok (.iload 4, 2) := by decide +kernel
theorem dX0_learnFor_7 : decode cX0_learnFor 7 = .ok (.iload_n 1, 1) := by decide +kernel
theorem dX0_learnFor_8 : decode cX0_learnFor 8 = .ok (.if_icmp .ge 21, 3) := by decide +kernel
theorem dX0_learnFor_11 : decode cX0_learnFor 11 = .ok (.iload_n 3, 1) := by decide +kernel
theorem dX0_learnFor_12 : decode cX0_learnFor 12 = .ok (.aload_n 0, 1) := by decide +kernel
theorem dX0_learnFor_13 : decode cX0_learnFor 13 = .ok (.getfield 22, 3) := by decide +kernel
theorem dX0_learnFor_16 : decode cX0_learnFor 16 = .ok (.iload 4, 2) := by decide +kernel
theorem dX0_learnFor_18 : decode cX0_learnFor 18 = .ok (.iaload, 1) := by decide +kernel
theorem dX0_learnFor_19 : decode cX0_learnFor 19 = .ok (.invokestatic 72, 3) := by decide +kernel
theorem dX0_learnFor_22 : decode cX0_learnFor 22 = .ok (.istore_n 3, 1) := by decide +kernel
theorem dX0_learnFor_23 : decode cX0_learnFor 23 = .ok (.iinc 4 1, 3) := by decide +kernel
theorem dX0_learnFor_26 : decode cX0_learnFor 26 = .ok (.goto (-21), 3) := by decide +kernel
theorem dX0_learnFor_29 : decode cX0_learnFor 29 = .ok (.aload_n 0, 1) := by decide +kernel
theorem dX0_learnFor_30 : decode cX0_learnFor 30 = .ok (.getfield 65, 3) := by decide +kernel
theorem dX0_learnFor_33 : decode cX0_learnFor 33 = .ok (.ifnonnull 21, 3) := by decide +kernel
theorem dX0_learnFor_36 : decode cX0_learnFor 36 = .ok (.aload_n 0, 1) := by decide +kernel
theorem dX0_learnFor_37 : decode cX0_learnFor 37 = .ok (.sipush 3968, 3) := by decide +kernel
theorem dX0_learnFor_40 : decode cX0_learnFor 40 = .ok (.newarray .int, 2) := by decide +kernel
theorem dX0_learnFor_42 : decode cX0_learnFor 42 = .ok (.putfield 65, 3) := by decide +kernel
theorem dX0_learnFor_45 : decode cX0_learnFor 45 = .ok (.aload_n 0, 1) := by decide +kernel
theorem dX0_learnFor_46 : decode cX0_learnFor 46 = .ok (.sipush 1536, 3) := by decide +kernel
theorem dX0_learnFor_49 : decode cX0_learnFor 49 = .ok (.newarray .int, 2) := by decide +kernel
theorem dX0_learnFor_51 : decode cX0_learnFor 51 = .ok (.putfield 81, 3) := by decide +kernel
theorem dX0_learnFor_54 : decode cX0_learnFor 54 = .ok (.iload_n 3, 1) := by decide +kernel
theorem dX0_learnFor_55 : decode cX0_learnFor 55 = .ok (.aload_n 0, 1) := by decide +kernel
theorem dX0_learnFor_56 : decode cX0_learnFor 56 = .ok (.getfield 39, 3) := by decide +kernel
theorem dX0_learnFor_59 : decode cX0_learnFor 59 = .ok (.if_icmp .lt 47, 3) := by decide +kernel
theorem dX0_learnFor_62 : decode cX0_learnFor 62 = .ok (.iconst 1, 1) := by decide +kernel
theorem dX0_learnFor_63 : decode cX0_learnFor 63 = .ok (.aload_n 0, 1) := by decide +kernel
theorem dX0_learnFor_64 : decode cX0_learnFor 64 = .ok (.getfield 31, 3) := by decide +kernel
theorem dX0_learnFor_67 : decode cX0_learnFor 67 = .ok (.getfield 42, 3) := by decide +kernel
theorem dX0_learnFor_70 : decode cX0_learnFor 70 = .ok (.getfield 48, 3) := by decide +kernel
theorem dX0_learnFor_73 : decode cX0_learnFor 73 = .ok (.ishl, 1) := by decide +kernel
theorem dX0_learnFor_74 : decode cX0_learnFor 74 = .ok (.istore 4, 2) := by decide +kernel
theorem dX0_learnFor_76 : decode cX0_learnFor 76 = .ok (.iconst 0, 1) := by decide +kernel
theorem dX0_learnFor_77 : decode cX0_learnFor 77 = .ok (.istore 5, 2) := by decide +kernel
theorem dX0_learnFor_79 : decode cX0_learnFor 79 = .ok (.iload 5, 2) := by decide +kernel
theorem dX0_learnFor_81 : decode cX0_learnFor 81 = .ok (.iload 4, 2) := by decide +kernel
theorem dX0_learnFor_83 : decode cX0_learnFor 83 = .ok (.if_icmp .ge 16, 3) := by decide +kernel
theorem dX0_learnFor_86 : decode cX0_learnFor 86 = .ok (.aload_n 0, 1) := by decide +kernel
theorem dX0_learnFor_87 : decode cX0_learnFor 87 = .ok (.iload 5, 2) := by decide +kernel
theorem dX0_learnFor_89 : decode cX0_learnFor 89 = .ok (.iload_n 3, 1) := by decide +kernel
theorem dX0_learnFor_90 : decode cX0_learnFor 90 = .ok (.invokevirtual 84, 3) := by decide +kernel
theorem dX0_learnFor_93 : decode cX0_learnFor 93 = .ok (.iinc 5 1, 3) := by decide +kernel
theorem dX0_learnFor_96 : decode cX0_learnFor 96 = .ok (.goto (-17), 3) := by decide +kernel
theorem dX0_learnFor_99 : decode cX0_learnFor 99 = .ok (.aload_n 0, 1) := by decide +kernel
theorem dX0_learnFor_100 : decode cX0_learnFor 100 = .ok (.iload_n 3, 1) := by decide +kernel
theorem dX0_learnFor_101 : decode cX0_learnFor 101 = .ok (.iconst 1, 1) := by decide +kernel
theorem dX0_learnFor_102 : decode cX0_learnFor 102 = .ok (.iadd, 1) := by decide +kernel
theorem dX0_learnFor_103 : decode cX0_learnFor 103 = .ok (.putfield 39, 3) := by decide +kernel
theorem dX0_learnFor_106 : decode cX0_learnFor 106 = .ok (.return_, 1) := by decide +kernel
theorem dX0_learnSet_0 : decode cX0_learnSet 0 = .ok (.aload_n 0, 1) := by decide +kernel
theorem dX0_learnSet_1 : decode cX0_learnSet 1 = .ok (.getfield 12, 3) := by decide +kernel
theorem dX0_learnSet_4 : decode cX0_learnSet 4 = .ok (.aload_n 0, 1) := by decide +kernel
theorem dX0_learnSet_5 : decode cX0_learnSet 5 = .ok (.getfield 31, 3) := by decide +kernel
theorem dX0_learnSet_8 : decode cX0_learnSet 8 = .ok (.getfield 42, 3) := by decide +kernel
theorem dX0_learnSet_11 : decode cX0_learnSet 11 = .ok (.invokevirtual 88, 3) := by decide +kernel
theorem dX0_learnSet_14 : decode cX0_learnSet 14 = .ok (.aload_n 0, 1) := by decide +kernel
theorem dX0_learnSet_15 : decode cX0_learnSet 15 = .ok (.getfield 12, 3) := by decide +kernel
theorem dX0_learnSet_18 : decode cX0_learnSet 18 = .ok (.getfield 92, 3) := by decide +kernel
theorem dX0_learnSet_21 : decode cX0_learnSet 21 = .ok (.bipush 6, 2) := by decide +kernel
theorem dX0_learnSet_23 : decode cX0_learnSet 23 = .ok (.iload_n 1, 1) := by decide +kernel
theorem dX0_learnSet_24 : decode cX0_learnSet 24 = .ok (.iastore, 1) := by decide +kernel
theorem dX0_learnSet_25 : decode cX0_learnSet 25 = .ok (.aload_n 0, 1) := by decide +kernel
theorem dX0_learnSet_26 : decode cX0_learnSet 26 = .ok (.getfield 12, 3) := by decide +kernel
theorem dX0_learnSet_29 : decode cX0_learnSet 29 = .ok (.getfield 92, 3) := by decide +kernel
theorem dX0_learnSet_32 : decode cX0_learnSet 32 = .ok (.iconst 0, 1) := by decide +kernel
theorem dX0_learnSet_33 : decode cX0_learnSet 33 = .ok (.aload_n 0, 1) := by decide +kernel
theorem dX0_learnSet_34 : decode cX0_learnSet 34 = .ok (.getfield 39, 3) := by decide +kernel
theorem dX0_learnSet_37 : decode cX0_learnSet 37 = .ok (.iastore, 1) := by decide +kernel
theorem dX0_learnSet_38 : decode cX0_learnSet 38 = .ok (.aload_n 0, 1) := by decide +kernel
theorem dX0_learnSet_39 : decode cX0_learnSet 39 = .ok (.getfield 39, 3) := by decide +kernel
theorem dX0_learnSet_42 : decode cX0_learnSet 42 = .ok (.ifCond .le 25, 3) := by decide +kernel
theorem dX0_learnSet_45 : decode cX0_learnSet 45 = .ok (.aload_n 0, 1) := by decide +kernel
theorem dX0_learnSet_46 : decode cX0_learnSet 46 = .ok (.getfield 81, 3) := by decide +kernel
theorem dX0_learnSet_49 : decode cX0_learnSet 49 = .ok (.iload_n 1, 1) := by decide +kernel
theorem dX0_learnSet_50 : decode cX0_learnSet 50 = .ok (.bipush 12, 2) := by decide +kernel
theorem dX0_learnSet_52 : decode cX0_learnSet 52 = .ok (.imul, 1) := by decide +kernel
theorem dX0_learnSet_53 : decode cX0_learnSet 53 = .ok (.aload_n 0, 1) := by decide +kernel
theorem dX0_learnSet_54 : decode cX0_learnSet 54 = .ok (.getfield 12, 3) := by decide +kernel
theorem dX0_learnSet_57 : decode cX0_learnSet 57 = .ok (.getfield 92, 3) := by decide +kernel
theorem dX0_learnSet_60 : decode cX0_learnSet 60 = .ok (.bipush 7, 2) := by decide +kernel
theorem dX0_learnSet_62 : decode cX0_learnSet 62 = .ok (.bipush 12, 2) := by decide +kernel
theorem dX0_learnSet_64 : decode cX0_learnSet 64 = .ok (.invokestatic 95, 3) := by decide +kernel
theorem dX0_learnSet_67 : decode cX0_learnSet 67 = .ok (.aload_n 0, 1) := by decide +kernel
theorem dX0_learnSet_68 : decode cX0_learnSet 68 = .ok (.getfield 31, 3) := by decide +kernel
theorem dX0_learnSet_71 : decode cX0_learnSet 71 = .ok (.aload_n 0, 1) := by decide +kernel
theorem dX0_learnSet_72 : decode cX0_learnSet 72 = .ok (.getfield 12, 3) := by decide +kernel
theorem dX0_learnSet_75 : decode cX0_learnSet 75 = .ok (.invokevirtual 101, 3) := by decide +kernel
theorem dX0_learnSet_78 : decode cX0_learnSet 78 = .ok (.aload_n 0, 1) := by decide +kernel
theorem dX0_learnSet_79 : decode cX0_learnSet 79 = .ok (.getfield 39, 3) := by decide +kernel
theorem dX0_learnSet_82 : decode cX0_learnSet 82 = .ok (.istore_n 3, 1) := by decide +kernel
theorem dX0_learnSet_83 : decode cX0_learnSet 83 = .ok (.iload_n 3, 1) := by decide +kernel
theorem dX0_learnSet_84 : decode cX0_learnSet 84 = .ok (.iload_n 2, 1) := by decide +kernel
theorem dX0_learnSet_85 : decode cX0_learnSet 85 = .ok (.if_icmp .gt 35, 3) := by decide +kernel
theorem dX0_learnSet_88 : decode cX0_learnSet 88 = .ok (.aload_n 0, 1) := by decide +kernel
theorem dX0_learnSet_89 : decode cX0_learnSet 89 = .ok (.getfield 31, 3) := by decide +kernel
theorem dX0_learnSet_92 : decode cX0_learnSet 92 = .ok (.invokevirtual 105, 3) := by decide +kernel
theorem dX0_learnSet_95 : decode cX0_learnSet 95 = .ok (.aload_n 0, 1) := by decide +kernel
theorem dX0_learnSet_96 : decode cX0_learnSet 96 = .ok (.getfield 65, 3) := by decide +kernel
theorem dX0_learnSet_99 : decode cX0_learnSet 99 = .ok (.iload_n 3, 1) := by decide +kernel
theorem dX0_learnSet_100 : decode cX0_learnSet 100 = .ok (.sipush 128, 3) := by decide +kernel
theorem dX0_learnSet_103 : decode cX0_learnSet 103 = .ok (.imul, 1) := by decide +kernel
theorem dX0_learnSet_104 : decode cX0_learnSet 104 = .ok (.iload_n 1, 1) := by decide +kernel
theorem dX0_learnSet_105 : decode cX0_learnSet 105 = .ok (.iadd, 1) := by decide +kernel
theorem dX0_learnSet_106 : decode cX0_learnSet 106 = .ok (.aload_n 0, 1) := by decide +kernel
theorem dX0_learnSet_107 : decode cX0_learnSet 107 = .ok (.getfield 31, 3) := by decide +kernel
theorem dX0_learnSet_110 : decode cX0_learnSet 110 = .ok (.getfield 108, 3) := by decide +kernel
theorem dX0_learnSet_113 : decode cX0_learnSet 113 = .ok (.iastore, 1) := by decide +kernel
theorem dX0_learnSet_114 : decode cX0_learnSet 114 = .ok (.iinc 3 1, 3) := by decide +kernel
theorem dX0_learnSet_117 : decode cX0_learnSet 117 = .ok (.goto (-34), 3) := by decide +kernel
theorem dX0_learnSet_120 : decode cX0_learnSet 120 = .ok (.aload_n 0, 1) := by decide +kernel
theorem dX0_learnSet_121 : decode cX0_learnSet 121 = .ok (.getfield 12, 3) := by decide +kernel
theorem dX0_learnSet_124 : decode cX0_learnSet 124 = .ok (.getfield 92, 3) := by decide +kernel
theorem dX0_learnSet_127 : decode cX0_learnSet 127 = .ok (.bipush 7, 2) := by decide +kernel
theorem dX0_learnSet_129 : decode cX0_learnSet 129 = .ok (.aload_n 0, 1) := by decide +kernel
theorem dX0_learnSet_130 : decode cX0_learnSet 130 = .ok (.getfield 81, 3) := by decide +kernel
theorem dX0_learnSet_133 : decode cX0_learnSet 133 = .ok (.iload_n 1, 1) := by decide +kernel
theorem dX0_learnSet_134 : decode cX0_learnSet 134 = .ok (.bipush 12, 2) := by decide +kernel
theorem dX0_learnSet_136 : decode cX0_learnSet 136 = .ok (.imul, 1) := by decide +kernel
theorem dX0_learnSet_137 : decode cX0_learnSet 137 = .ok (.bipush 12, 2) := by decide +kernel
theorem dX0_learnSet_139 : decode cX0_learnSet 139 = .ok (.invokestatic 95, 3) := by decide +kernel
theorem dX0_learnSet_142 : decode cX0_learnSet 142 = .ok (.return_, 1) := by decide +kernel
theorem dX1_init_0 : decode cX1_init 0 = .ok (.aload_n 0, 1) := by decide +kernel
theorem dX1_init_1 : decode cX1_init 1 = .ok (.invokespecial 3, 3) := by decide +kernel
theorem dX1_init_4 : decode cX1_init 4 = .ok (.aload_n 0, 1) := by decide +kernel
theorem dX1_init_5 : decode cX1_init 5 = .ok (.iconst (-1), 1) := by decide +kernel
theorem dX1_init_6 : decode cX1_init 6 = .ok (.putfield 9, 3) := by decide +kernel
theorem dX1_init_9 : decode cX1_init 9 = .ok (.aload_n 0, 1) := by decide +kernel
theorem dX1_init_10 : decode cX1_init 10 = .ok (.new 15, 3) := by decide +kernel
theorem dX1_init_13 : decode cX1_init 13 = .ok (.dup, 1) := by decide +kernel
theorem dX1_init_14 : decode cX1_init 14 = .ok (.invokespecial 17, 3) := by decide +kernel
theorem dX1_init_17 : decode cX1_init 17 = .ok (.putfield 18, 3) := by decide +kernel
theorem dX1_init_20 : decode cX1_init 20 = .ok (.aload_n 0, 1) := by decide +kernel
theorem dX1_init_21 : decode cX1_init 21 = .ok (.bipush 16, 2) := by decide +kernel
theorem dX1_init_23 : decode cX1_init 23 = .ok (.newarray .int, 2) := by decide +kernel
theorem dX1_init_25 : decode cX1_init 25 = .ok (.putfield 22, 3) := by decide +kernel
theorem dX1_init_28 : decode cX1_init 28 = .ok (.aload_n 0, 1) := by decide +kernel
theorem dX1_init_29 : decode cX1_init 29 = .ok (.bipush 16, 2) := by decide +kernel
theorem dX1_init_31 : decode cX1_init 31 = .ok (.newarray .int, 2) := by decide +kernel
theorem dX1_init_33 : decode cX1_init 33 = .ok (.putfield 26, 3) := by decide +kernel
theorem dX1_init_36 : decode cX1_init 36 = .ok (.aload_n 0, 1) := by decide +kernel
theorem dX1_init_37 : decode cX1_init 37 = .ok (.bipush 7, 2) := by decide +kernel
theorem dX1_init_39 : decode cX1_init 39 = .ok (.newarray .int, 2) := by decide +kernel
theorem dX1_init_41 : decode cX1_init 41 = .ok (.putfield 29, 3) := by decide +kernel
theorem dX1_init_44 : decode cX1_init 44 = .ok (.aload_n 0, 1) := by decide +kernel
theorem dX1_init_45 : decode cX1_init 45 = .ok (.aload_n 1, 1) := by decide +kernel
theorem dX1_init_46 : decode cX1_init 46 = .ok (.putfield 32, 3) := by decide +kernel
theorem dX1_init_49 : decode cX1_init 49 = .ok (.aload_n 0, 1) := by decide +kernel
theorem dX1_init_50 : decode cX1_init 50 = .ok (.aload_n 2, 1) := by decide +kernel
theorem dX1_init_51 : decode cX1_init 51 = .ok (.putfield 36, 3) := by decide +kernel
theorem dX1_init_54 : decode cX1_init 54 = .ok (.return_, 1) := by decide +kernel
theorem dX1_outdate_0 : decode cX1_outdate 0 = .ok (.aload_n 0, 1) := by decide +kernel
theorem dX1_outdate_1 : decode cX1_outdate 1 = .ok (.iconst (-1), 1) := by decide +kernel
theorem dX1_outdate_2 : decode cX1_outdate 2 = .ok (.putfield 9, 3) := by decide +kernel
theorem dX1_outdate_5 : decode cX1_outdate 5 = .ok (.return_, 1) := by decide +kernel
theorem dX1_startAnew_0 : decode cX1_startAnew 0 = .ok (.aload_n 0, 1) := by decide +kernel
theorem dX1_startAnew_1 : decode cX1_startAnew 1 = .ok (.getfield 18, 3) := by decide +kernel
theorem dX1_startAnew_4 : decode cX1_startAnew 4 = .ok (.aload_n 0, 1) := by decide +kernel
theorem dX1_startAnew_5 : decode cX1_startAnew 5 = .ok (.getfield 36, 3) := by decide +kernel
theorem dX1_startAnew_8 : decode cX1_startAnew 8 = .ok (.invokevirtual 39, 3) := by decide +kernel
theorem dX1_startAnew_11 : decode cX1_startAnew 11 = .ok (.return_, 1) := by decide +kernel
theorem dX1_run_0 : decode cX1_run 0 = .ok (.aload_n 0, 1) := by decide +kernel
theorem dX1_run_1 : decode cX1_run 1 = .ok (.getfield 32, 3) := by decide +kernel
theorem dX1_run_4 : decode cX1_run 4 = .ok (.aload_n 0, 1) := by decide +kernel
theorem dX1_run_5 : decode cX1_run 5 = .ok (.getfield 18, 3) := by decide +kernel
theorem dX1_run_8 : decode cX1_run 8 = .ok (.invokevirtual 43, 3) := by decide +kernel
theorem dX1_run_11 : decode cX1_run 11 = .ok (.iconst 0, 1) := by decide +kernel
theorem dX1_run_12 : decode cX1_run 12 = .ok (.istore_n 2, 1) := by decide +kernel
theorem dX1_run_13 : decode cX1_run 13 = .ok (.iload_n 2, 1) := by decide +kernel
theorem dX1_run_14 : decode cX1_run 14 = .ok (.iload_n 1, 1) := by decide +kernel
theorem dX1_run_15 : decode cX1_run 15 = .ok (.if_icmp .ge 16, 3) := by decide +kernel
theorem dX1_run_18 : decode cX1_run 18 = .ok (.aload_n 0, 1) := by decide +kernel
theorem dX1_run_19 : decode cX1_run 19 = .ok (.getfield 32, 3) := by decide +kernel
theorem dX1_run_22 : decode cX1_run 22 = .ok (.invokevirtual 48, 3) := by decide +kernel
theorem dX1_run_25 : decode cX1_run 25 = .ok (.iinc 2 1, 3) := by decide +kernel
theorem dX1_run_28 : decode cX1_run 28 = .ok (.goto (-15), 3) := by decide +kernel
theorem dX1_run_31 : decode cX1_run 31 = .ok (.return_, 1) := by decide +kernel
theorem dX1_grown_0 : decode cX1_grown 0 = .ok (.iconst 0, 1) := by decide +kernel
theorem dX1_grown_1 : decode cX1_grown 1 = .ok (.istore_n 3, 1) := by decide +kernel
theorem dX1_grown_2 : decode cX1_grown 2 = .ok (.iload_n 1, 1) := by decide +kernel
theorem dX1_grown_3 : decode cX1_grown 3 = .ok (.istore 4, 2) := by decide +kernel
theorem dX1_grown_5 : decode cX1_grown 5 = .ok (.iload 4, 2) := by decide +kernel
theorem dX1_grown_7 : decode cX1_grown 7 = .ok (.iload_n 1, 1) := by decide +kernel
theorem dX1_grown_8 : decode cX1_grown 8 = .ok (.iload_n 2, 1) := by decide +kernel
theorem dX1_grown_9 : decode cX1_grown 9 = .ok (.iadd, 1) := by decide +kernel
theorem dX1_grown_10 : decode cX1_grown 10 = .ok (.if_icmp .ge 40, 3) := by decide +kernel
theorem dX1_grown_13 : decode cX1_grown 13 = .ok (.iload 4, 2) := by decide +kernel
theorem dX1_grown_15 : decode cX1_grown 15 = .ok (.bipush 71, 2) := by decide +kernel
theorem dX1_grown_17 : decode cX1_grown 17 = .ok (.if_icmp .ge 33, 3) := by decide +kernel
theorem dX1_grown_20 : decode cX1_grown 20 = .ok (.iload_n 3, 1) := by decide +kernel
theorem dX1_grown_21 : decode cX1_grown 21 = .ok (.aload_n 0, 1) := by decide +kernel
theorem dX1_grown_22 : decode cX1_grown 22 = .ok (.getfield 18, 3) := by decide +kernel
theorem dX1_grown_25 : decode cX1_grown 25 = .ok (.getfield 51, 3) := by decide +kernel
theorem dX1_grown_28 : decode cX1_grown 28 = .ok (.iload 4, 2) := by decide +kernel
theorem dX1_grown_30 : decode cX1_grown 30 = .ok (.iaload, 1) := by decide +kernel
theorem dX1_grown_31 : decode cX1_grown 31 = .ok (.aload_n 0, 1) := by decide +kernel
theorem dX1_grown_32 : decode cX1_grown 32 = .ok (.getfield 36, 3) := by decide +kernel
theorem dX1_grown_35 : decode cX1_grown 35 = .ok (.getfield 51, 3) := by decide +kernel
theorem dX1_grown_38 : decode cX1_grown 38 = .ok (.iload 4, 2) := by decide +kernel
theorem dX1_grown_40 : decode cX1_grown 40 = .ok (.iaload, 1) := by decide +kernel
theorem dX1_grown_41 : decode cX1_grown 41 = .ok (.isub, 1) := by decide +kernel
theorem dX1_grown_42 : decode cX1_grown 42 = .ok (.iadd, 1) := by decide +kernel
theorem dX1_grown_43 : decode cX1_grown 43 = .ok (.istore_n 3, 1) := by decide +kernel
theorem dX1_grown_44 : decode cX1_grown 44 = .ok (.iinc 4 1, 3) := by decide +kernel
theorem dX1_grown_47 : decode cX1_grown 47 = .ok (.goto (-42), 3) := by decide +kernel
theorem dX1_grown_50 : decode cX1_grown 50 = .ok (.iload_n 3, 1) := by decide +kernel
theorem dX1_grown_51 : decode cX1_grown 51 = .ok (.ireturn, 1) := by decide +kernel
theorem dX1_seekGates_0 : decode cX1_seekGates 0 = .ok (.aload_n 0, 1) := by decide +kernel
theorem dX1_seekGates_1 : decode cX1_seekGates 1 = .ok (.bipush 100, 2) := by decide +kernel
theorem dX1_seekGates_3 : decode cX1_seekGates 3 = .ok (.bipush 10, 2) := by decide +kernel
theorem dX1_seekGates_5 : decode cX1_seekGates 5 = .ok (.iload_n 1, 1) := by decide +kernel
theorem dX1_seekGates_6 : decode cX1_seekGates 6 = .ok (.imul, 1) := by decide +kernel
theorem dX1_seekGates_7 : decode cX1_seekGates 7 = .ok (.iadd, 1) := by decide +kernel
theorem dX1_seekGates_8 : decode cX1_seekGates 8 = .ok (.iload_n 2, 1) := by decide +kernel
theorem dX1_seekGates_9 : decode cX1_seekGates 9 = .ok (.iadd, 1) := by decide +kernel
theorem dX1_seekGates_10 : decode cX1_seekGates 10 = .ok (.invokevirtual 54, 3) := by decide +kernel
theorem dX1_seekGates_13 : decode cX1_seekGates 13 = .ok (.ifCond .eq 4, 3) := by decide +kernel
theorem dX1_seekGates_16 : decode cX1_seekGates 16 = .ok (.return_, 1) := by decide +kernel
theorem dX1_seekGates_17 : decode cX1_seekGates 17 = .ok (.iconst 1, 1) := by decide +kernel
theorem dX1_seekGates_18 : decode cX1_seekGates 18 = .ok (.aload_n 0, 1) := by decide +kernel
theorem dX1_seekGates_19 : decode cX1_seekGates 19 = .ok (.getfield 32, 3) := by decide +kernel
theorem dX1_seekGates_22 : decode cX1_seekGates 22 = .ok (.getfield 58, 3) := by decide +kernel
theorem dX1_seekGates_25 : decode cX1_seekGates 25 = .ok (.getfield 62, 3) := by decide +kernel
theorem dX1_seekGates_28 : decode cX1_seekGates 28 = .ok (.ishl, 1) := by decide +kernel
theorem dX1_seekGates_29 : decode cX1_seekGates 29 = .ok (.istore_n 3, 1) := by decide +kernel
theorem dX1_seekGates_30 : decode cX1_seekGates 30 = .ok (.iconst 0, 1) := by decide +kernel
theorem dX1_seekGates_31 : decode cX1_seekGates 31 = .ok (.istore 4, 2) := by decide +kernel
theorem dX1_seekGates_33 : decode cX1_seekGates 33 = .ok (.iload 4, 2) := by decide +kernel
theorem dX1_seekGates_35 : decode cX1_seekGates 35 = .ok (.iload_n 3, 1) := by decide +kernel
theorem dX1_seekGates_36 : decode cX1_seekGates 36 = .ok (.if_icmp .ge 50, 3) := by decide +kernel
theorem dX1_seekGates_39 : decode cX1_seekGates 39 = .ok (.iload 4, 2) := by decide +kernel
theorem dX1_seekGates_41 : decode cX1_seekGates 41 = .ok (.invokestatic 67, 3) := by decide +kernel
theorem dX1_seekGates_44 : decode cX1_seekGates 44 = .ok (.iload_n 1, 1) := by decide +kernel
theorem dX1_seekGates_45 : decode cX1_seekGates 45 = .ok (.if_icmp .ne 35, 3) := by decide +kernel
theorem dX1_seekGates_48 : decode cX1_seekGates 48 = .ok (.aload_n 0, 1) := by decide +kernel
theorem dX1_seekGates_49 : decode cX1_seekGates 49 = .ok (.invokevirtual 73, 3) := by decide +kernel
theorem dX1_seekGates_52 : decode cX1_seekGates 52 = .ok (.aload_n 0, 1) := by decide +kernel
theorem dX1_seekGates_53 : decode cX1_seekGates 53 = .ok (.getfield 18, 3) := by decide +kernel
theorem dX1_seekGates_56 : decode cX1_seekGates 56 = .ok (.getfield 51, 3) := by decide +kernel
theorem dX1_seekGates_59 : decode cX1_seekGates 59 = .ok (.iconst 4, 1) := by decide +kernel
theorem dX1_seekGates_60 : decode cX1_seekGates 60 = .ok (.iload 4, 2) := by decide +kernel
theorem dX1_seekGates_62 : decode cX1_seekGates 62 = .ok (.iastore, 1) := by decide +kernel
theorem dX1_seekGates_63 : decode cX1_seekGates 63 = .ok (.aload_n 0, 1) := by decide +kernel
theorem dX1_seekGates_64 : decode cX1_seekGates 64 = .ok (.iload_n 2, 1) := by decide +kernel
theorem dX1_seekGates_65 : decode cX1_seekGates 65 = .ok (.invokevirtual 76, 3) := by decide +kernel
theorem dX1_seekGates_68 : decode cX1_seekGates 68 = .ok (.aload_n 0, 1) := by decide +kernel
theorem dX1_seekGates_69 : decode cX1_seekGates 69 = .ok (.aload_n 0, 1) := by decide +kernel
theorem dX1_seekGates_70 : decode cX1_seekGates 70 = .ok (.iconst 3, 1) := by decide +kernel
theorem dX1_seekGates_71 : decode cX1_seekGates 71 = .ok (.iconst 1, 1) := by decide +kernel
theorem dX1_seekGates_72 : decode cX1_seekGates 72 = .ok (.invokevirtual 80, 3) := by decide +kernel
theorem dX1_seekGates_75 : decode cX1_seekGates 75 = .ok (.iload 4, 2) := by decide +kernel
theorem dX1_seekGates_77 : decode cX1_seekGates 77 = .ok (.invokevirtual 84, 3) := by decide +kernel
theorem dX1_seekGates_80 : decode cX1_seekGates 80 = .ok (.iinc 4 1, 3) := by decide +kernel
theorem dX1_seekGates_83 : decode cX1_seekGates 83 = .ok (.goto (-50), 3) := by decide +kernel
theorem dX1_seekGates_86 : decode cX1_seekGates 86 = .ok (.return_, 1) := by decide +kernel
theorem dX1_seekRate_0 : decode cX1_seekRate 0 = .ok (.aload_n 0, 1) := by decide +kernel
theorem dX1_seekRate_1 : decode cX1_seekRate 1 = .ok (.sipush 200, 3) := by decide +kernel
theorem dX1_seekRate_4 : decode cX1_seekRate 4 = .ok (.iload_n 1, 1) := by decide +kernel
theorem dX1_seekRate_5 : decode cX1_seekRate 5 = .ok (.iadd, 1) := by decide +kernel
theorem dX1_seekRate_6 : decode cX1_seekRate 6 = .ok (.invokevirtual 54, 3) := by decide +kernel
theorem dX1_seekRate_9 : decode cX1_seekRate 9 = .ok (.ifCond .eq 4, 3) := by decide +kernel
theorem dX1_seekRate_12 : decode cX1_seekRate 12 = .ok (.return_, 1) := by decide +kernel
theorem dX1_seekRate_13 : decode cX1_seekRate 13 = .ok (.iconst 0, 1) := by decide +kernel
theorem dX1_seekRate_14 : decode cX1_seekRate 14 = .ok (.istore_n 2, 1) := by decide +kernel
theorem dX1_seekRate_15 : decode cX1_seekRate 15 = .ok (.iload_n 2, 1) := by decide +kernel
theorem dX1_seekRate_16 : decode cX1_seekRate 16 = .ok (.bipush 9, 2) := by decide +kernel
theorem dX1_seekRate_18 : decode cX1_seekRate 18 = .ok (.if_icmp .gt 38, 3) := by decide +kernel
theorem dX1_seekRate_21 : decode cX1_seekRate 21 = .ok (.aload_n 0, 1) := by decide +kernel
theorem dX1_seekRate_22 : decode cX1_seekRate 22 = .ok (.invokevirtual 73, 3) := by decide +kernel
theorem dX1_seekRate_25 : decode cX1_seekRate 25 = .ok (.aload_n 0, 1) := by decide +kernel
theorem dX1_seekRate_26 : decode cX1_seekRate 26 = .ok (.getfield 18, 3) := by decide +kernel
theorem dX1_seekRate_29 : decode cX1_seekRate 29 = .ok (.iload_n 2, 1) := by decide +kernel
theorem dX1_seekRate_30 : decode cX1_seekRate 30 = .ok (.iload_n 2, 1) := by decide +kernel
theorem dX1_seekRate_31 : decode cX1_seekRate 31 = .ok (.invokevirtual 88, 3) := by decide +kernel
theorem dX1_seekRate_34 : decode cX1_seekRate 34 = .ok (.aload_n 0, 1) := by decide +kernel
theorem dX1_seekRate_35 : decode cX1_seekRate 35 = .ok (.iload_n 1, 1) := by decide +kernel
theorem dX1_seekRate_36 : decode cX1_seekRate 36 = .ok (.invokevirtual 76, 3) := by decide +kernel
theorem dX1_seekRate_39 : decode cX1_seekRate 39 = .ok (.aload_n 0, 1) := by decide +kernel
theorem dX1_seekRate_40 : decode cX1_seekRate 40 = .ok (.aload_n 0, 1) := by decide +kernel
theorem dX1_seekRate_41 : decode cX1_seekRate 41 = .ok (.iconst 3, 1) := by decide +kernel
theorem dX1_seekRate_42 : decode cX1_seekRate 42 = .ok (.iconst 1, 1) := by decide +kernel
theorem dX1_seekRate_43 : decode cX1_seekRate 43 = .ok (.invokevirtual 80, 3) := by decide +kernel
theorem dX1_seekRate_46 : decode cX1_seekRate 46 = .ok (.iload_n 2, 1) := by decide +kernel
theorem dX1_seekRate_47 : decode cX1_seekRate 47 = .ok (.invokevirtual 84, 3) := by decide +kernel
theorem dX1_seekRate_50 : decode cX1_seekRate 50 = .ok (.iinc 2 1, 3) := by decide +kernel
theorem dX1_seekRate_53 : decode cX1_seekRate 53 = .ok (.goto (-38), 3) := by decide +kernel
theorem dX1_seekRate_56 : decode cX1_seekRate 56 = .ok (.return_, 1) := by decide +kernel
theorem dX1_seekBusiest_0 : decode cX1_seekBusiest 0 = .ok (.aload_n 0, 1) := by decide +kernel
theorem dX1_seekBusiest_1 : decode cX1_seekBusiest 1 = .ok (.sipush 300, 3) := by decide +kernel
theorem dX1_seekBusiest_4 : decode cX1_seekBusiest 4 = .ok (.iload_n 1, 1) := by decide +kernel
theorem dX1_seekBusiest_5 : decode cX1_seekBusiest 5 = .ok (.iadd, 1) := by decide +kernel
theorem dX1_seekBusiest_6 : decode cX1_seekBusiest 6 = .ok (.invokevirtual 54, 3) := by decide +kernel
theorem dX1_seekBusiest_9 : decode cX1_seekBusiest 9 = .ok (.ifCond .eq 4, 3) := by decide +kernel
theorem dX1_seekBusiest_12 : decode cX1_seekBusiest 12 = .ok (.return_, 1) := by decide +kernel
theorem dX1_seekBusiest_13 : decode cX1_seekBusiest 13 = .ok (.aload_n 0, 1) := by decide +kernel
theorem dX1_seekBusiest_14 : decode cX1_seekBusiest 14 = .ok (.invokevirtual 73, 3) := by decide +kernel
theorem dX1_seekBusiest_17 : decode cX1_seekBusiest 17 = .ok (.aload_n 0, 1) := by decide +kernel
theorem dX1_seekBusiest_18 : decode cX1_seekBusiest 18 = .ok (.iload_n 1, 1) := by decide +kernel
theorem dX1_seekBusiest_19 : decode cX1_seekBusiest 19 = .ok (.invokevirtual 76, 3) := by decide +kernel
theorem dX1_seekBusiest_22 : decode cX1_seekBusiest 22 = .ok (.iconst 0, 1) := by decide +kernel
theorem dX1_seekBusiest_23 : decode cX1_seekBusiest 23 = .ok (.istore_n 2, 1) := by decide +kernel
theorem dX1_seekBusiest_24 : decode cX1_seekBusiest 24 = .ok (.iload_n 2, 1) := by decide +kernel
theorem dX1_seekBusiest_25 : decode cX1_seekBusiest 25 = .ok (.aload_n 0, 1) := by decide +kernel
theorem dX1_seekBusiest_26 : decode cX1_seekBusiest 26 = .ok (.getfield 32, 3) := by decide +kernel
theorem dX1_seekBusiest_29 : decode cX1_seekBusiest 29 = .ok (.getfield 58, 3) := by decide +kernel
theorem dX1_seekBusiest_32 : decode cX1_seekBusiest 32 = .ok (.getfield 62, 3) := by decide +kernel
theorem dX1_seekBusiest_35 : decode cX1_seekBusiest 35 = .ok (.if_icmp .ge 23, 3) := by decide +kernel
theorem dX1_seekBusiest_38 : decode cX1_seekBusiest 38 = .ok (.aload_n 0, 1) := by decide +kernel
theorem dX1_seekBusiest_39 : decode cX1_seekBusiest 39 = .ok (.aload_n 0, 1) := by decide +kernel
theorem dX1_seekBusiest_40 : decode cX1_seekBusiest 40 = .ok (.bipush 7, 2) := by decide +kernel
theorem dX1_seekBusiest_42 : decode cX1_seekBusiest 42 = .ok (.iload_n 2, 1) := by decide +kernel
theorem dX1_seekBusiest_43 : decode cX1_seekBusiest 43 = .ok (.iadd, 1) := by decide +kernel
theorem dX1_seekBusiest_44 : decode cX1_seekBusiest 44 = .ok (.iconst 1, 1) := by decide +kernel
theorem dX1_seekBusiest_45 : decode cX1_seekBusiest 45 = .ok (.invokevirtual 80, 3) := by decide +kernel
theorem dX1_seekBusiest_48 : decode cX1_seekBusiest 48 = .ok (.iload_n 2, 1) := by decide +kernel
theorem dX1_seekBusiest_49 : decode cX1_seekBusiest 49 = .ok (.invokevirtual 84, 3) := by decide +kernel
theorem dX1_seekBusiest_52 : decode cX1_seekBusiest 52 = .ok (.iinc 2 1, 3) := by decide +kernel
theorem dX1_seekBusiest_55 : decode cX1_seekBusiest 55 = .ok (.goto (-31), 3) := by decide +kernel
theorem dX1_seekBusiest_58 : decode cX1_seekBusiest 58 = .ok (.return_, 1) := by decide +kernel
theorem dX1_seekStop_0 : decode cX1_seekStop 0 = .ok (.aload_n 0, 1) := by decide +kernel
theorem dX1_seekStop_1 : decode cX1_seekStop 1 = .ok (.sipush 600, 3) := by decide +kernel
theorem dX1_seekStop_4 : decode cX1_seekStop 4 = .ok (.invokevirtual 54, 3) := by decide +kernel
theorem dX1_seekStop_7 : decode cX1_seekStop 7 = .ok (.ifCond .eq 4, 3) := by decide +kernel
theorem dX1_seekStop_10 : decode cX1_seekStop 10 = .ok (.return_, 1) := by decide +kernel
theorem dX1_seekStop_11 : decode cX1_seekStop 11 = .ok (.aload_n 0, 1) := by decide +kernel
theorem dX1_seekStop_12 : decode cX1_seekStop 12 = .ok (.invokevirtual 91, 3) := by decide +kernel
theorem dX1_seekStop_15 : decode cX1_seekStop 15 = .ok (.aload_n 0, 1) := by decide +kernel
theorem dX1_seekStop_16 : decode cX1_seekStop 16 = .ok (.aload_n 0, 1) := by decide +kernel
theorem dX1_seekStop_17 : decode cX1_seekStop 17 = .ok (.invokevirtual 94, 3) := by decide +kernel
theorem dX1_seekStop_20 : decode cX1_seekStop 20 = .ok (.putfield 98, 3) := by decide +kernel
theorem dX1_seekStop_23 : decode cX1_seekStop 23 = .ok (.aload_n 0, 1) := by decide +kernel
theorem dX1_seekStop_24 : decode cX1_seekStop 24 = .ok (.aload_n 0, 1) := by decide +kernel
theorem dX1_seekStop_25 : decode cX1_seekStop 25 = .ok (.getfield 98, 3) := by decide +kernel
theorem dX1_seekStop_28 : decode cX1_seekStop 28 = .ok (.invokestatic 67, 3) := by decide +kernel
theorem dX1_seekStop_31 : decode cX1_seekStop 31 = .ok (.putfield 101, 3) := by decide +kernel
theorem dX1_seekStop_34 : decode cX1_seekStop 34 = .ok (.return_, 1) := by decide +kernel
theorem dX1_costWithoutGates_0 : decode cX1_costWithoutGates 0 = .ok (.aload_n 0, 1) := by decide +kernel
theorem dX1_costWithoutGates_1 : decode cX1_costWithoutGates 1 = .ok (.invokevirtual 73, 3) := by decide +kernel
theorem dX1_costWithoutGates_4 : decode cX1_costWithoutGates 4 = .ok (.aload_n 0, 1) := by decide +kernel
theorem dX1_costWithoutGates_5 : decode cX1_costWithoutGates 5 = .ok (.getfield 18, 3) := by decide +kernel
theorem dX1_costWithoutGates_8 : decode cX1_costWithoutGates 8 = .ok (.getfield 51, 3) := by decide +kernel
theorem dX1_costWithoutGates_11 : decode cX1_costWithoutGates 11 = .ok (.iconst 4, 1) := by decide +kernel
theorem dX1_costWithoutGates_12 : decode cX1_costWithoutGates 12 = .ok (.iconst 0, 1) := by decide +kernel
theorem dX1_costWithoutGates_13 : decode cX1_costWithoutGates 13 = .ok (.iastore, 1) := by decide +kernel
theorem dX1_costWithoutGates_14 : decode cX1_costWithoutGates 14 = .ok (.aload_n 0, 1) := by decide +kernel
theorem dX1_costWithoutGates_15 : decode cX1_costWithoutGates 15 = .ok (.getfield 32, 3) := by decide +kernel
theorem dX1_costWithoutGates_18 : decode cX1_costWithoutGates 18 = .ok (.aload_n 0, 1) := by decide +kernel
theorem dX1_costWithoutGates_19 : decode cX1_costWithoutGates 19 = .ok (.getfield 18, 3) := by decide +kernel
theorem dX1_costWithoutGates_22 : decode cX1_costWithoutGates 22 = .ok (.invokevirtual 43, 3) := by decide +kernel
theorem dX1_costWithoutGates_25 : decode cX1_costWithoutGates 25 = .ok (.aload_n 0, 1) := by decide +kernel
theorem dX1_costWithoutGates_26 : decode cX1_costWithoutGates 26 = .ok (.getfield 32, 3) := by decide +kernel
theorem dX1_costWithoutGates_29 : decode cX1_costWithoutGates 29 = .ok (.iload_n 1, 1) := by decide +kernel
theorem dX1_costWithoutGates_30 : decode cX1_costWithoutGates 30 = .ok (.invokevirtual 104, 3) := by decide +kernel
theorem dX1_costWithoutGates_33 : decode cX1_costWithoutGates 33 = .ok (.pop, 1) := by decide +kernel
theorem dX1_costWithoutGates_34 : decode cX1_costWithoutGates 34 = .ok (.aload_n 0, 1) := by decide +kernel
theorem dX1_costWithoutGates_35 : decode cX1_costWithoutGates 35 = .ok (.getfield 32, 3) := by decide +kernel
theorem dX1_costWithoutGates_38 : decode cX1_costWithoutGates 38 = .ok (.getfield 107, 3) := by decide +kernel
theorem dX1_costWithoutGates_41 : decode cX1_costWithoutGates 41 = .ok (.iload_n 1, 1) := by decide +kernel
theorem dX1_costWithoutGates_42 : decode cX1_costWithoutGates 42 = .ok (.aaload, 1) := by decide +kernel
theorem dX1_costWithoutGates_43 : decode cX1_costWithoutGates 43 = .ok (.getfield 111, 3) := by decide +kernel
theorem dX1_costWithoutGates_46 : decode cX1_costWithoutGates 46 = .ok (.ireturn, 1) := by decide +kernel
theorem dX1_takeByKeepers_0 : decode cX1_takeByKeepers 0 = .ok (.aload_n 0, 1) := by decide +kernel
theorem dX1_takeByKeepers_1 : decode cX1_takeByKeepers 1 = .ok (.sipush 400, 3) := by decide +kernel
theorem dX1_takeByKeepers_4 : decode cX1_takeByKeepers 4 = .ok (.iload_n 1, 1) := by decide +kernel
theorem dX1_takeByKeepers_5 : decode cX1_takeByKeepers 5 = .ok (.iadd, 1) := by decide +kernel
theorem dX1_takeByKeepers_6 : decode cX1_takeByKeepers 6 = .ok (.invokevirtual 54, 3) := by decide +kernel
theorem dX1_takeByKeepers_9 : decode cX1_takeByKeepers 9 = .ok (.ifCond .eq 4, 3) := by decide +kernel
theorem dX1_takeByKeepers_12 : decode cX1_takeByKeepers 12 = .ok (.return_, 1) := by decide +kernel
theorem dX1_takeByKeepers_13 : decode cX1_takeByKeepers 13 = .ok (.iconst 0, 1) := by decide +kernel
theorem dX1_takeByKeepers_14 : decode cX1_takeByKeepers 14 = .ok (.istore_n 2, 1) := by decide +kernel
theorem dX1_takeByKeepers_15 : decode cX1_takeByKeepers 15 = .ok (.iload_n 2, 1) := by decide +kernel
theorem dX1_takeByKeepers_16 : decode cX1_takeByKeepers 16 = .ok (.bipush 16, 2) := by decide +kernel
theorem dX1_takeByKeepers_18 : decode cX1_takeByKeepers 18 = .ok (.if_icmp .ge 83, 3) := by decide +kernel
theorem dX1_takeByKeepers_21 : decode cX1_takeByKeepers 21 = .ok (.aload_n 0, 1) := by decide +kernel
theorem dX1_takeByKeepers_22 : decode cX1_takeByKeepers 22 = .ok (.invokevirtual 73, 3) := by decide +kernel
theorem dX1_takeByKeepers_25 : decode cX1_takeByKeepers 25 = .ok (.aload_n 0, 1) := by decide +kernel
theorem dX1_takeByKeepers_26 : decode cX1_takeByKeepers 26 = .ok (.getfield 18, 3) := by decide +kernel
theorem dX1_takeByKeepers_29 : decode cX1_takeByKeepers 29 = .ok (.iload_n 2, 1) := by decide +kernel
theorem dX1_takeByKeepers_30 : decode cX1_takeByKeepers 30 = .ok (.iconst 4, 1) := by decide +kernel
theorem dX1_takeByKeepers_31 : decode cX1_takeByKeepers 31 = .ok (.idiv, 1) := by decide +kernel
theorem dX1_takeByKeepers_32 : decode cX1_takeByKeepers 32 = .ok (.iload_n 2, 1) := by decide +kernel
theorem dX1_takeByKeepers_33 : decode cX1_takeByKeepers 33 = .ok (.iconst 4, 1) := by decide +kernel
theorem dX1_takeByKeepers_34 : decode cX1_takeByKeepers 34 = .ok (.irem, 1) := by decide +kernel
theorem dX1_takeByKeepers_35 : decode cX1_takeByKeepers 35 = .ok (.invokevirtual 88, 3) := by decide +kernel
theorem dX1_takeByKeepers_38 : decode cX1_takeByKeepers 38 = .ok (.aload_n 0, 1) := by decide +kernel
theorem dX1_takeByKeepers_39 : decode cX1_takeByKeepers 39 = .ok (.iload_n 1, 1) := by decide +kernel
theorem dX1_takeByKeepers_40 : decode cX1_takeByKeepers 40 = .ok (.invokevirtual 76, 3) := by decide +kernel
theorem dX1_takeByKeepers_43 : decode cX1_takeByKeepers 43 = .ok (.iconst 0, 1) := by decide +kernel
theorem dX1_takeByKeepers_44 : decode cX1_takeByKeepers 44 = .ok (.istore_n 3, 1) := by decide +kernel
theorem dX1_takeByKeepers_45 : decode cX1_takeByKeepers 45 = .ok (.iconst 0, 1) := by decide +kernel
theorem dX1_takeByKeepers_46 : decode cX1_takeByKeepers 46 = .ok (.istore 4, 2) := by decide +kernel
theorem dX1_takeByKeepers_48 : decode cX1_takeByKeepers 48 = .ok (.iload 4, 2) := by decide +kernel
theorem dX1_takeByKeepers_50 : decode cX1_takeByKeepers 50 = .ok (.bipush 12, 2) := by decide +kernel
theorem dX1_takeByKeepers_52 : decode cX1_takeByKeepers 52 = .ok (.if_icmp .ge 22, 3) := by decide +kernel
theorem dX1_takeByKeepers_55 : decode cX1_takeByKeepers 55 = .ok (.iload_n 3, 1) := by decide +kernel
theorem dX1_takeByKeepers_56 : decode cX1_takeByKeepers 56 = .ok (.aload_n 0, 1) := by decide +kernel
theorem dX1_takeByKeepers_57 : decode cX1_takeByKeepers 57 = .ok (.bipush 31, 2) := by decide +kernel
theorem dX1_takeByKeepers_59 : decode cX1_takeByKeepers 59 = .ok (.iload 4, 2) := by decide +kernel
theorem dX1_takeByKeepers_61 : decode cX1_takeByKeepers 61 = .ok (.iadd, 1) := by decide +kernel
theorem dX1_takeByKeepers_62 : decode cX1_takeByKeepers 62 = .ok (.iconst 1, 1) := by decide +kernel
theorem dX1_takeByKeepers_63 : decode cX1_takeByKeepers 63 = .ok (.invokevirtual 80, 3) := by decide +kernel
theorem dX1_takeByKeepers_66 : decode cX1_takeByKeepers 66 = .ok (.iadd, 1) := by decide +kernel
theorem dX1_takeByKeepers_67 : decode cX1_takeByKeepers 67 = .ok (.istore_n 3, 1) := by decide +kernel
theorem dX1_takeByKeepers_68 : decode cX1_takeByKeepers 68 = .ok (.iinc 4 2, 3) := by decide +kernel
theorem dX1_takeByKeepers_71 : decode cX1_takeByKeepers 71 = .ok (.goto (-23), 3) := by decide +kernel
theorem dX1_takeByKeepers_74 : decode cX1_takeByKeepers 74 = .ok (.aload_n 0, 1) := by decide +kernel
theorem dX1_takeByKeepers_75 : decode cX1_takeByKeepers 75 = .ok (.getfield 22, 3) := by decide +kernel
theorem dX1_takeByKeepers_78 : decode cX1_takeByKeepers 78 = .ok (.iload_n 2, 1) := by decide +kernel
theorem dX1_takeByKeepers_79 : decode cX1_takeByKeepers 79 = .ok (.iload_n 3, 1) := by decide +kernel
theorem dX1_takeByKeepers_80 : decode cX1_takeByKeepers 80 = .ok (.iastore, 1) := by decide +kernel
theorem dX1_takeByKeepers_81 : decode cX1_takeByKeepers 81 = .ok (.aload_n 0, 1) := by decide +kernel
theorem dX1_takeByKeepers_82 : decode cX1_takeByKeepers 82 = .ok (.getfield 26, 3) := by decide +kernel
theorem dX1_takeByKeepers_85 : decode cX1_takeByKeepers 85 = .ok (.iload_n 2, 1) := by decide +kernel
theorem dX1_takeByKeepers_86 : decode cX1_takeByKeepers 86 = .ok (.aload_n 0, 1) := by decide +kernel
theorem dX1_takeByKeepers_87 : decode cX1_takeByKeepers 87 = .ok (.iconst 3, 1) := by decide +kernel
theorem dX1_takeByKeepers_88 : decode cX1_takeByKeepers 88 = .ok (.iconst 1, 1) := by decide +kernel
theorem dX1_takeByKeepers_89 : decode cX1_takeByKeepers 89 = .ok (.invokevirtual 80, 3) := by decide +kernel
theorem dX1_takeByKeepers_92 : decode cX1_takeByKeepers 92 = .ok (.iload_n 3, 1) := by decide +kernel
theorem dX1_takeByKeepers_93 : decode cX1_takeByKeepers 93 = .ok (.isub, 1) := by decide +kernel
theorem dX1_takeByKeepers_94 : decode cX1_takeByKeepers 94 = .ok (.iastore, 1) := by decide +kernel
theorem dX1_takeByKeepers_95 : decode cX1_takeByKeepers 95 = .ok (.iinc 2 1, 3) := by decide +kernel
theorem dX1_takeByKeepers_98 : decode cX1_takeByKeepers 98 = .ok (.goto (-83), 3) := by decide +kernel
theorem dX1_takeByKeepers_101 : decode cX1_takeByKeepers 101 = .ok (.return_, 1) := by decide +kernel
theorem dX1_rest_0 : decode cX1_rest 0 = .ok (.iconst 0, 1) := by decide +kernel
theorem dX1_rest_1 : decode cX1_rest 1 = .ok (.istore_n 2, 1) := by decide +kernel
theorem dX1_rest_2 : decode cX1_rest 2 = .ok (.iconst 0, 1) := by decide +kernel
theorem dX1_rest_3 : decode cX1_rest 3 = .ok (.istore_n 3, 1) := by decide +kernel
theorem dX1_rest_4 : decode cX1_rest 4 = .ok (.iload_n 3, 1) := by decide +kernel
theorem dX1_rest_5 : decode cX1_rest 5 = .ok (.bipush 16, 2) := by decide +kernel
theorem dX1_rest_7 : decode cX1_rest 7 = .ok (.if_icmp .ge 36, 3) := by decide +kernel
theorem dX1_rest_10 : decode cX1_rest 10 = .ok (.aload_n 0, 1) := by decide +kernel
theorem dX1_rest_11 : decode cX1_rest 11 = .ok (.iload_n 3, 1) := by decide +kernel
theorem dX1_rest_12 : decode cX1_rest 12 = .ok (.invokevirtual 116, 3) := by decide +kernel
theorem dX1_rest_15 : decode cX1_rest 15 = .ok (.ifCond .eq 22, 3) := by decide +kernel
theorem dX1_rest_18 : decode cX1_rest 18 = .ok (.iload_n 2, 1) := by decide +kernel
theorem dX1_rest_19 : decode cX1_rest 19 = .ok (.iload_n 1, 1) := by decide +kernel
theorem dX1_rest_20 : decode cX1_rest 20 = .ok (.if_icmp .ne 14, 3) := by decide +kernel
theorem dX1_rest_23 : decode cX1_rest 23 = .ok (.bipush 10, 2) := by decide +kernel
theorem dX1_rest_25 : decode cX1_rest 25 = .ok (.iload_n 3, 1) := by decide +kernel
theorem dX1_rest_26 : decode cX1_rest 26 = .ok (.iconst 4, 1) := by decide +kernel
theorem dX1_rest_27 : decode cX1_rest 27 = .ok (.idiv, 1) := by decide +kernel
theorem dX1_rest_28 : decode cX1_rest 28 = .ok (.imul, 1) := by decide +kernel
theorem dX1_rest_29 : decode cX1_rest 29 = .ok (.iload_n 3, 1) := by decide +kernel
theorem dX1_rest_30 : decode cX1_rest 30 = .ok (.iconst 4, 1) := by decide +kernel
theorem dX1_rest_31 : decode cX1_rest 31 = .ok (.irem, 1) := by decide +kernel
theorem dX1_rest_32 : decode cX1_rest 32 = .ok (.iadd, 1) := by decide +kernel
theorem dX1_rest_33 : decode cX1_rest 33 = .ok (.ireturn, 1) := by decide +kernel
theorem dX1_rest_34 : decode cX1_rest 34 = .ok (.iinc 2 1, 3) := by decide +kernel
theorem dX1_rest_37 : decode cX1_rest 37 = .ok (.iinc 3 1, 3) := by decide +kernel
theorem dX1_rest_40 : decode cX1_rest 40 = .ok (.goto (-36), 3) := by decide +kernel
theorem dX1_rest_43 : decode cX1_rest 43 = .ok (.iload_n 1, 1) := by decide +kernel
theorem dX1_rest_44 : decode cX1_rest 44 = .ok (.iconst (-1), 1) := by decide +kernel
theorem dX1_rest_45 : decode cX1_rest 45 = .ok (.if_icmp .ne 7, 3) := by decide +kernel
theorem dX1_rest_48 : decode cX1_rest 48 = .ok (.iload_n 2, 1) := by decide +kernel
theorem dX1_rest_49 : decode cX1_rest 49 = .ok (.goto 4, 3) := by decide +kernel
theorem dX1_rest_52 : decode cX1_rest 52 = .ok (.iconst (-1), 1) := by decide +kernel
theorem dX1_rest_53 : decode cX1_rest 53 = .ok (.ireturn, 1) := by decide +kernel
theorem dX1_nightsUntilBroken_0 : decode cX1_nightsUntilBroken 0 = .ok (.aload_n 0, 1) := by decide +kernel
theorem dX1_nightsUntilBroken_1 : decode cX1_nightsUntilBroken 1 = .ok (.invokevirtual 73, 3) := by decide +kernel
theorem dX1_nightsUntilBroken_4 : decode cX1_nightsUntilBroken 4 = .ok (.aload_n 0, 1) := by decide +kernel
theorem dX1_nightsUntilBroken_5 : decode cX1_nightsUntilBroken 5 = .ok (.getfield 32, 3) := by decide +kernel
theorem dX1_nightsUntilBroken_8 : decode cX1_nightsUntilBroken 8 = .ok (.aload_n 0, 1) := by decide +kernel
theorem dX1_nightsUntilBroken_9 : decode cX1_nightsUntilBroken 9 = .ok (.getfield 18, 3) := by decide +kernel
theorem dX1_nightsUntilBroken_12 : decode cX1_nightsUntilBroken 12 = .ok (.invokevirtual 43, 3) := by decide +kernel
theorem dX1_nightsUntilBroken_15 : decode cX1_nightsUntilBroken 15 = .ok (.iconst 0, 1) := by decide +kernel
theorem dX1_nightsUntilBroken_16 : decode cX1_nightsUntilBroken 16 = .ok (.istore_n 2, 1) := by decide +kernel
theorem dX1_nightsUntilBroken_17 : decode cX1_nightsUntilBroken 17 = .ok (.iload_n 2, 1) := by decide +kernel
theorem dX1_nightsUntilBroken_18 : decode cX1_nightsUntilBroken 18 = .ok (.sipush 200, 3) := by decide +kernel
theorem dX1_nightsUntilBroken_21 : decode cX1_nightsUntilBroken 21 = .ok (.if_icmp .ge 32, 3) := by decide +kernel
theorem dX1_nightsUntilBroken_24 : decode cX1_nightsUntilBroken 24 = .ok (.aload_n 0, 1) := by decide +kernel
theorem dX1_nightsUntilBroken_25 : decode cX1_nightsUntilBroken 25 = .ok (.getfield 32, 3) := by decide +kernel
theorem dX1_nightsUntilBroken_28 : decode cX1_nightsUntilBroken 28 = .ok (.getfield 119, 3) := by decide +kernel
theorem dX1_nightsUntilBroken_31 : decode cX1_nightsUntilBroken 31 = .ok (.iload_n 1, 1) := by decide +kernel
theorem dX1_nightsUntilBroken_32 : decode cX1_nightsUntilBroken 32 = .ok (.ishr, 1) := by decide +kernel
theorem dX1_nightsUntilBroken_33 : decode cX1_nightsUntilBroken 33 = .ok (.iconst 1, 1) := by decide +kernel
theorem dX1_nightsUntilBroken_34 : decode cX1_nightsUntilBroken 34 = .ok (.iand, 1) := by decide +kernel
theorem dX1_nightsUntilBroken_35 : decode cX1_nightsUntilBroken 35 = .ok (.ifCond .eq 5, 3) := by decide +kernel
theorem dX1_nightsUntilBroken_38 : decode cX1_nightsUntilBroken 38 = .ok (.iload_n 2, 1) := by decide +kernel
theorem dX1_nightsUntilBroken_39 : decode cX1_nightsUntilBroken 39 = .ok (.ireturn, 1) := by decide +kernel
theorem dX1_nightsUntilBroken_40 : decode cX1_nightsUntilBroken 40 = .ok (.aload_n 0, 1) := by decide +kernel
theorem dX1_nightsUntilBroken_41 : decode cX1_nightsUntilBroken 41 = .ok (.getfield 32, 3) := by decide +kernel
theorem dX1_nightsUntilBroken_44 : decode cX1_nightsUntilBroken 44 = .ok (.invokevirtual 48, 3) := by decide +kernel
theorem dX1_nightsUntilBroken_47 : decode cX1_nightsUntilBroken 47 = .ok (.iinc 2 1, 3) := by decide +kernel
theorem dX1_nightsUntilBroken_50 : decode cX1_nightsUntilBroken 50 = .ok (.goto (-33), 3) := by decide +kernel
theorem dX1_nightsUntilBroken_53 : decode cX1_nightsUntilBroken 53 = .ok (.aload_n 0, 1) := by decide +kernel
theorem dX1_nightsUntilBroken_54 : decode cX1_nightsUntilBroken 54 = .ok (.getfield 32, 3) := by decide +kernel
theorem dX1_nightsUntilBroken_57 : decode cX1_nightsUntilBroken 57 = .ok (.getfield 119, 3) := by decide +kernel
theorem dX1_nightsUntilBroken_60 : decode cX1_nightsUntilBroken 60 = .ok (.iload_n 1, 1) := by decide +kernel
theorem dX1_nightsUntilBroken_61 : decode cX1_nightsUntilBroken 61 = .ok (.ishr, 1) := by decide +kernel
theorem dX1_nightsUntilBroken_62 : decode cX1_nightsUntilBroken 62 = .ok (.iconst 1, 1) := by decide +kernel
theorem dX1_nightsUntilBroken_63 : decode cX1_nightsUntilBroken 63 = .ok (.iand, 1) := by decide +kernel
theorem dX1_nightsUntilBroken_64 : decode cX1_nightsUntilBroken 64 = .ok (.ifCond .eq 9, 3) := by decide +kernel
theorem dX1_nightsUntilBroken_67 : decode cX1_nightsUntilBroken 67 = .ok (.sipush 200, 3) := by decide +kernel
theorem dX1_nightsUntilBroken_70 : decode cX1_nightsUntilBroken 70 = .ok (.goto 5, 3) := by decide +kernel
theorem dX1_nightsUntilBroken_73 : decode cX1_nightsUntilBroken 73 = .ok (.bipush (-2), 2) := by decide +kernel
theorem dX1_nightsUntilBroken_75 : decode cX1_nightsUntilBroken 75 = .ok (.ireturn, 1) := by decide +kernel
theorem dX1_seekFirstBroken_0 : decode cX1_seekFirstBroken 0 = .ok (.aload_n 0, 1) := by decide +kernel
theorem dX1_seekFirstBroken_1 : decode cX1_seekFirstBroken 1 = .ok (.sipush 500, 3) := by decide +kernel
theorem dX1_seekFirstBroken_4 : decode cX1_seekFirstBroken 4 = .ok (.invokevirtual 54, 3) := by decide +kernel
theorem dX1_seekFirstBroken_7 : decode cX1_seekFirstBroken 7 = .ok (.ifCond .eq 4, 3) := by decide +kernel
theorem dX1_seekFirstBroken_10 : decode cX1_seekFirstBroken 10 = .ok (.return_, 1) := by decide +kernel
theorem dX1_seekFirstBroken_11 : decode cX1_seekFirstBroken 11 = .ok (.aload_n 0, 1) := by decide +kernel
theorem dX1_seekFirstBroken_12 : decode cX1_seekFirstBroken 12 = .ok (.bipush (-2), 2) := by decide +kernel
theorem dX1_seekFirstBroken_14 : decode cX1_seekFirstBroken 14 = .ok (.putfield 101, 3) := by decide +kernel
theorem dX1_seekFirstBroken_17 : decode cX1_seekFirstBroken 17 = .ok (.aload_n 0, 1) := by decide +kernel
theorem dX1_seekFirstBroken_18 : decode cX1_seekFirstBroken 18 = .ok (.bipush (-2), 2) := by decide +kernel
theorem dX1_seekFirstBroken_20 : decode cX1_seekFirstBroken 20 = .ok (.putfield 98, 3) := by decide +kernel
theorem dX1_seekFirstBroken_23 : decode cX1_seekFirstBroken 23 = .ok (.aload_n 0, 1) := by decide +kernel
theorem dX1_seekFirstBroken_24 : decode cX1_seekFirstBroken 24 = .ok (.invokevirtual 73, 3) := by decide +kernel
theorem dX1_seekFirstBroken_27 : decode cX1_seekFirstBroken 27 = .ok (.aload_n 0, 1) := by decide +kernel
theorem dX1_seekFirstBroken_28 : decode cX1_seekFirstBroken 28 = .ok (.getfield 32, 3) := by decide +kernel
theorem dX1_seekFirstBroken_31 : decode cX1_seekFirstBroken 31 = .ok (.aload_n 0, 1) := by decide +kernel
theorem dX1_seekFirstBroken_32 : decode cX1_seekFirstBroken 32 = .ok (.getfield 18, 3) := by decide +kernel
theorem dX1_seekFirstBroken_35 : decode cX1_seekFirstBroken 35 = .ok (.invokevirtual 43, 3) := by decide +kernel
theorem dX1_seekFirstBroken_38 : decode cX1_seekFirstBroken 38 = .ok (.aload_n 0, 1) := by decide +kernel
theorem dX1_seekFirstBroken_39 : decode cX1_seekFirstBroken 39 = .ok (.getfield 32, 3) := by decide +kernel
theorem dX1_seekFirstBroken_42 : decode cX1_seekFirstBroken 42 = .ok (.getfield 119, 3) := by decide +kernel
theorem dX1_seekFirstBroken_45 : decode cX1_seekFirstBroken 45 = .ok (.iconst (-1), 1) := by decide +kernel
theorem dX1_seekFirstBroken_46 : decode cX1_seekFirstBroken 46 = .ok (.ixor, 1) := by decide +kernel
theorem dX1_seekFirstBroken_47 : decode cX1_seekFirstBroken 47 = .ok (.istore_n 1, 1) := by decide +kernel
theorem dX1_seekFirstBroken_48 : decode cX1_seekFirstBroken 48 = .ok (.iconst 1, 1) := by decide +kernel
theorem dX1_seekFirstBroken_49 : decode cX1_seekFirstBroken 49 = .ok (.istore_n 2, 1) := by decide +kernel
theorem dX1_seekFirstBroken_50 : decode cX1_seekFirstBroken 50 = .ok (.iload_n 2, 1) := by decide +kernel
theorem dX1_seekFirstBroken_51 : decode cX1_seekFirstBroken 51 = .ok (.sipush 200, 3) := by decide +kernel
theorem dX1_seekFirstBroken_54 : decode cX1_seekFirstBroken 54 = .ok (.if_icmp .gt 44, 3) := by decide +kernel
theorem dX1_seekFirstBroken_57 : decode cX1_seekFirstBroken 57 = .ok (.aload_n 0, 1) := by decide +kernel
theorem dX1_seekFirstBroken_58 : decode cX1_seekFirstBroken 58 = .ok (.getfield 32, 3) := by decide +kernel
theorem dX1_seekFirstBroken_61 : decode cX1_seekFirstBroken 61 = .ok (.invokevirtual 48, 3) := by decide +kernel
theorem dX1_seekFirstBroken_64 : decode cX1_seekFirstBroken 64 = .ok (.aload_n 0, 1) := by decide +kernel
theorem dX1_seekFirstBroken_65 : decode cX1_seekFirstBroken 65 = .ok (.getfield 32, 3) := by decide +kernel
theorem dX1_seekFirstBroken_68 : decode cX1_seekFirstBroken 68 = .ok (.getfield 119, 3) := by decide +kernel
theorem dX1_seekFirstBroken_71 : decode cX1_seekFirstBroken 71 = .ok (.iload_n 1, 1) := by decide +kernel
theorem dX1_seekFirstBroken_72 : decode cX1_seekFirstBroken 72 = .ok (.iand, 1) := by decide +kernel
theorem dX1_seekFirstBroken_73 : decode cX1_seekFirstBroken 73 = .ok (.istore_n 3, 1) := by decide +kernel
theorem dX1_seekFirstBroken_74 : decode cX1_seekFirstBroken 74 = .ok (.iload_n 3, 1) := by decide +kernel
theorem dX1_seekFirstBroken_75 : decode cX1_seekFirstBroken 75 = .ok (.ifCond .eq 17, 3) := by decide +kernel
theorem dX1_seekFirstBroken_78 : decode cX1_seekFirstBroken 78 = .ok (.aload_n 0, 1) := by decide +kernel
theorem dX1_seekFirstBroken_79 : decode cX1_seekFirstBroken 79 = .ok (.iload_n 3, 1) := by decide +kernel
theorem dX1_seekFirstBroken_80 : decode cX1_seekFirstBroken 80 = .ok (.invokestatic 122, 3) := by decide +kernel
theorem dX1_seekFirstBroken_83 : decode cX1_seekFirstBroken 83 = .ok (.putfield 98, 3) := by decide +kernel
theorem dX1_seekFirstBroken_86 : decode cX1_seekFirstBroken 86 = .ok (.aload_n 0, 1) := by decide +kernel
theorem dX1_seekFirstBroken_87 : decode cX1_seekFirstBroken 87 = .ok (.iload_n 2, 1) := by decide +kernel
theorem dX1_seekFirstBroken_88 : decode cX1_seekFirstBroken 88 = .ok (.putfield 101, 3) := by decide +kernel
theorem dX1_seekFirstBroken_91 : decode cX1_seekFirstBroken 91 = .ok (.return_, 1) := by decide +kernel
theorem dX1_seekFirstBroken_92 : decode cX1_seekFirstBroken 92 = .ok (.iinc 2 1, 3) := by decide +kernel
theorem dX1_seekFirstBroken_95 : decode cX1_seekFirstBroken 95 = .ok (.goto (-45), 3) := by decide +kernel
theorem dX1_seekFirstBroken_98 : decode cX1_seekFirstBroken 98 = .ok (.return_, 1) := by decide +kernel
theorem dX1_nightsUntilCutOff_0 : decode cX1_nightsUntilCutOff 0 = .ok (.aload_n 0, 1) := by decide +kernel
theorem dX1_nightsUntilCutOff_1 : decode cX1_nightsUntilCutOff 1 = .ok (.invokevirtual 73, 3) := by decide +kernel
theorem dX1_nightsUntilCutOff_4 : decode cX1_nightsUntilCutOff 4 = .ok (.aload_n 0, 1) := by decide +kernel
theorem dX1_nightsUntilCutOff_5 : decode cX1_nightsUntilCutOff 5 = .ok (.getfield 32, 3) := by decide +kernel
theorem dX1_nightsUntilCutOff_8 : decode cX1_nightsUntilCutOff 8 = .ok (.aload_n 0, 1) := by decide +kernel
theorem dX1_nightsUntilCutOff_9 : decode cX1_nightsUntilCutOff 9 = .ok (.getfield 18, 3) := by decide +kernel
theorem dX1_nightsUntilCutOff_12 : decode cX1_nightsUntilCutOff 12 = .ok (.invokevirtual 43, 3) := by decide +kernel
theorem dX1_nightsUntilCutOff_15 : decode cX1_nightsUntilCutOff 15 = .ok (.iconst 0, 1) := by decide +kernel
theorem dX1_nightsUntilCutOff_16 : decode cX1_nightsUntilCutOff 16 = .ok (.istore_n 2, 1) := by decide +kernel
theorem dX1_nightsUntilCutOff_17 : decode cX1_nightsUntilCutOff 17 = .ok (.iload_n 2, 1) := by decide +kernel
theorem dX1_nightsUntilCutOff_18 : decode cX1_nightsUntilCutOff 18 = .ok (.sipush 200, 3) := by decide +kernel
theorem dX1_nightsUntilCutOff_21 : decode cX1_nightsUntilCutOff 21 = .ok (.if_icmp .ge 29, 3) := by decide +kernel
theorem dX1_nightsUntilCutOff_24 : decode cX1_nightsUntilCutOff 24 = .ok (.aload_n 0, 1) := by decide +kernel
theorem dX1_nightsUntilCutOff_25 : decode cX1_nightsUntilCutOff 25 = .ok (.getfield 32, 3) := by decide +kernel
theorem dX1_nightsUntilCutOff_28 : decode cX1_nightsUntilCutOff 28 = .ok (.iload_n 1, 1) := by decide +kernel
theorem dX1_nightsUntilCutOff_29 : decode cX1_nightsUntilCutOff 29 = .ok (.invokevirtual 104, 3) := by decide +kernel
theorem dX1_nightsUntilCutOff_32 : decode cX1_nightsUntilCutOff 32 = .ok (.ifCond .ne 5, 3) := by decide +kernel
theorem dX1_nightsUntilCutOff_35 : decode cX1_nightsUntilCutOff 35 = .ok (.iload_n 2, 1) := by decide +kernel
theorem dX1_nightsUntilCutOff_36 : decode cX1_nightsUntilCutOff 36 = .ok (.ireturn, 1) := by decide +kernel
theorem dX1_nightsUntilCutOff_37 : decode cX1_nightsUntilCutOff 37 = .ok (.aload_n 0, 1) := by decide +kernel
theorem dX1_nightsUntilCutOff_38 : decode cX1_nightsUntilCutOff 38 = .ok (.getfield 32, 3) := by decide +kernel
theorem dX1_nightsUntilCutOff_41 : decode cX1_nightsUntilCutOff 41 = .ok (.invokevirtual 48, 3) := by decide +kernel
theorem dX1_nightsUntilCutOff_44 : decode cX1_nightsUntilCutOff 44 = .ok (.iinc 2 1, 3) := by decide +kernel
theorem dX1_nightsUntilCutOff_47 : decode cX1_nightsUntilCutOff 47 = .ok (.goto (-30), 3) := by decide +kernel
theorem dX1_nightsUntilCutOff_50 : decode cX1_nightsUntilCutOff 50 = .ok (.aload_n 0, 1) := by decide +kernel
theorem dX1_nightsUntilCutOff_51 : decode cX1_nightsUntilCutOff 51 = .ok (.getfield 32, 3) := by decide +kernel
theorem dX1_nightsUntilCutOff_54 : decode cX1_nightsUntilCutOff 54 = .ok (.iload_n 1, 1) := by decide +kernel
theorem dX1_nightsUntilCutOff_55 : decode cX1_nightsUntilCutOff 55 = .ok (.invokevirtual 104, 3) := by decide +kernel
theorem dX1_nightsUntilCutOff_58 : decode cX1_nightsUntilCutOff 58 = .ok (.ifCond .eq 8, 3) := by decide +kernel
theorem dX1_nightsUntilCutOff_61 : decode cX1_nightsUntilCutOff 61 = .ok (.bipush (-2), 2) := by decide +kernel
theorem dX1_nightsUntilCutOff_63 : decode cX1_nightsUntilCutOff 63 = .ok (.goto 6, 3) := by decide +kernel
theorem dX1_nightsUntilCutOff_66 : decode cX1_nightsUntilCutOff 66 = .ok (.sipush 200, 3) := by decide +kernel
theorem dX1_nightsUntilCutOff_69 : decode cX1_nightsUntilCutOff 69 = .ok (.ireturn, 1) := by decide +kernel
theorem dX1_growthBySeeds_0 : decode cX1_growthBySeeds 0 = .ok (.aload_n 0, 1) := by decide +kernel
theorem dX1_growthBySeeds_1 : decode cX1_growthBySeeds 1 = .ok (.getfield 32, 3) := by decide +kernel
theorem dX1_growthBySeeds_4 : decode cX1_growthBySeeds 4 = .ok (.getfield 58, 3) := by decide +kernel
theorem dX1_growthBySeeds_7 : decode cX1_growthBySeeds 7 = .ok (.invokevirtual 125, 3) := by decide +kernel
theorem dX1_growthBySeeds_10 : decode cX1_growthBySeeds 10 = .ok (.ifCond .ne 21, 3) := by decide +kernel
theorem dX1_growthBySeeds_13 : decode cX1_growthBySeeds 13 = .ok (.aload_n 0, 1) := by decide +kernel
theorem dX1_growthBySeeds_14 : decode cX1_growthBySeeds 14 = .ok (.invokevirtual 73, 3) := by decide +kernel
theorem dX1_growthBySeeds_17 : decode cX1_growthBySeeds 17 = .ok (.aload_n 0, 1) := by decide +kernel
theorem dX1_growthBySeeds_18 : decode cX1_growthBySeeds 18 = .ok (.iload_n 1, 1) := by decide +kernel
theorem dX1_growthBySeeds_19 : decode cX1_growthBySeeds 19 = .ok (.invokevirtual 76, 3) := by decide +kernel
theorem dX1_growthBySeeds_22 : decode cX1_growthBySeeds 22 = .ok (.aload_n 0, 1) := by decide +kernel
theorem dX1_growthBySeeds_23 : decode cX1_growthBySeeds 23 = .ok (.iconst 3, 1) := by decide +kernel
theorem dX1_growthBySeeds_24 : decode cX1_growthBySeeds 24 = .ok (.iconst 1, 1) := by decide +kernel
theorem dX1_growthBySeeds_25 : decode cX1_growthBySeeds 25 = .ok (.invokevirtual 80, 3) := by decide +kernel
theorem dX1_growthBySeeds_28 : decode cX1_growthBySeeds 28 = .ok (.iload_n 2, 1) := by decide +kernel
theorem dX1_growthBySeeds_29 : decode cX1_growthBySeeds 29 = .ok (.imul, 1) := by decide +kernel
theorem dX1_growthBySeeds_30 : decode cX1_growthBySeeds 30 = .ok (.ireturn, 1) := by decide +kernel
theorem dX1_growthBySeeds_31 : decode cX1_growthBySeeds 31 = .ok (.iconst 0, 1) := by decide +kernel
theorem dX1_growthBySeeds_32 : decode cX1_growthBySeeds 32 = .ok (.istore_n 3, 1) := by decide +kernel
theorem dX1_growthBySeeds_33 : decode cX1_growthBySeeds 33 = .ok (.iconst 0, 1) := by decide +kernel
theorem dX1_growthBySeeds_34 : decode cX1_growthBySeeds 34 = .ok (.istore 4, 2) := by decide +kernel
theorem dX1_growthBySeeds_36 : decode cX1_growthBySeeds 36 = .ok (.iload 4, 2) := by decide +kernel
theorem dX1_growthBySeeds_38 : decode cX1_growthBySeeds 38 = .ok (.iload_n 2, 1) := by decide +kernel
theorem dX1_growthBySeeds_39 : decode cX1_growthBySeeds 39 = .ok (.if_icmp .ge 41, 3) := by decide +kernel
theorem dX1_growthBySeeds_42 : decode cX1_growthBySeeds 42 = .ok (.aload_n 0, 1) := by decide +kernel
theorem dX1_growthBySeeds_43 : decode cX1_growthBySeeds 43 = .ok (.invokevirtual 73, 3) := by decide +kernel
theorem dX1_growthBySeeds_46 : decode cX1_growthBySeeds 46 = .ok (.aload_n 0, 1) := by decide +kernel
theorem dX1_growthBySeeds_47 : decode cX1_growthBySeeds 47 = .ok (.getfield 18, 3) := by decide +kernel
theorem dX1_growthBySeeds_50 : decode cX1_growthBySeeds 50 = .ok (.getfield 51, 3) := by decide +kernel
theorem dX1_growthBySeeds_53 : decode cX1_growthBySeeds 53 = .ok (.iconst 5, 1) := by decide +kernel
theorem dX1_growthBySeeds_54 : decode cX1_growthBySeeds 54 = .ok (.dup2, 1) := by decide +kernel
theorem dX1_growthBySeeds_55 : decode cX1_growthBySeeds 55 = .ok (.iaload, 1) := by decide +kernel
theorem dX1_growthBySeeds_56 : decode cX1_growthBySeeds 56 = .ok (.iload 4, 2) := by decide +kernel
theorem dX1_growthBySeeds_58 : decode cX1_growthBySeeds 58 = .ok (.iadd, 1) := by decide +kernel
theorem dX1_growthBySeeds_59 : decode cX1_growthBySeeds 59 = .ok (.iastore, 1) := by decide +kernel
theorem dX1_growthBySeeds_60 : decode cX1_growthBySeeds 60 = .ok (.aload_n 0, 1) := by decide +kernel
theorem dX1_growthBySeeds_61 : decode cX1_growthBySeeds 61 = .ok (.iload_n 1, 1) := by decide +kernel
theorem dX1_growthBySeeds_62 : decode cX1_growthBySeeds 62 = .ok (.invokevirtual 76, 3) := by decide +kernel
theorem dX1_growthBySeeds_65 : decode cX1_growthBySeeds 65 = .ok (.iload_n 3, 1) := by decide +kernel
theorem dX1_growthBySeeds_66 : decode cX1_growthBySeeds 66 = .ok (.aload_n 0, 1) := by decide +kernel
theorem dX1_growthBySeeds_67 : decode cX1_growthBySeeds 67 = .ok (.iconst 3, 1) := by decide +kernel
theorem dX1_growthBySeeds_68 : decode cX1_growthBySeeds 68 = .ok (.iconst 1, 1) := by decide +kernel
theorem dX1_growthBySeeds_69 : decode cX1_growthBySeeds 69 = .ok (.invokevirtual 80, 3) := by decide +kernel
theorem dX1_growthBySeeds_72 : decode cX1_growthBySeeds 72 = .ok (.iadd, 1) := by decide +kernel
theorem dX1_growthBySeeds_73 : decode cX1_growthBySeeds 73 = .ok (.istore_n 3, 1) := by decide +kernel
theorem dX1_growthBySeeds_74 : decode cX1_growthBySeeds 74 = .ok (.iinc 4 1, 3) := by decide +kernel
theorem dX1_growthBySeeds_77 : decode cX1_growthBySeeds 77 = .ok (.goto (-41), 3) := by decide +kernel
theorem dX1_growthBySeeds_80 : decode cX1_growthBySeeds 80 = .ok (.iload_n 3, 1) := by decide +kernel
theorem dX1_growthBySeeds_81 : decode cX1_growthBySeeds 81 = .ok (.ireturn, 1) := by decide +kernel
theorem dX1_isAnswered_0 : decode cX1_isAnswered 0 = .ok (.iload_n 1, 1) := by decide +kernel
theorem dX1_isAnswered_1 : decode cX1_isAnswered 1 = .ok (.aload_n 0, 1) := by decide +kernel
theorem dX1_isAnswered_2 : decode cX1_isAnswered 2 = .ok (.getfield 9, 3) := by decide +kernel
theorem dX1_isAnswered_5 : decode cX1_isAnswered 5 = .ok (.if_icmp .ne 5, 3) := by decide +kernel
theorem dX1_isAnswered_8 : decode cX1_isAnswered 8 = .ok (.iconst 1, 1) := by decide +kernel
theorem dX1_isAnswered_9 : decode cX1_isAnswered 9 = .ok (.ireturn, 1) := by decide +kernel
theorem dX1_isAnswered_10 : decode cX1_isAnswered 10 = .ok (.aload_n 0, 1) := by decide +kernel
theorem dX1_isAnswered_11 : decode cX1_isAnswered 11 = .ok (.iload_n 1, 1) := by decide +kernel
theorem dX1_isAnswered_12 : decode cX1_isAnswered 12 = .ok (.putfield 9, 3) := by decide +kernel
theorem dX1_isAnswered_15 : decode cX1_isAnswered 15 = .ok (.aload_n 0, 1) := by decide +kernel
theorem dX1_isAnswered_16 : decode cX1_isAnswered 16 = .ok (.iconst (-1), 1) := by decide +kernel
theorem dX1_isAnswered_17 : decode cX1_isAnswered 17 = .ok (.putfield 101, 3) := by decide +kernel
theorem dX1_isAnswered_20 : decode cX1_isAnswered 20 = .ok (.aload_n 0, 1) := by decide +kernel
theorem dX1_isAnswered_21 : decode cX1_isAnswered 21 = .ok (.iconst 0, 1) := by decide +kernel
theorem dX1_isAnswered_22 : decode cX1_isAnswered 22 = .ok (.putfield 98, 3) := by decide +kernel
theorem dX1_isAnswered_25 : decode cX1_isAnswered 25 = .ok (.iconst 0, 1) := by decide +kernel
theorem dX1_isAnswered_26 : decode cX1_isAnswered 26 = .ok (.ireturn, 1) := by decide +kernel
theorem dX1_keepMost_0 : decode cX1_keepMost 0 = .ok (.iload_n 1, 1) := by decide +kernel
theorem dX1_keepMost_1 : decode cX1_keepMost 1 = .ok (.aload_n 0, 1) := by decide +kernel
theorem dX1_keepMost_2 : decode cX1_keepMost 2 = .ok (.getfield 101, 3) := by decide +kernel
theorem dX1_keepMost_5 : decode cX1_keepMost 5 = .ok (.if_icmp .le 13, 3) := by decide +kernel
theorem dX1_keepMost_8 : decode cX1_keepMost 8 = .ok (.aload_n 0, 1) := by decide +kernel
theorem dX1_keepMost_9 : decode cX1_keepMost 9 = .ok (.iload_n 1, 1) := by decide +kernel
theorem dX1_keepMost_10 : decode cX1_keepMost 10 = .ok (.putfield 101, 3) := by decide +kernel
theorem dX1_keepMost_13 : decode cX1_keepMost 13 = .ok (.aload_n 0, 1) := by decide +kernel
theorem dX1_keepMost_14 : decode cX1_keepMost 14 = .ok (.iload_n 2, 1) := by decide +kernel
theorem dX1_keepMost_15 : decode cX1_keepMost 15 = .ok (.putfield 98, 3) := by decide +kernel
theorem dX1_keepMost_18 : decode cX1_keepMost 18 = .ok (.return_, 1) := by decide +kernel
theorem dX1_findOpenRoads_0 : decode cX1_findOpenRoads 0 = .ok (.aload_n 0, 1) := by decide +kernel
theorem dX1_findOpenRoads_1 : decode cX1_findOpenRoads 1 = .ok (.invokevirtual 73, 3) := by decide +kernel
theorem dX1_findOpenRoads_4 : decode cX1_findOpenRoads 4 = .ok (.aload_n 0, 1) := by decide +kernel
theorem dX1_findOpenRoads_5 : decode cX1_findOpenRoads 5 = .ok (.getfield 18, 3) := by decide +kernel
theorem dX1_findOpenRoads_8 : decode cX1_findOpenRoads 8 = .ok (.getfield 51, 3) := by decide +kernel
theorem dX1_findOpenRoads_11 : decode cX1_findOpenRoads 11 = .ok (.iconst 4, 1) := by decide +kernel
theorem dX1_findOpenRoads_12 : decode cX1_findOpenRoads 12 = .ok (.iconst 0, 1) := by decide +kernel
theorem dX1_findOpenRoads_13 : decode cX1_findOpenRoads 13 = .ok (.iastore, 1) := by decide +kernel
theorem dX1_findOpenRoads_14 : decode cX1_findOpenRoads 14 = .ok (.aload_n 0, 1) := by decide +kernel
theorem dX1_findOpenRoads_15 : decode cX1_findOpenRoads 15 = .ok (.getfield 32, 3) := by decide +kernel
theorem dX1_findOpenRoads_18 : decode cX1_findOpenRoads 18 = .ok (.aload_n 0, 1) := by decide +kernel
theorem dX1_findOpenRoads_19 : decode cX1_findOpenRoads 19 = .ok (.getfield 18, 3) := by decide +kernel
theorem dX1_findOpenRoads_22 : decode cX1_findOpenRoads 22 = .ok (.invokevirtual 43, 3) := by decide +kernel
theorem dX1_findOpenRoads_25 : decode cX1_findOpenRoads 25 = .ok (.iconst 0, 1) := by decide +kernel
theorem dX1_findOpenRoads_26 : decode cX1_findOpenRoads 26 = .ok (.istore_n 1, 1) := by decide +kernel
theorem dX1_findOpenRoads_27 : decode cX1_findOpenRoads 27 = .ok (.iload_n 1, 1) := by decide +kernel
theorem dX1_findOpenRoads_28 : decode cX1_findOpenRoads 28 = .ok (.aload_n 0, 1) := by decide +kernel
theorem dX1_findOpenRoads_29 : decode cX1_findOpenRoads 29 = .ok (.getfield 32, 3) := by decide +kernel
theorem dX1_findOpenRoads_32 : decode cX1_findOpenRoads 32 = .ok (.getfield 58, 3) := by decide +kernel
theorem dX1_findOpenRoads_35 : decode cX1_findOpenRoads 35 = .ok (.getfield 129, 3) := by decide +kernel
theorem dX1_findOpenRoads_38 : decode cX1_findOpenRoads 38 = .ok (.if_icmp .ge 36, 3) := by decide +kernel
theorem dX1_findOpenRoads_41 : decode cX1_findOpenRoads 41 = .ok (.aload_n 0, 1) := by decide +kernel
theorem dX1_findOpenRoads_42 : decode cX1_findOpenRoads 42 = .ok (.getfield 32, 3) := by decide +kernel
theorem dX1_findOpenRoads_45 : decode cX1_findOpenRoads 45 = .ok (.iload_n 1, 1) := by decide +kernel
theorem dX1_findOpenRoads_46 : decode cX1_findOpenRoads 46 = .ok (.invokevirtual 104, 3) := by decide +kernel
theorem dX1_findOpenRoads_49 : decode cX1_findOpenRoads 49 = .ok (.pop, 1) := by decide +kernel
theorem dX1_findOpenRoads_50 : decode cX1_findOpenRoads 50 = .ok (.aload_n 0, 1) := by decide +kernel
theorem dX1_findOpenRoads_51 : decode cX1_findOpenRoads 51 = .ok (.getfield 29, 3) := by decide +kernel
theorem dX1_findOpenRoads_54 : decode cX1_findOpenRoads 54 = .ok (.iload_n 1, 1) := by decide +kernel
theorem dX1_findOpenRoads_55 : decode cX1_findOpenRoads 55 = .ok (.aload_n 0, 1) := by decide +kernel
theorem dX1_findOpenRoads_56 : decode cX1_findOpenRoads 56 = .ok (.getfield 32, 3) := by decide +kernel
theorem dX1_findOpenRoads_59 : decode cX1_findOpenRoads 59 = .ok (.getfield 107, 3) := by decide +kernel
theorem dX1_findOpenRoads_62 : decode cX1_findOpenRoads 62 = .ok (.iload_n 1, 1) := by decide +kernel
theorem dX1_findOpenRoads_63 : decode cX1_findOpenRoads 63 = .ok (.aaload, 1) := by decide +kernel
theorem dX1_findOpenRoads_64 : decode cX1_findOpenRoads 64 = .ok (.getfield 132, 3) := by decide +kernel
theorem dX1_findOpenRoads_67 : decode cX1_findOpenRoads 67 = .ok (.iastore, 1) := by decide +kernel
theorem dX1_findOpenRoads_68 : decode cX1_findOpenRoads 68 = .ok (.iinc 1 1, 3) := by decide +kernel
theorem dX1_findOpenRoads_71 : decode cX1_findOpenRoads 71 = .ok (.goto (-44), 3) := by decide +kernel
theorem dX1_findOpenRoads_74 : decode cX1_findOpenRoads 74 = .ok (.return_, 1) := by decide +kernel
theorem dX1_fewestGates_0 : decode cX1_fewestGates 0 = .ok (.iconst 1, 1) := by decide +kernel
theorem dX1_fewestGates_1 : decode cX1_fewestGates 1 = .ok (.aload_n 0, 1) := by decide +kernel
theorem dX1_fewestGates_2 : decode cX1_fewestGates 2 = .ok (.getfield 32, 3) := by decide +kernel
theorem dX1_fewestGates_5 : decode cX1_fewestGates 5 = .ok (.getfield 58, 3) := by decide +kernel
theorem dX1_fewestGates_8 : decode cX1_fewestGates 8 = .ok (.getfield 62, 3) := by decide +kernel
theorem dX1_fewestGates_11 : decode cX1_fewestGates 11 = .ok (.ishl, 1) := by decide +kernel
theorem dX1_fewestGates_12 : decode cX1_fewestGates 12 = .ok (.istore_n 1, 1) := by decide +kernel
theorem dX1_fewestGates_13 : decode cX1_fewestGates 13 = .ok (.iconst 0, 1) := by decide +kernel
theorem dX1_fewestGates_14 : decode cX1_fewestGates 14 = .ok (.istore_n 2, 1) := by decide +kernel
theorem dX1_fewestGates_15 : decode cX1_fewestGates 15 = .ok (.iload_n 2, 1) := by decide +kernel
theorem dX1_fewestGates_16 : decode cX1_fewestGates 16 = .ok (.aload_n 0, 1) := by decide +kernel
theorem dX1_fewestGates_17 : decode cX1_fewestGates 17 = .ok (.getfield 32, 3) := by decide +kernel
theorem dX1_fewestGates_20 : decode cX1_fewestGates 20 = .ok (.getfield 58, 3) := by decide +kernel
theorem dX1_fewestGates_23 : decode cX1_fewestGates 23 = .ok (.getfield 62, 3) := by decide +kernel
theorem dX1_fewestGates_26 : decode cX1_fewestGates 26 = .ok (.if_icmp .ge 40, 3) := by decide +kernel
theorem dX1_fewestGates_29 : decode cX1_fewestGates 29 = .ok (.iconst 0, 1) := by decide +kernel
theorem dX1_fewestGates_30 : decode cX1_fewestGates 30 = .ok (.istore_n 3, 1) := by decide +kernel
theorem dX1_fewestGates_31 : decode cX1_fewestGates 31 = .ok (.iload_n 3, 1) := by decide +kernel
theorem dX1_fewestGates_32 : decode cX1_fewestGates 32 = .ok (.iload_n 1, 1) := by decide +kernel
theorem dX1_fewestGates_33 : decode cX1_fewestGates 33 = .ok (.if_icmp .ge 27, 3) := by decide +kernel
theorem dX1_fewestGates_36 : decode cX1_fewestGates 36 = .ok (.iload_n 3, 1) := by decide +kernel
theorem dX1_fewestGates_37 : decode cX1_fewestGates 37 = .ok (.invokestatic 67, 3) := by decide +kernel
theorem dX1_fewestGates_40 : decode cX1_fewestGates 40 = .ok (.iload_n 2, 1) := by decide +kernel
theorem dX1_fewestGates_41 : decode cX1_fewestGates 41 = .ok (.if_icmp .ne 13, 3) := by decide +kernel
theorem dX1_fewestGates_44 : decode cX1_fewestGates 44 = .ok (.aload_n 0, 1) := by decide +kernel
theorem dX1_fewestGates_45 : decode cX1_fewestGates 45 = .ok (.iload_n 3, 1) := by decide +kernel
theorem dX1_fewestGates_46 : decode cX1_fewestGates 46 = .ok (.invokevirtual 135, 3) := by decide +kernel
theorem dX1_fewestGates_49 : decode cX1_fewestGates 49 = .ok (.ifCond .eq 5, 3) := by decide +kernel
theorem dX1_fewestGates_52 : decode cX1_fewestGates 52 = .ok (.iload_n 3, 1) := by decide +kernel
theorem dX1_fewestGates_53 : decode cX1_fewestGates 53 = .ok (.ireturn, 1) := by decide +kernel
theorem dX1_fewestGates_54 : decode cX1_fewestGates 54 = .ok (.iinc 3 1, 3) := by decide +kernel
theorem dX1_fewestGates_57 : decode cX1_fewestGates 57 = .ok (.goto (-26), 3) := by decide +kernel
theorem dX1_fewestGates_60 : decode cX1_fewestGates 60 = .ok (.iinc 2 1, 3) := by decide +kernel
theorem dX1_fewestGates_63 : decode cX1_fewestGates 63 = .ok (.goto (-48), 3) := by decide +kernel
theorem dX1_fewestGates_66 : decode cX1_fewestGates 66 = .ok (.iload_n 1, 1) := by decide +kernel
theorem dX1_fewestGates_67 : decode cX1_fewestGates 67 = .ok (.iconst 1, 1) := by decide +kernel
theorem dX1_fewestGates_68 : decode cX1_fewestGates 68 = .ok (.isub, 1) := by decide +kernel
theorem dX1_fewestGates_69 : decode cX1_fewestGates 69 = .ok (.ireturn, 1) := by decide +kernel
theorem dX1_leavesNobodyFree_0 : decode cX1_leavesNobodyFree 0 = .ok (.aload_n 0, 1) := by decide +kernel
theorem dX1_leavesNobodyFree_1 : decode cX1_leavesNobodyFree 1 = .ok (.getfield 32, 3) := by decide +kernel
theorem dX1_leavesNobodyFree_4 : decode cX1_leavesNobodyFree 4 = .ok (.getfield 58, 3) := by decide +kernel
theorem dX1_leavesNobodyFree_7 : decode cX1_leavesNobodyFree 7 = .ok (.getfield 129, 3) := by decide +kernel
theorem dX1_leavesNobodyFree_10 : decode cX1_leavesNobodyFree 10 = .ok (.istore_n 2, 1) := by decide +kernel
theorem dX1_leavesNobodyFree_11 : decode cX1_leavesNobodyFree 11 = .ok (.iconst 0, 1) := by decide +kernel
theorem dX1_leavesNobodyFree_12 : decode cX1_leavesNobodyFree 12 = .ok (.istore_n 3, 1) := by decide +kernel
theorem dX1_leavesNobodyFree_13 : decode cX1_leavesNobodyFree 13 = .ok (.iload_n 3, 1) := by decide +kernel
theorem dX1_leavesNobodyFree_14 : decode cX1_leavesNobodyFree 14 = .ok (.iload_n 2, 1) := by decide +kernel
theorem dX1_leavesNobodyFree_15 : decode cX1_leavesNobodyFree 15 = .ok (.if_icmp .ge 31, 3) := by decide +kernel
theorem dX1_leavesNobodyFree_18 : decode cX1_leavesNobodyFree 18 = .ok (.aload_n 0, 1) := by decide +kernel
theorem dX1_leavesNobodyFree_19 : decode cX1_leavesNobodyFree 19 = .ok (.getfield 29, 3) := by decide +kernel
theorem dX1_leavesNobodyFree_22 : decode cX1_leavesNobodyFree 22 = .ok (.iload_n 3, 1) := by decide +kernel
theorem dX1_leavesNobodyFree_23 : decode cX1_leavesNobodyFree 23 = .ok (.iaload, 1) := by decide +kernel
theorem dX1_leavesNobodyFree_24 : decode cX1_leavesNobodyFree 24 = .ok (.ifCond .eq 16, 3) := by decide +kernel
theorem dX1_leavesNobodyFree_27 : decode cX1_leavesNobodyFree 27 = .ok (.aload_n 0, 1) := by decide +kernel
theorem dX1_leavesNobodyFree_28 : decode cX1_leavesNobodyFree 28 = .ok (.getfield 29, 3) := by decide +kernel
theorem dX1_leavesNobodyFree_31 : decode cX1_leavesNobodyFree 31 = .ok (.iload_n 3, 1) := by decide +kernel
theorem dX1_leavesNobodyFree_32 : decode cX1_leavesNobodyFree 32 = .ok (.iaload, 1) := by decide +kernel
theorem dX1_leavesNobodyFree_33 : decode cX1_leavesNobodyFree 33 = .ok (.iload_n 1, 1) := by decide +kernel
theorem dX1_leavesNobodyFree_34 : decode cX1_leavesNobodyFree 34 = .ok (.iand, 1) := by decide +kernel
theorem dX1_leavesNobodyFree_35 : decode cX1_leavesNobodyFree 35 = .ok (.ifCond .ne 5, 3) := by decide +kernel
theorem dX1_leavesNobodyFree_38 : decode cX1_leavesNobodyFree 38 = .ok (.iconst 0, 1) := by decide +kernel
theorem dX1_leavesNobodyFree_39 : decode cX1_leavesNobodyFree 39 = .ok (.ireturn, 1) := by decide +kernel
theorem dX1_leavesNobodyFree_40 : decode cX1_leavesNobodyFree 40 = .ok (.iinc 3 1, 3) := by decide +kernel
theorem dX1_leavesNobodyFree_43 : decode cX1_leavesNobodyFree 43 = .ok (.goto (-30), 3) := by decide +kernel
theorem dX1_leavesNobodyFree_46 : decode cX1_leavesNobodyFree 46 = .ok (.aload_n 0, 1) := by decide +kernel
theorem dX1_leavesNobodyFree_47 : decode cX1_leavesNobodyFree 47 = .ok (.getfield 32, 3) := by decide +kernel
theorem dX1_leavesNobodyFree_50 : decode cX1_leavesNobodyFree 50 = .ok (.iload_n 1, 1) := by decide +kernel
theorem dX1_leavesNobodyFree_51 : decode cX1_leavesNobodyFree 51 = .ok (.invokevirtual 138, 3) := by decide +kernel
theorem dX1_leavesNobodyFree_54 : decode cX1_leavesNobodyFree 54 = .ok (.iconst 0, 1) := by decide +kernel
theorem dX1_leavesNobodyFree_55 : decode cX1_leavesNobodyFree 55 = .ok (.istore_n 3, 1) := by decide +kernel
theorem dX1_leavesNobodyFree_56 : decode cX1_leavesNobodyFree 56 = .ok (.iload_n 3, 1) := by decide +kernel
theorem dX1_leavesNobodyFree_57 : decode cX1_leavesNobodyFree 57 = .ok (.iload_n 2, 1) := by decide +kernel
theorem dX1_leavesNobodyFree_58 : decode cX1_leavesNobodyFree 58 = .ok (.if_icmp .ge 39, 3) := by decide +kernel
theorem dX1_leavesNobodyFree_61 : decode cX1_leavesNobodyFree 61 = .ok (.aload_n 0, 1) := by decide +kernel
theorem dX1_leavesNobodyFree_62 : decode cX1_leavesNobodyFree 62 = .ok (.getfield 32, 3) := by decide +kernel
theorem dX1_leavesNobodyFree_65 : decode cX1_leavesNobodyFree 65 = .ok (.iload_n 3, 1) := by decide +kernel
theorem dX1_leavesNobodyFree_66 : decode cX1_leavesNobodyFree 66 = .ok (.invokevirtual 104, 3) := by decide +kernel
theorem dX1_leavesNobodyFree_69 : decode cX1_leavesNobodyFree 69 = .ok (.ifCond .eq 22, 3) := by decide +kernel
theorem dX1_leavesNobodyFree_72 : decode cX1_leavesNobodyFree 72 = .ok (.aload_n 0, 1) := by decide +kernel
theorem dX1_leavesNobodyFree_73 : decode cX1_leavesNobodyFree 73 = .ok (.getfield 32, 3) := by decide +kernel
theorem dX1_leavesNobodyFree_76 : decode cX1_leavesNobodyFree 76 = .ok (.getfield 107, 3) := by decide +kernel
theorem dX1_leavesNobodyFree_79 : decode cX1_leavesNobodyFree 79 = .ok (.iload_n 3, 1) := by decide +kernel
theorem dX1_leavesNobodyFree_80 : decode cX1_leavesNobodyFree 80 = .ok (.aaload, 1) := by decide +kernel
theorem dX1_leavesNobodyFree_81 : decode cX1_leavesNobodyFree 81 = .ok (.getfield 132, 3) := by decide +kernel
theorem dX1_leavesNobodyFree_84 : decode cX1_leavesNobodyFree 84 = .ok (.iload_n 1, 1) := by decide +kernel
theorem dX1_leavesNobodyFree_85 : decode cX1_leavesNobodyFree 85 = .ok (.iand, 1) := by decide +kernel
theorem dX1_leavesNobodyFree_86 : decode cX1_leavesNobodyFree 86 = .ok (.ifCond .ne 5, 3) := by decide +kernel
theorem dX1_leavesNobodyFree_89 : decode cX1_leavesNobodyFree 89 = .ok (.iconst 0, 1) := by decide +kernel
theorem dX1_leavesNobodyFree_90 : decode cX1_leavesNobodyFree 90 = .ok (.ireturn, 1) := by decide +kernel
theorem dX1_leavesNobodyFree_91 : decode cX1_leavesNobodyFree 91 = .ok (.iinc 3 1, 3) := by decide +kernel
theorem dX1_leavesNobodyFree_94 : decode cX1_leavesNobodyFree 94 = .ok (.goto (-38), 3) := by decide +kernel
theorem dX1_leavesNobodyFree_97 : decode cX1_leavesNobodyFree 97 = .ok (.iconst 1, 1) := by decide +kernel
theorem dX1_leavesNobodyFree_98 : decode cX1_leavesNobodyFree 98 = .ok (.ireturn, 1) := by decide +kernel
theorem dX1_bothRest_0 : decode cX1_bothRest 0 = .ok (.iload_n 1, 1) := by decide +kernel
theorem dX1_bothRest_1 : decode cX1_bothRest 1 = .ok (.iconst 4, 1) := by decide +kernel
theorem dX1_bothRest_2 : decode cX1_bothRest 2 = .ok (.idiv, 1) := by decide +kernel
theorem dX1_bothRest_3 : decode cX1_bothRest 3 = .ok (.istore_n 2, 1) := by decide +kernel
theorem dX1_bothRest_4 : decode cX1_bothRest 4 = .ok (.iload_n 1, 1) := by decide +kernel
theorem dX1_bothRest_5 : decode cX1_bothRest 5 = .ok (.iconst 4, 1) := by decide +kernel
theorem dX1_bothRest_6 : decode cX1_bothRest 6 = .ok (.irem, 1) := by decide +kernel
theorem dX1_bothRest_7 : decode cX1_bothRest 7 = .ok (.istore_n 3, 1) := by decide +kernel
theorem dX1_bothRest_8 : decode cX1_bothRest 8 = .ok (.iconst 0, 1) := by decide +kernel
theorem dX1_bothRest_9 : decode cX1_bothRest 9 = .ok (.istore 4, 2) := by decide +kernel
theorem dX1_bothRest_11 : decode cX1_bothRest 11 = .ok (.iload 4, 2) := by decide +kernel
theorem dX1_bothRest_13 : decode cX1_bothRest 13 = .ok (.iconst 4, 1) := by decide +kernel
theorem dX1_bothRest_14 : decode cX1_bothRest 14 = .ok (.if_icmp .ge 53, 3) := by decide +kernel
theorem dX1_bothRest_17 : decode cX1_bothRest 17 = .ok (.aload_n 0, 1) := by decide +kernel
theorem dX1_bothRest_18 : decode cX1_bothRest 18 = .ok (.getfield 22, 3) := by decide +kernel
theorem dX1_bothRest_21 : decode cX1_bothRest 21 = .ok (.iconst 4, 1) := by decide +kernel
theorem dX1_bothRest_22 : decode cX1_bothRest 22 = .ok (.iload 4, 2) := by decide +kernel
theorem dX1_bothRest_24 : decode cX1_bothRest 24 = .ok (.imul, 1) := by decide +kernel
theorem dX1_bothRest_25 : decode cX1_bothRest 25 = .ok (.iload_n 3, 1) := by decide +kernel
theorem dX1_bothRest_26 : decode cX1_bothRest 26 = .ok (.iadd, 1) := by decide +kernel
theorem dX1_bothRest_27 : decode cX1_bothRest 27 = .ok (.iaload, 1) := by decide +kernel
theorem dX1_bothRest_28 : decode cX1_bothRest 28 = .ok (.aload_n 0, 1) := by decide +kernel
theorem dX1_bothRest_29 : decode cX1_bothRest 29 = .ok (.getfield 22, 3) := by decide +kernel
theorem dX1_bothRest_32 : decode cX1_bothRest 32 = .ok (.iload_n 1, 1) := by decide +kernel
theorem dX1_bothRest_33 : decode cX1_bothRest 33 = .ok (.iaload, 1) := by decide +kernel
theorem dX1_bothRest_34 : decode cX1_bothRest 34 = .ok (.if_icmp .le 5, 3) := by decide +kernel
theorem dX1_bothRest_37 : decode cX1_bothRest 37 = .ok (.iconst 0, 1) := by decide +kernel
theorem dX1_bothRest_38 : decode cX1_bothRest 38 = .ok (.ireturn, 1) := by decide +kernel
theorem dX1_bothRest_39 : decode cX1_bothRest 39 = .ok (.aload_n 0, 1) := by decide +kernel
theorem dX1_bothRest_40 : decode cX1_bothRest 40 = .ok (.getfield 26, 3) := by decide +kernel
theorem dX1_bothRest_43 : decode cX1_bothRest 43 = .ok (.iconst 4, 1) := by decide +kernel
theorem dX1_bothRest_44 : decode cX1_bothRest 44 = .ok (.iload_n 2, 1) := by decide +kernel
theorem dX1_bothRest_45 : decode cX1_bothRest 45 = .ok (.imul, 1) := by decide +kernel
theorem dX1_bothRest_46 : decode cX1_bothRest 46 = .ok (.iload 4, 2) := by decide +kernel
theorem dX1_bothRest_48 : decode cX1_bothRest 48 = .ok (.iadd, 1) := by decide +kernel
theorem dX1_bothRest_49 : decode cX1_bothRest 49 = .ok (.iaload, 1) := by decide +kernel
theorem dX1_bothRest_50 : decode cX1_bothRest 50 = .ok (.aload_n 0, 1) := by decide +kernel
theorem dX1_bothRest_51 : decode cX1_bothRest 51 = .ok (.getfield 26, 3) := by decide +kernel
theorem dX1_bothRest_54 : decode cX1_bothRest 54 = .ok (.iload_n 1, 1) := by decide +kernel
theorem dX1_bothRest_55 : decode cX1_bothRest 55 = .ok (.iaload, 1) := by decide +kernel
theorem dX1_bothRest_56 : decode cX1_bothRest 56 = .ok (.if_icmp .le 5, 3) := by decide +kernel
theorem dX1_bothRest_59 : decode cX1_bothRest 59 = .ok (.iconst 0, 1) := by decide +kernel
theorem dX1_bothRest_60 : decode cX1_bothRest 60 = .ok (.ireturn, 1) := by decide +kernel
theorem dX1_bothRest_61 : decode cX1_bothRest 61 = .ok (.iinc 4 1, 3) := by decide +kernel
theorem dX1_bothRest_64 : decode cX1_bothRest 64 = .ok (.goto (-53), 3) := by decide +kernel
theorem dX1_bothRest_67 : decode cX1_bothRest 67 = .ok (.iconst 1, 1) := by decide +kernel
theorem dX1_bothRest_68 : decode cX1_bothRest 68 = .ok (.ireturn, 1) := by decide +kernel
theorem dX1_firstBit_0 : decode cX1_firstBit 0 = .ok (.iconst 0, 1) := by decide +kernel
theorem dX1_firstBit_1 : decode cX1_firstBit 1 = .ok (.istore_n 1, 1) := by decide +kernel
theorem dX1_firstBit_2 : decode cX1_firstBit 2 = .ok (.iload_n 1, 1) := by decide +kernel
theorem dX1_firstBit_3 : decode cX1_firstBit 3 = .ok (.bipush 12, 2) := by decide +kernel
theorem dX1_firstBit_5 : decode cX1_firstBit 5 = .ok (.if_icmp .ge 19, 3) := by decide +kernel
theorem dX1_firstBit_8 : decode cX1_firstBit 8 = .ok (.iload_n 0, 1) := by decide +kernel
theorem dX1_firstBit_9 : decode cX1_firstBit 9 = .ok (.iload_n 1, 1) := by decide +kernel
theorem dX1_firstBit_10 : decode cX1_firstBit 10 = .ok (.ishr, 1) := by decide +kernel
theorem dX1_firstBit_11 : decode cX1_firstBit 11 = .ok (.iconst 1, 1) := by decide +kernel
theorem dX1_firstBit_12 : decode cX1_firstBit 12 = .ok (.iand, 1) := by decide +kernel
theorem dX1_firstBit_13 : decode cX1_firstBit 13 = .ok (.ifCond .eq 5, 3) := by decide +kernel
theorem dX1_firstBit_16 : decode cX1_firstBit 16 = .ok (.iload_n 1, 1) := by decide +kernel
theorem dX1_firstBit_17 : decode cX1_firstBit 17 = .ok (.ireturn, 1) := by decide +kernel
theorem dX1_firstBit_18 : decode cX1_firstBit 18 = .ok (.iinc 1 1, 3) := by decide +kernel
theorem dX1_firstBit_21 : decode cX1_firstBit 21 = .ok (.goto (-19), 3) := by decide +kernel
theorem dX1_firstBit_24 : decode cX1_firstBit 24 = .ok (.iconst (-1), 1) := by decide +kernel
theorem dX1_firstBit_25 : decode cX1_firstBit 25 = .ok (.ireturn, 1) := by decide +kernel
theorem dX2_init_0 : decode cX2_init 0 = .ok (.aload_n 0, 1) := by decide +kernel
theorem dX2_init_1 : decode cX2_init 1 = .ok (.invokespecial 5, 3) := by decide +kernel
theorem dX2_init_4 : decode cX2_init 4 = .ok (.aload_n 0, 1) := by decide +kernel
theorem dX2_init_5 : decode cX2_init 5 = .ok (.bipush 84, 2) := by decide +kernel
theorem dX2_init_7 : decode cX2_init 7 = .ok (.newarray .long, 2) := by decide +kernel
theorem dX2_init_9 : decode cX2_init 9 = .ok (.putfield 11, 3) := by decide +kernel
theorem dX2_init_12 : decode cX2_init 12 = .ok (.aload_n 0, 1) := by decide +kernel
theorem dX2_init_13 : decode cX2_init 13 = .ok (.bipush 84, 2) := by decide +kernel
theorem dX2_init_15 : decode cX2_init 15 = .ok (.newarray .int, 2) := by decide +kernel
theorem dX2_init_17 : decode cX2_init 17 = .ok (.putfield 15, 3) := by decide +kernel
theorem dX2_init_20 : decode cX2_init 20 = .ok (.aload_n 0, 1) := by decide +kernel
theorem dX2_init_21 : decode cX2_init 21 = .ok (.sipush 400, 3) := by decide +kernel
theorem dX2_init_24 : decode cX2_init 24 = .ok (.newarray .int, 2) := by decide +kernel
theorem dX2_init_26 : decode cX2_init 26 = .ok (.putfield 19, 3) := by decide +kernel
theorem dX2_init_29 : decode cX2_init 29 = .ok (.aload_n 0, 1) := by decide +kernel
theorem dX2_init_30 : decode cX2_init 30 = .ok (.iload_n 1, 1) := by decide +kernel
theorem dX2_init_31 : decode cX2_init 31 = .ok (.putfield 22, 3) := by decide +kernel
theorem dX2_init_34 : decode cX2_init 34 = .ok (.return_, 1) := by decide +kernel
theorem dX2_clear_0 : decode cX2_clear 0 = .ok (.aload_n 0, 1) := by decide +kernel
theorem dX2_clear_1 : decode cX2_clear 1 = .ok (.iconst 0, 1) := by decide +kernel
theorem dX2_clear_2 : decode cX2_clear 2 = .ok (.putfield 26, 3) := by decide +kernel
theorem dX2_clear_5 : decode cX2_clear 5 = .ok (.aload_n 0, 1) := by decide +kernel
theorem dX2_clear_6 : decode cX2_clear 6 = .ok (.lconst 0, 1) := by decide +kernel
theorem dX2_clear_7 : decode cX2_clear 7 = .ok (.putfield 29, 3) := by decide +kernel
theorem dX2_clear_10 : decode cX2_clear 10 = .ok (.aload_n 0, 1) := by decide +kernel
theorem dX2_clear_11 : decode cX2_clear 11 = .ok (.getfield 11, 3) := by decide +kernel
theorem dX2_clear_14 : decode cX2_clear 14 = .ok (.ldc2_w 33, 3) := by decide +kernel
theorem dX2_clear_17 : decode cX2_clear 17 = .ok (.invokestatic 35, 3) := by decide +kernel
theorem dX2_clear_20 : decode cX2_clear 20 = .ok (.return_, 1) := by decide +kernel
theorem dX2_add_0 : decode cX2_add 0 = .ok (.aload_n 0, 1) := by decide +kernel
theorem dX2_add_1 : decode cX2_add 1 = .ok (.getfield 26, 3) := by decide +kernel
theorem dX2_add_4 : decode cX2_add 4 = .ok (.istore_n 3, 1) := by decide +kernel
theorem dX2_add_5 : decode cX2_add 5 = .ok (.iload_n 3, 1) := by decide +kernel
theorem dX2_add_6 : decode cX2_add 6 = .ok (.sipush 400, 3) := by decide +kernel
theorem dX2_add_9 : decode cX2_add 9 = .ok (.if_icmp .ge 24, 3) := by decide +kernel
theorem dX2_add_12 : decode cX2_add 12 = .ok (.aload_n 0, 1) := by decide +kernel
theorem dX2_add_13 : decode cX2_add 13 = .ok (.getfield 19, 3) := by decide +kernel
theorem dX2_add_16 : decode cX2_add 16 = .ok (.iload_n 3, 1) := by decide +kernel
theorem dX2_add_17 : decode cX2_add 17 = .ok (.iload_n 2, 1) := by decide +kernel
theorem dX2_add_18 : decode cX2_add 18 = .ok (.iconst 3, 1) := by decide +kernel
theorem dX2_add_19 : decode cX2_add 19 = .ok (.ishl, 1) := by decide +kernel
theorem dX2_add_20 : decode cX2_add 20 = .ok (.iload_n 1, 1) := by decide +kernel
theorem dX2_add_21 : decode cX2_add 21 = .ok (.ior, 1) := by decide +kernel
theorem dX2_add_22 : decode cX2_add 22 = .ok (.iastore, 1) := by decide +kernel
theorem dX2_add_23 : decode cX2_add 23 = .ok (.aload_n 0, 1) := by decide +kernel
theorem dX2_add_24 : decode cX2_add 24 = .ok (.dup, 1) := by decide +kernel
theorem dX2_add_25 : decode cX2_add 25 = .ok (.getfield 26, 3) := by decide +kernel
theorem dX2_add_28 : decode cX2_add 28 = .ok (.iconst 1, 1) := by decide +kernel
theorem dX2_add_29 : decode cX2_add 29 = .ok (.iadd, 1) := by decide +kernel
theorem dX2_add_30 : decode cX2_add 30 = .ok (.putfield 26, 3) := by decide +kernel
theorem dX2_add_33 : decode cX2_add 33 = .ok (.iload_n 3, 1) := by decide +kernel
theorem dX2_add_34 : decode cX2_add 34 = .ok (.ireturn, 1) := by decide +kernel
theorem dX2_addVar_0 : decode cX2_addVar 0 = .ok (.aload_n 0, 1) := by decide +kernel
theorem dX2_addVar_1 : decode cX2_addVar 1 = .ok (.getfield 22, 3) := by decide +kernel
theorem dX2_addVar_4 : decode cX2_addVar 4 = .ok (.iload_n 1, 1) := by decide +kernel
theorem dX2_addVar_5 : decode cX2_addVar 5 = .ok (.ishr, 1) := by decide +kernel
theorem dX2_addVar_6 : decode cX2_addVar 6 = .ok (.iconst 1, 1) := by decide +kernel
theorem dX2_addVar_7 : decode cX2_addVar 7 = .ok (.iand, 1) := by decide +kernel
theorem dX2_addVar_8 : decode cX2_addVar 8 = .ok (.ifCond .ne 11, 3) := by decide +kernel
theorem dX2_addVar_11 : decode cX2_addVar 11 = .ok (.aload_n 0, 1) := by decide +kernel
theorem dX2_addVar_12 : decode cX2_addVar 12 = .ok (.iconst 0, 1) := by decide +kernel
theorem dX2_addVar_13 : decode cX2_addVar 13 = .ok (.iconst 0, 1) := by decide +kernel
theorem dX2_addVar_14 : decode cX2_addVar 14 = .ok (.invokevirtual 41, 3) := by decide +kernel
theorem dX2_addVar_17 : decode cX2_addVar 17 = .ok (.pop, 1) := by decide +kernel
theorem dX2_addVar_18 : decode cX2_addVar 18 = .ok (.return_, 1) := by decide +kernel
theorem dX2_addVar_19 : decode cX2_addVar 19 = .ok (.aload_n 0, 1) := by decide +kernel
theorem dX2_addVar_20 : decode cX2_addVar 20 = .ok (.iconst 1, 1) := by decide +kernel
theorem dX2_addVar_21 : decode cX2_addVar 21 = .ok (.iload_n 1, 1) := by decide +kernel
theorem dX2_addVar_22 : decode cX2_addVar 22 = .ok (.invokevirtual 41, 3) := by decide +kernel
theorem dX2_addVar_25 : decode cX2_addVar 25 = .ok (.pop, 1) := by decide +kernel
theorem dX2_addVar_26 : decode cX2_addVar 26 = .ok (.aload_n 0, 1) := by decide +kernel
theorem dX2_addVar_27 : decode cX2_addVar 27 = .ok (.dup, 1) := by decide +kernel
theorem dX2_addVar_28 : decode cX2_addVar 28 = .ok (.getfield 29, 3) := by decide +kernel
theorem dX2_addVar_31 : decode cX2_addVar 31 = .ok (.iload_n 1, 1) := by decide +kernel
theorem dX2_addVar_32 : decode cX2_addVar 32 = .ok (.invokestatic 45, 3) := by decide +kernel
theorem dX2_addVar_35 : decode cX2_addVar 35 = .ok (.lor, 1) := by decide +kernel
theorem dX2_addVar_36 : decode cX2_addVar 36 = .ok (.putfield 29, 3) := by decide +kernel
theorem dX2_addVar_39 : decode cX2_addVar 39 = .ok (.return_, 1) := by decide +kernel
theorem dX2_aim_0 : decode cX2_aim 0 = .ok (.iload_n 1, 1) := by decide +kernel
theorem dX2_aim_1 : decode cX2_aim 1 = .ok (.ifCond .lt 26, 3) := by decide +kernel
theorem dX2_aim_4 : decode cX2_aim 4 = .ok (.iload_n 1, 1) := by decide +kernel
theorem dX2_aim_5 : decode cX2_aim 5 = .ok (.aload_n 0, 1) := by decide +kernel
theorem dX2_aim_6 : decode cX2_aim 6 = .ok (.getfield 26, 3) := by decide +kernel
theorem dX2_aim_9 : decode cX2_aim 9 = .ok (.if_icmp .ge 18, 3) := by decide +kernel
theorem dX2_aim_12 : decode cX2_aim 12 = .ok (.aload_n 0, 1) := by decide +kernel
theorem dX2_aim_13 : decode cX2_aim 13 = .ok (.getfield 19, 3) := by decide +kernel
theorem dX2_aim_16 : decode cX2_aim 16 = .ok (.iload_n 1, 1) := by decide +kernel
theorem dX2_aim_17 : decode cX2_aim 17 = .ok (.aload_n 0, 1) := by decide +kernel
theorem dX2_aim_18 : decode cX2_aim 18 = .ok (.getfield 26, 3) := by decide +kernel
theorem dX2_aim_21 : decode cX2_aim 21 = .ok (.iconst 3, 1) := by decide +kernel
theorem dX2_aim_22 : decode cX2_aim 22 = .ok (.ishl, 1) := by decide +kernel
theorem dX2_aim_23 : decode cX2_aim 23 = .ok (.bipush 6, 2) := by decide +kernel
theorem dX2_aim_25 : decode cX2_aim 25 = .ok (.ior, 1) := by decide +kernel
theorem dX2_aim_26 : decode cX2_aim 26 = .ok (.iastore, 1) := by decide +kernel
theorem dX2_aim_27 : decode cX2_aim 27 = .ok (.return_, 1) := by decide +kernel
theorem dX2_looksAtFog_0 : decode cX2_looksAtFog 0 = .ok (.aload_n 0, 1) := by decide +kernel
theorem dX2_looksAtFog_1 : decode cX2_looksAtFog 1 = .ok (.getfield 29, 3) := by decide +kernel
theorem dX2_looksAtFog_4 : decode cX2_looksAtFog 4 = .ok (.ldc2_w 49, 3) := by decide +kernel
theorem dX2_looksAtFog_7 : decode cX2_looksAtFog 7 = .ok (.land, 1) := by decide +kernel
theorem dX2_looksAtFog_8 : decode cX2_looksAtFog 8 = .ok (.lconst 0, 1) := by decide +kernel
theorem dX2_looksAtFog_9 : decode cX2_looksAtFog 9 = .ok (.lcmp, 1) := by decide +kernel
theorem dX2_looksAtFog_10 : decode cX2_looksAtFog 10 = .ok (.ifCond .eq 7, 3) := by decide +kernel
theorem dX2_looksAtFog_13 : decode cX2_looksAtFog 13 = .ok (.iconst 1, 1) := by decide +kernel
theorem dX2_looksAtFog_14 : decode cX2_looksAtFog 14 = .ok (.goto 4, 3) := by decide +kernel
theorem dX2_looksAtFog_17 : decode cX2_looksAtFog 17 = .ok (.iconst 0, 1) := by decide +kernel
theorem dX2_looksAtFog_18 : decode cX2_looksAtFog 18 = .ok (.ireturn, 1) := by decide +kernel
theorem dX2_valueOf_0 : decode cX2_valueOf 0 = .ok (.aload_n 0, 1) := by decide +kernel
theorem dX2_valueOf_1 : decode cX2_valueOf 1 = .ok (.getfield 19, 3) := by decide +kernel
theorem dX2_valueOf_4 : decode cX2_valueOf 4 = .ok (.astore_n 3, 1) := by decide +kernel
theorem dX2_valueOf_5 : decode cX2_valueOf 5 = .ok (.aload_n 0, 1) := by decide +kernel
theorem dX2_valueOf_6 : decode cX2_valueOf 6 = .ok (.getfield 26, 3) := by decide +kernel
theorem dX2_valueOf_9 : decode cX2_valueOf 9 = .ok (.istore 4, 2) := by decide +kernel
theorem dX2_valueOf_11 : decode cX2_valueOf 11 = .ok (.aload_n 2, 1) := by decide +kernel
theorem dX2_valueOf_12 : decode cX2_valueOf 12 = .ok (.arraylength, 1) := by decide +kernel
theorem dX2_valueOf_13 : decode cX2_valueOf 13 = .ok (.iconst 2, 1) := by decide +kernel
theorem dX2_valueOf_14 : decode cX2_valueOf 14 = .ok (.isub, 1) := by decide +kernel
theorem dX2_valueOf_15 : decode cX2_valueOf 15 = .ok (.istore 5, 2) := by decide +kernel
theorem dX2_valueOf_17 : decode cX2_valueOf 17 = .ok (.iconst 2, 1) := by decide +kernel
theorem dX2_valueOf_18 : decode cX2_valueOf 18 = .ok (.istore 6, 2) := by decide +kernel
theorem dX2_valueOf_20 : decode cX2_valueOf 20 = .ok (.iconst 0, 1) := by decide +kernel
theorem dX2_valueOf_21 : decode cX2_valueOf 21 = .ok (.istore 7, 2) := by decide +kernel
theorem dX2_valueOf_23 : decode cX2_valueOf 23 = .ok (.iload 7, 2) := by decide +kernel
theorem dX2_valueOf_25 : decode cX2_valueOf 25 = .ok (.iload 4, 2) := by decide +kernel
theorem dX2_valueOf_27 : decode cX2_valueOf 27 = .ok (.if_icmp .ge 249, 3) := by decide +kernel
theorem dX2_valueOf_30 : decode cX2_valueOf 30 = .ok (.iload 6, 2) := by decide +kernel
theorem dX2_valueOf_32 : decode cX2_valueOf 32 = .ok (.iconst 2, 1) := by decide +kernel
theorem dX2_valueOf_33 : decode cX2_valueOf 33 = .ok (.if_icmp .lt 10, 3) := by decide +kernel
theorem dX2_valueOf_36 : decode cX2_valueOf 36 = .ok (.iload 6, 2) := by decide +kernel
theorem dX2_valueOf_38 : decode cX2_valueOf 38 = .ok (.iload 5, 2) := by decide +kernel
theorem dX2_valueOf_40 : decode cX2_valueOf 40 = .ok (.if_icmp .le 5, 3) := by decide +kernel
theorem dX2_valueOf_43 : decode cX2_valueOf 43 = .ok (.iconst 0, 1) := by decide +kernel
theorem dX2_valueOf_44 : decode cX2_valueOf 44 = .ok (.ireturn, 1) := by decide +kernel
theorem dX2_valueOf_45 : decode cX2_valueOf 45 = .ok (.aload_n 3, 1) := by decide +kernel
theorem dX2_valueOf_46 : decode cX2_valueOf 46 = .ok (.iload 7, 2) := by decide +kernel
theorem dX2_valueOf_48 : decode cX2_valueOf 48 = .ok (.iaload, 1) := by decide +kernel
theorem dX2_valueOf_49 : decode cX2_valueOf 49 = .ok (.iconst 3, 1) := by decide +kernel
theorem dX2_valueOf_50 : decode cX2_valueOf 50 = .ok (.ishr, 1) := by decide +kernel
theorem dX2_valueOf_51 : decode cX2_valueOf 51 = .ok (.istore 8, 2) := by decide +kernel
theorem dX2_valueOf_53 : decode cX2_valueOf 53 = .ok (.aload_n 3, 1) := by decide +kernel
theorem dX2_valueOf_54 : decode cX2_valueOf 54 = .ok (.iload 7, 2) := by decide +kernel
theorem dX2_valueOf_56 : decode cX2_valueOf 56 = .ok (.iaload, 1) := by decide +kernel
theorem dX2_valueOf_57 : decode cX2_valueOf 57 = .ok (.bipush 7, 2) := by decide +kernel
theorem dX2_valueOf_59 : decode cX2_valueOf 59 = .ok (.iand, 1) := by decide +kernel
theorem dX2_valueOf_60 : decode cX2_valueOf 60 = .ok (.tableswitch 205 0 6 #[44, 56, 86, 105, 124, 143, 171], 44) := by decide +kernel
theorem dX2_valueOf_104 : decode cX2_valueOf 104 = .ok (.iinc 6 1, 3) := by decide +kernel
theorem dX2_valueOf_107 : decode cX2_valueOf 107 = .ok (.aload_n 2, 1) := by decide +kernel
theorem dX2_valueOf_108 : decode cX2_valueOf 108 = .ok (.iload 6, 2) := by decide +kernel
theorem dX2_valueOf_110 : decode cX2_valueOf 110 = .ok (.iload 8, 2) := by decide +kernel
theorem dX2_valueOf_112 : decode cX2_valueOf 112 = .ok (.iastore, 1) := by decide +kernel
theorem dX2_valueOf_113 : decode cX2_valueOf 113 = .ok (.goto 157, 3) := by decide +kernel
theorem dX2_valueOf_116 : decode cX2_valueOf 116 = .ok (.iinc 6 1, 3) := by decide +kernel
theorem dX2_valueOf_119 : decode cX2_valueOf 119 = .ok (.aload_n 2, 1) := by decide +kernel
theorem dX2_valueOf_120 : decode cX2_valueOf 120 = .ok (.iload 6, 2) := by decide +kernel
theorem dX2_valueOf_122 : decode cX2_valueOf 122 = .ok (.iload 8, 2) := by decide +kernel
theorem dX2_valueOf_124 : decode cX2_valueOf 124 = .ok (.ifCond .lt 17, 3) := by decide +kernel
theorem dX2_valueOf_127 : decode cX2_valueOf 127 = .ok (.iload 8, 2) := by decide +kernel
theorem dX2_valueOf_129 : decode cX2_valueOf 129 = .ok (.aload_n 1, 1) := by decide +kernel
theorem dX2_valueOf_130 : decode cX2_valueOf 130 = .ok (.arraylength, 1) := by decide +kernel
theorem dX2_valueOf_131 : decode cX2_valueOf 131 = .ok (.if_icmp .ge 10, 3) := by decide +kernel
theorem dX2_valueOf_134 : decode cX2_valueOf 134 = .ok (.aload_n 1, 1) := by decide +kernel
theorem dX2_valueOf_135 : decode cX2_valueOf 135 = .ok (.iload 8, 2) := by decide +kernel
theorem dX2_valueOf_137 : decode cX2_valueOf 137 = .ok (.iaload, 1) := by decide +kernel
theorem dX2_valueOf_138 : decode cX2_valueOf 138 = .ok (.goto 4, 3) := by decide +kernel
theorem dX2_valueOf_141 : decode cX2_valueOf 141 = .ok (.iconst 0, 1) := by decide +kernel
theorem dX2_valueOf_142 : decode cX2_valueOf 142 = .ok (.iastore, 1) := by decide +kernel
theorem dX2_valueOf_143 : decode cX2_valueOf 143 = .ok (.goto 127, 3) := by decide +kernel
theorem dX2_valueOf_146 : decode cX2_valueOf 146 = .ok (.iinc 6 (-1), 3) := by decide +kernel
theorem dX2_valueOf_149 : decode cX2_valueOf 149 = .ok (.aload_n 2, 1) := by decide +kernel
theorem dX2_valueOf_150 : decode cX2_valueOf 150 = .ok (.iload 6, 2) := by decide +kernel
theorem dX2_valueOf_152 : decode cX2_valueOf 152 = .ok (.dup2, 1) := by decide +kernel
theorem dX2_valueOf_153 : decode cX2_valueOf 153 = .ok (.iaload, 1) := by decide +kernel
theorem dX2_valueOf_154 : decode cX2_valueOf 154 = .ok (.aload_n 2, 1) := by decide +kernel
theorem dX2_valueOf_155 : decode cX2_valueOf 155 = .ok (.iload 6, 2) := by decide +kernel
theorem dX2_valueOf_157 : decode cX2_valueOf 157 = .ok (.iconst 1, 1) := by decide +kernel
theorem dX2_valueOf_158 : decode cX2_valueOf 158 = .ok (.iadd, 1) := by decide +kernel
theorem dX2_valueOf_159 : decode cX2_valueOf 159 = .ok (.iaload, 1) := by decide +kernel
theorem dX2_valueOf_160 : decode cX2_valueOf 160 = .ok (.iadd, 1) := by decide +kernel
theorem dX2_valueOf_161 : decode cX2_valueOf 161 = .ok (.iastore, 1) := by decide +kernel
theorem dX2_valueOf_162 : decode cX2_valueOf 162 = .ok (.goto 108, 3) := by decide +kernel
theorem dX2_valueOf_165 : decode cX2_valueOf 165 = .ok (.iinc 6 (-1), 3) := by decide +kernel
theorem dX2_valueOf_168 : decode cX2_valueOf 168 = .ok (.aload_n 2, 1) := by decide +kernel
theorem dX2_valueOf_169 : decode cX2_valueOf 169 = .ok (.iload 6, 2) := by decide +kernel
theorem dX2_valueOf_171 : decode cX2_valueOf 171 = .ok (.dup2, 1) := by decide +kernel
theorem dX2_valueOf_172 : decode cX2_valueOf 172 = .ok (.iaload, 1) := by decide +kernel
theorem dX2_valueOf_173 : decode cX2_valueOf 173 = .ok (.aload_n 2, 1) := by decide +kernel
theorem dX2_valueOf_174 : decode cX2_valueOf 174 = .ok (.iload 6, 2) := by decide +kernel
theorem dX2_valueOf_176 : decode cX2_valueOf 176 = .ok (.iconst 1, 1) := by decide +kernel
theorem dX2_valueOf_177 : decode cX2_valueOf 177 = .ok (.iadd, 1) := by decide +kernel
theorem dX2_valueOf_178 : decode cX2_valueOf 178 = .ok (.iaload, 1) := by decide +kernel
theorem dX2_valueOf_179 : decode cX2_valueOf 179 = .ok (.isub, 1) := by decide +kernel
theorem dX2_valueOf_180 : decode cX2_valueOf 180 = .ok (.iastore, 1) := by decide +kernel
theorem dX2_valueOf_181 : decode cX2_valueOf 181 = .ok (.goto 89, 3) := by decide +kernel
theorem dX2_valueOf_184 : decode cX2_valueOf 184 = .ok (.iinc 6 (-1), 3) := by decide +kernel
theorem dX2_valueOf_187 : decode cX2_valueOf 187 = .ok (.aload_n 2, 1) := by decide +kernel
theorem dX2_valueOf_188 : decode cX2_valueOf 188 = .ok (.iload 6, 2) := by decide +kernel
theorem dX2_valueOf_190 : decode cX2_valueOf 190 = .ok (.dup2, 1) := by decide +kernel
theorem dX2_valueOf_191 : decode cX2_valueOf 191 = .ok (.iaload, 1) := by decide +kernel
theorem dX2_valueOf_192 : decode cX2_valueOf 192 = .ok (.aload_n 2, 1) := by decide +kernel
theorem dX2_valueOf_193 : decode cX2_valueOf 193 = .ok (.iload 6, 2) := by decide +kernel
theorem dX2_valueOf_195 : decode cX2_valueOf 195 = .ok (.iconst 1, 1) := by decide +kernel
theorem dX2_valueOf_196 : decode cX2_valueOf 196 = .ok (.iadd, 1) := by decide +kernel
theorem dX2_valueOf_197 : decode cX2_valueOf 197 = .ok (.iaload, 1) := by decide +kernel
theorem dX2_valueOf_198 : decode cX2_valueOf 198 = .ok (.imul, 1) := by decide +kernel
theorem dX2_valueOf_199 : decode cX2_valueOf 199 = .ok (.iastore, 1) := by decide +kernel
theorem dX2_valueOf_200 : decode cX2_valueOf 200 = .ok (.goto 70, 3) := by decide +kernel
theorem dX2_valueOf_203 : decode cX2_valueOf 203 = .ok (.aload_n 2, 1) := by decide +kernel
theorem dX2_valueOf_204 : decode cX2_valueOf 204 = .ok (.iload 6, 2) := by decide +kernel
theorem dX2_valueOf_206 : decode cX2_valueOf 206 = .ok (.iaload, 1) := by decide +kernel
theorem dX2_valueOf_207 : decode cX2_valueOf 207 = .ok (.ifCond .ne 5, 3) := by decide +kernel
theorem dX2_valueOf_210 : decode cX2_valueOf 210 = .ok (.iconst 0, 1) := by decide +kernel
theorem dX2_valueOf_211 : decode cX2_valueOf 211 = .ok (.ireturn, 1) := by decide +kernel
theorem dX2_valueOf_212 : decode cX2_valueOf 212 = .ok (.iinc 6 (-1), 3) := by decide +kernel
theorem dX2_valueOf_215 : decode cX2_valueOf 215 = .ok (.aload_n 2, 1) := by decide +kernel
theorem dX2_valueOf_216 : decode cX2_valueOf 216 = .ok (.iload 6, 2) := by decide +kernel
theorem dX2_valueOf_218 : decode cX2_valueOf 218 = .ok (.dup2, 1) := by decide +kernel
theorem dX2_valueOf_219 : decode cX2_valueOf 219 = .ok (.iaload, 1) := by decide +kernel
theorem dX2_valueOf_220 : decode cX2_valueOf 220 = .ok (.aload_n 2, 1) := by decide +kernel
theorem dX2_valueOf_221 : decode cX2_valueOf 221 = .ok (.iload 6, 2) := by decide +kernel
theorem dX2_valueOf_223 : decode cX2_valueOf 223 = .ok (.iconst 1, 1) := by decide +kernel
theorem dX2_valueOf_224 : decode cX2_valueOf 224 = .ok (.iadd, 1) := by decide +kernel
theorem dX2_valueOf_225 : decode cX2_valueOf 225 = .ok (.iaload, 1) := by decide +kernel
theorem dX2_valueOf_226 : decode cX2_valueOf 226 = .ok (.idiv, 1) := by decide +kernel
theorem dX2_valueOf_227 : decode cX2_valueOf 227 = .ok (.iastore, 1) := by decide +kernel
theorem dX2_valueOf_228 : decode cX2_valueOf 228 = .ok (.goto 42, 3) := by decide +kernel
theorem dX2_valueOf_231 : decode cX2_valueOf 231 = .ok (.iinc 6 (-2), 3) := by decide +kernel
theorem dX2_valueOf_234 : decode cX2_valueOf 234 = .ok (.aload_n 2, 1) := by decide +kernel
theorem dX2_valueOf_235 : decode cX2_valueOf 235 = .ok (.iload 6, 2) := by decide +kernel
theorem dX2_valueOf_237 : decode cX2_valueOf 237 = .ok (.iconst 1, 1) := by decide +kernel
theorem dX2_valueOf_238 : decode cX2_valueOf 238 = .ok (.iadd, 1) := by decide +kernel
theorem dX2_valueOf_239 : decode cX2_valueOf 239 = .ok (.iaload, 1) := by decide +kernel
theorem dX2_valueOf_240 : decode cX2_valueOf 240 = .ok (.aload_n 2, 1) := by decide +kernel
theorem dX2_valueOf_241 : decode cX2_valueOf 241 = .ok (.iload 6, 2) := by decide +kernel
theorem dX2_valueOf_243 : decode cX2_valueOf 243 = .ok (.iconst 2, 1) := by decide +kernel
theorem dX2_valueOf_244 : decode cX2_valueOf 244 = .ok (.iadd, 1) := by decide +kernel
theorem dX2_valueOf_245 : decode cX2_valueOf 245 = .ok (.iaload, 1) := by decide +kernel
theorem dX2_valueOf_246 : decode cX2_valueOf 246 = .ok (.if_icmp .lt 24, 3) := by decide +kernel
theorem dX2_valueOf_249 : decode cX2_valueOf 249 = .ok (.iload 8, 2) := by decide +kernel
theorem dX2_valueOf_251 : decode cX2_valueOf 251 = .ok (.iload 7, 2) := by decide +kernel
theorem dX2_valueOf_253 : decode cX2_valueOf 253 = .ok (.if_icmp .le 17, 3) := by decide +kernel
theorem dX2_valueOf_256 : decode cX2_valueOf 256 = .ok (.iload 8, 2) := by decide +kernel
theorem dX2_valueOf_258 : decode cX2_valueOf 258 = .ok (.iconst 1, 1) := by decide +kernel
theorem dX2_valueOf_259 : decode cX2_valueOf 259 = .ok (.isub, 1) := by decide +kernel
theorem dX2_valueOf_260 : decode cX2_valueOf 260 = .ok (.istore 7, 2) := by decide +kernel
theorem dX2_valueOf_262 : decode cX2_valueOf 262 = .ok (.goto 8, 3) := by decide +kernel
theorem dX2_valueOf_265 : decode cX2_valueOf 265 = .ok (.aload_n 2, 1) := by decide +kernel
theorem dX2_valueOf_266 : decode cX2_valueOf 266 = .ok (.iload 6, 2) := by decide +kernel
theorem dX2_valueOf_268 : decode cX2_valueOf 268 = .ok (.iaload, 1) := by decide +kernel
theorem dX2_valueOf_269 : decode cX2_valueOf 269 = .ok (.ireturn, 1) := by decide +kernel
theorem dX2_valueOf_270 : decode cX2_valueOf 270 = .ok (.iinc 7 1, 3) := by decide +kernel
theorem dX2_valueOf_273 : decode cX2_valueOf 273 = .ok (.goto (-250), 3) := by decide +kernel
theorem dX2_valueOf_276 : decode cX2_valueOf 276 = .ok (.iconst 0, 1) := by decide +kernel
theorem dX2_valueOf_277 : decode cX2_valueOf 277 = .ok (.ireturn, 1) := by decide +kernel
theorem dX2_maskOf_0 : decode cX2_maskOf 0 = .ok (.iload_n 0, 1) := by decide +kernel
theorem dX2_maskOf_1 : decode cX2_maskOf 1 = .ok (.tableswitch 55 3 8 #[39, 43, 55, 47, 55, 51], 39) := by decide +kernel
theorem dX2_maskOf_40 : decode cX2_maskOf 40 = .ok (.ldc2_w 49, 3) := by decide +kernel
theorem dX2_maskOf_43 : decode cX2_maskOf 43 = .ok (.lreturn, 1) := by decide +kernel
theorem dX2_maskOf_44 : decode cX2_maskOf 44 = .ok (.ldc2_w 51, 3) := by decide +kernel
theorem dX2_maskOf_47 : decode cX2_maskOf 47 = .ok (.lreturn, 1) := by decide +kernel
theorem dX2_maskOf_48 : decode cX2_maskOf 48 = .ok (.ldc2_w 53, 3) := by decide +kernel
theorem dX2_maskOf_51 : decode cX2_maskOf 51 = .ok (.lreturn, 1) := by decide +kernel
theorem dX2_maskOf_52 : decode cX2_maskOf 52 = .ok (.ldc2_w 55, 3) := by decide +kernel
theorem dX2_maskOf_55 : decode cX2_maskOf 55 = .ok (.lreturn, 1) := by decide +kernel
theorem dX2_maskOf_56 : decode cX2_maskOf 56 = .ok (.lconst 0, 1) := by decide +kernel
theorem dX2_maskOf_57 : decode cX2_maskOf 57 = .ok (.lreturn, 1) := by decide +kernel
theorem dX3_init_0 : decode cX3_init 0 = .ok (.aload_n 0, 1) := by decide +kernel
theorem dX3_init_1 : decode cX3_init 1 = .ok (.invokespecial 1, 3) := by decide +kernel
theorem dX3_init_4 : decode cX3_init 4 = .ok (.aload_n 0, 1) := by decide +kernel
theorem dX3_init_5 : decode cX3_init 5 = .ok (.sipush 2840, 3) := by decide +kernel
theorem dX3_init_8 : decode cX3_init 8 = .ok (.newarray .int, 2) := by decide +kernel
theorem dX3_init_10 : decode cX3_init 10 = .ok (.putfield 11, 3) := by decide +kernel
theorem dX3_init_13 : decode cX3_init 13 = .ok (.aload_n 0, 1) := by decide +kernel
theorem dX3_init_14 : decode cX3_init 14 = .ok (.sipush 213, 3) := by decide +kernel
theorem dX3_init_17 : decode cX3_init 17 = .ok (.newarray .int, 2) := by decide +kernel
theorem dX3_init_19 : decode cX3_init 19 = .ok (.putfield 15, 3) := by decide +kernel
theorem dX3_init_22 : decode cX3_init 22 = .ok (.return_, 1) := by decide +kernel
theorem dX3_clear_0 : decode cX3_clear 0 = .ok (.aload_n 0, 1) := by decide +kernel
theorem dX3_clear_1 : decode cX3_clear 1 = .ok (.iconst 0, 1) := by decide +kernel
theorem dX3_clear_2 : decode cX3_clear 2 = .ok (.putfield 18, 3) := by decide +kernel
theorem dX3_clear_5 : decode cX3_clear 5 = .ok (.aload_n 0, 1) := by decide +kernel
theorem dX3_clear_6 : decode cX3_clear 6 = .ok (.iconst 0, 1) := by decide +kernel
theorem dX3_clear_7 : decode cX3_clear 7 = .ok (.putfield 22, 3) := by decide +kernel
theorem dX3_clear_10 : decode cX3_clear 10 = .ok (.return_, 1) := by decide +kernel
theorem dX3_keep_0 : decode cX3_keep 0 = .ok (.aload_n 1, 1) := by decide +kernel
theorem dX3_keep_1 : decode cX3_keep 1 = .ok (.getfield 25, 3) := by decide +kernel
theorem dX3_keep_4 : decode cX3_keep 4 = .ok (.iconst 0, 1) := by decide +kernel
theorem dX3_keep_5 : decode cX3_keep 5 = .ok (.aload_n 0, 1) := by decide +kernel
theorem dX3_keep_6 : decode cX3_keep 6 = .ok (.getfield 11, 3) := by decide +kernel
theorem dX3_keep_9 : decode cX3_keep 9 = .ok (.aload_n 0, 1) := by decide +kernel
theorem dX3_keep_10 : decode cX3_keep 10 = .ok (.getfield 28, 3) := by decide +kernel
theorem dX3_keep_13 : decode cX3_keep 13 = .ok (.bipush 71, 2) := by decide +kernel
theorem dX3_keep_15 : decode cX3_keep 15 = .ok (.imul, 1) := by decide +kernel
theorem dX3_keep_16 : decode cX3_keep 16 = .ok (.bipush 71, 2) := by decide +kernel
theorem dX3_keep_18 : decode cX3_keep 18 = .ok (.invokestatic 31, 3) := by decide +kernel
theorem dX3_keep_21 : decode cX3_keep 21 = .ok (.aload_n 0, 1) := by decide +kernel
theorem dX3_keep_22 : decode cX3_keep 22 = .ok (.aload_n 0, 1) := by decide +kernel
theorem dX3_keep_23 : decode cX3_keep 23 = .ok (.getfield 28, 3) := by decide +kernel
theorem dX3_keep_26 : decode cX3_keep 26 = .ok (.iconst 1, 1) := by decide +kernel
theorem dX3_keep_27 : decode cX3_keep 27 = .ok (.iadd, 1) := by decide +kernel
theorem dX3_keep_28 : decode cX3_keep 28 = .ok (.bipush 40, 2) := by decide +kernel
theorem dX3_keep_30 : decode cX3_keep 30 = .ok (.irem, 1) := by decide +kernel
theorem dX3_keep_31 : decode cX3_keep 31 = .ok (.putfield 28, 3) := by decide +kernel
theorem dX3_keep_34 : decode cX3_keep 34 = .ok (.aload_n 0, 1) := by decide +kernel
theorem dX3_keep_35 : decode cX3_keep 35 = .ok (.aload_n 0, 1) := by decide +kernel
theorem dX3_keep_36 : decode cX3_keep 36 = .ok (.getfield 18, 3) := by decide +kernel
theorem dX3_keep_39 : decode cX3_keep 39 = .ok (.iconst 1, 1) := by decide +kernel
theorem dX3_keep_40 : decode cX3_keep 40 = .ok (.iadd, 1) := by decide +kernel
theorem dX3_keep_41 : decode cX3_keep 41 = .ok (.bipush 40, 2) := by decide +kernel
theorem dX3_keep_43 : decode cX3_keep 43 = .ok (.invokestatic 37, 3) := by decide +kernel
theorem dX3_keep_46 : decode cX3_keep 46 = .ok (.putfield 18, 3) := by decide +kernel
theorem dX3_keep_49 : decode cX3_keep 49 = .ok (.return_, 1) := by decide +kernel
theorem dX3_takeBack_0 : decode cX3_takeBack 0 = .ok (.aload_n 0, 1) := by decide +kernel
theorem dX3_takeBack_1 : decode cX3_takeBack 1 = .ok (.getfield 18, 3) := by decide +kernel
theorem dX3_takeBack_4 : decode cX3_takeBack 4 = .ok (.ifCond .ne 5, 3) := by decide +kernel
theorem dX3_takeBack_7 : decode cX3_takeBack 7 = .ok (.iconst 0, 1) := by decide +kernel
theorem dX3_takeBack_8 : decode cX3_takeBack 8 = .ok (.ireturn, 1) := by decide +kernel
theorem dX3_takeBack_9 : decode cX3_takeBack 9 = .ok (.aload_n 0, 1) := by decide +kernel
theorem dX3_takeBack_10 : decode cX3_takeBack 10 = .ok (.dup, 1) := by decide +kernel
theorem dX3_takeBack_11 : decode cX3_takeBack 11 = .ok (.getfield 18, 3) := by decide +kernel
theorem dX3_takeBack_14 : decode cX3_takeBack 14 = .ok (.iconst 1, 1) := by decide +kernel
theorem dX3_takeBack_15 : decode cX3_takeBack 15 = .ok (.isub, 1) := by decide +kernel
theorem dX3_takeBack_16 : decode cX3_takeBack 16 = .ok (.putfield 18, 3) := by decide +kernel
theorem dX3_takeBack_19 : decode cX3_takeBack 19 = .ok (.aload_n 0, 1) := by decide +kernel
theorem dX3_takeBack_20 : decode cX3_takeBack 20 = .ok (.aload_n 0, 1) := by decide +kernel
theorem dX3_takeBack_21 : decode cX3_takeBack 21 = .ok (.getfield 28, 3) := by decide +kernel
theorem dX3_takeBack_24 : decode cX3_takeBack 24 = .ok (.bipush 40, 2) := by decide +kernel
theorem dX3_takeBack_26 : decode cX3_takeBack 26 = .ok (.iadd, 1) := by decide +kernel
theorem dX3_takeBack_27 : decode cX3_takeBack 27 = .ok (.iconst 1, 1) := by decide +kernel
theorem dX3_takeBack_28 : decode cX3_takeBack 28 = .ok (.isub, 1) := by decide +kernel
theorem dX3_takeBack_29 : decode cX3_takeBack 29 = .ok (.bipush 40, 2) := by decide +kernel
theorem dX3_takeBack_31 : decode cX3_takeBack 31 = .ok (.irem, 1) := by decide +kernel
theorem dX3_takeBack_32 : decode cX3_takeBack 32 = .ok (.putfield 28, 3) := by decide +kernel
theorem dX3_takeBack_35 : decode cX3_takeBack 35 = .ok (.aload_n 0, 1) := by decide +kernel
theorem dX3_takeBack_36 : decode cX3_takeBack 36 = .ok (.getfield 11, 3) := by decide +kernel
theorem dX3_takeBack_39 : decode cX3_takeBack 39 = .ok (.aload_n 0, 1) := by decide +kernel
theorem dX3_takeBack_40 : decode cX3_takeBack 40 = .ok (.getfield 28, 3) := by decide +kernel
theorem dX3_takeBack_43 : decode cX3_takeBack 43 = .ok (.bipush 71, 2) := by decide +kernel
theorem dX3_takeBack_45 : decode cX3_takeBack 45 = .ok (.imul, 1) := by decide +kernel
theorem dX3_takeBack_46 : decode cX3_takeBack 46 = .ok (.aload_n 1, 1) := by decide +kernel
theorem dX3_takeBack_47 : decode cX3_takeBack 47 = .ok (.getfield 25, 3) := by decide +kernel
theorem dX3_takeBack_50 : decode cX3_takeBack 50 = .ok (.iconst 0, 1) := by decide +kernel
theorem dX3_takeBack_51 : decode cX3_takeBack 51 = .ok (.bipush 71, 2) := by decide +kernel
theorem dX3_takeBack_53 : decode cX3_takeBack 53 = .ok (.invokestatic 31, 3) := by decide +kernel
theorem dX3_takeBack_56 : decode cX3_takeBack 56 = .ok (.iconst 1, 1) := by decide +kernel
theorem dX3_takeBack_57 : decode cX3_takeBack 57 = .ok (.ireturn, 1) := by decide +kernel
theorem dX3_fillSlot_0 : decode cX3_fillSlot 0 = .ok (.iload_n 1, 1) := by decide +kernel
theorem dX3_fillSlot_1 : decode cX3_fillSlot 1 = .ok (.ifCond .lt 8, 3) := by decide +kernel
theorem dX3_fillSlot_4 : decode cX3_fillSlot 4 = .ok (.iload_n 1, 1) := by decide +kernel
theorem dX3_fillSlot_5 : decode cX3_fillSlot 5 = .ok (.iconst 3, 1) := by decide +kernel
theorem dX3_fillSlot_6 : decode cX3_fillSlot 6 = .ok (.if_icmp .lt 5, 3) := by decide +kernel
theorem dX3_fillSlot_9 : decode cX3_fillSlot 9 = .ok (.iconst 0, 1) := by decide +kernel
theorem dX3_fillSlot_10 : decode cX3_fillSlot 10 = .ok (.ireturn, 1) := by decide +kernel
theorem dX3_fillSlot_11 : decode cX3_fillSlot 11 = .ok (.aload_n 2, 1) := by decide +kernel
theorem dX3_fillSlot_12 : decode cX3_fillSlot 12 = .ok (.getfield 25, 3) := by decide +kernel
theorem dX3_fillSlot_15 : decode cX3_fillSlot 15 = .ok (.iconst 0, 1) := by decide +kernel
theorem dX3_fillSlot_16 : decode cX3_fillSlot 16 = .ok (.aload_n 0, 1) := by decide +kernel
theorem dX3_fillSlot_17 : decode cX3_fillSlot 17 = .ok (.getfield 15, 3) := by decide +kernel
theorem dX3_fillSlot_20 : decode cX3_fillSlot 20 = .ok (.iload_n 1, 1) := by decide +kernel
theorem dX3_fillSlot_21 : decode cX3_fillSlot 21 = .ok (.bipush 71, 2) := by decide +kernel
theorem dX3_fillSlot_23 : decode cX3_fillSlot 23 = .ok (.imul, 1) := by decide +kernel
theorem dX3_fillSlot_24 : decode cX3_fillSlot 24 = .ok (.bipush 71, 2) := by decide +kernel
theorem dX3_fillSlot_26 : decode cX3_fillSlot 26 = .ok (.invokestatic 31, 3) := by decide +kernel
theorem dX3_fillSlot_29 : decode cX3_fillSlot 29 = .ok (.aload_n 0, 1) := by decide +kernel
theorem dX3_fillSlot_30 : decode cX3_fillSlot 30 = .ok (.dup, 1) := by decide +kernel
theorem dX3_fillSlot_31 : decode cX3_fillSlot 31 = .ok (.getfield 22, 3) := by decide +kernel
theorem dX3_fillSlot_34 : decode cX3_fillSlot 34 = .ok (.iconst 1, 1) := by decide +kernel
theorem dX3_fillSlot_35 : decode cX3_fillSlot 35 = .ok (.iload_n 1, 1) := by decide +kernel
theorem dX3_fillSlot_36 : decode cX3_fillSlot 36 = .ok (.ishl, 1) := by decide +kernel
theorem dX3_fillSlot_37 : decode cX3_fillSlot 37 = .ok (.ior, 1) := by decide +kernel
theorem dX3_fillSlot_38 : decode cX3_fillSlot 38 = .ok (.putfield 22, 3) := by decide +kernel
theorem dX3_fillSlot_41 : decode cX3_fillSlot 41 = .ok (.iconst 1, 1) := by decide +kernel
theorem dX3_fillSlot_42 : decode cX3_fillSlot 42 = .ok (.ireturn, 1) := by decide +kernel
theorem dX3_useSlot_0 : decode cX3_useSlot 0 = .ok (.iload_n 1, 1) := by decide +kernel
theorem dX3_useSlot_1 : decode cX3_useSlot 1 = .ok (.ifCond .lt 19, 3) := by decide +kernel
theorem dX3_useSlot_4 : decode cX3_useSlot 4 = .ok (.iload_n 1, 1) := by decide +kernel
theorem dX3_useSlot_5 : decode cX3_useSlot 5 = .ok (.iconst 3, 1) := by decide +kernel
theorem dX3_useSlot_6 : decode cX3_useSlot 6 = .ok (.if_icmp .ge 14, 3) := by decide +kernel
theorem dX3_useSlot_9 : decode cX3_useSlot 9 = .ok (.aload_n 0, 1) := by decide +kernel
theorem dX3_useSlot_10 : decode cX3_useSlot 10 = .ok (.getfield 22, 3) := by decide +kernel
theorem dX3_useSlot_13 : decode cX3_useSlot 13 = .ok (.iload_n 1, 1) := by decide +kernel
theorem dX3_useSlot_14 : decode cX3_useSlot 14 = .ok (.ishr, 1) := by decide +kernel
theorem dX3_useSlot_15 : decode cX3_useSlot 15 = .ok (.iconst 1, 1) := by decide +kernel
theorem dX3_useSlot_16 : decode cX3_useSlot 16 = .ok (.iand, 1) := by decide +kernel
theorem dX3_useSlot_17 : decode cX3_useSlot 17 = .ok (.ifCond .ne 5, 3) := by decide +kernel
theorem dX3_useSlot_20 : decode cX3_useSlot 20 = .ok (.iconst 0, 1) := by decide +kernel
theorem dX3_useSlot_21 : decode cX3_useSlot 21 = .ok (.ireturn, 1) := by decide +kernel
theorem dX3_useSlot_22 : decode cX3_useSlot 22 = .ok (.aload_n 0, 1) := by decide +kernel
theorem dX3_useSlot_23 : decode cX3_useSlot 23 = .ok (.getfield 15, 3) := by decide +kernel
theorem dX3_useSlot_26 : decode cX3_useSlot 26 = .ok (.iload_n 1, 1) := by decide +kernel
theorem dX3_useSlot_27 : decode cX3_useSlot 27 = .ok (.bipush 71, 2) := by decide +kernel
theorem dX3_useSlot_29 : decode cX3_useSlot 29 = .ok (.imul, 1) := by decide +kernel
theorem dX3_useSlot_30 : decode cX3_useSlot 30 = .ok (.aload_n 2, 1) := by decide +kernel
theorem dX3_useSlot_31 : decode cX3_useSlot 31 = .ok (.getfield 25, 3) := by decide +kernel
theorem dX3_useSlot_34 : decode cX3_useSlot 34 = .ok (.iconst 0, 1) := by decide +kernel
theorem dX3_useSlot_35 : decode cX3_useSlot 35 = .ok (.bipush 71, 2) := by decide +kernel
theorem dX3_useSlot_37 : decode cX3_useSlot 37 = .ok (.invokestatic 31, 3) := by decide +kernel
theorem dX3_useSlot_40 : decode cX3_useSlot 40 = .ok (.aload_n 0, 1) := by decide +kernel
theorem dX3_useSlot_41 : decode cX3_useSlot 41 = .ok (.iconst 0, 1) := by decide +kernel
theorem dX3_useSlot_42 : decode cX3_useSlot 42 = .ok (.putfield 18, 3) := by decide +kernel
theorem dX3_useSlot_45 : decode cX3_useSlot 45 = .ok (.iconst 1, 1) := by decide +kernel
theorem dX3_useSlot_46 : decode cX3_useSlot 46 = .ok (.ireturn, 1) := by decide +kernel
theorem dX5_init_0 : decode cX5_init 0 = .ok (.aload_n 0, 1) := by decide +kernel
theorem dX5_init_1 : decode cX5_init 1 = .ok (.invokespecial 5, 3) := by decide +kernel
theorem dX5_init_4 : decode cX5_init 4 = .ok (.aload_n 0, 1) := by decide +kernel
theorem dX5_init_5 : decode cX5_init 5 = .ok (.bipush 71, 2) := by decide +kernel
theorem dX5_init_7 : decode cX5_init 7 = .ok (.newarray .int, 2) := by decide +kernel
theorem dX5_init_9 : decode cX5_init 9 = .ok (.putfield 11, 3) := by decide +kernel
theorem dX5_init_12 : decode cX5_init 12 = .ok (.return_, 1) := by decide +kernel
theorem dX5_begin_0 : decode cX5_begin 0 = .ok (.aload_n 0, 1) := by decide +kernel
theorem dX5_begin_1 : decode cX5_begin 1 = .ok (.getfield 11, 3) := by decide +kernel
theorem dX5_begin_4 : decode cX5_begin 4 = .ok (.iconst 0, 1) := by decide +kernel
theorem dX5_begin_5 : decode cX5_begin 5 = .ok (.invokestatic 15, 3) := by decide +kernel
theorem dX5_begin_8 : decode cX5_begin 8 = .ok (.aload_n 0, 1) := by decide +kernel
theorem dX5_begin_9 : decode cX5_begin 9 = .ok (.iconst 1, 1) := by decide +kernel
theorem dX5_begin_10 : decode cX5_begin 10 = .ok (.iconst 1, 1) := by decide +kernel
theorem dX5_begin_11 : decode cX5_begin 11 = .ok (.invokevirtual 21, 3) := by decide +kernel
theorem dX5_begin_14 : decode cX5_begin 14 = .ok (.aload_n 0, 1) := by decide +kernel
theorem dX5_begin_15 : decode cX5_begin 15 = .ok (.getfield 11, 3) := by decide +kernel
theorem dX5_begin_18 : decode cX5_begin 18 = .ok (.iconst 4, 1) := by decide +kernel
theorem dX5_begin_19 : decode cX5_begin 19 = .ok (.aload_n 1, 1) := by decide +kernel
theorem dX5_begin_20 : decode cX5_begin 20 = .ok (.getfield 25, 3) := by decide +kernel
theorem dX5_begin_23 : decode cX5_begin 23 = .ok (.iastore, 1) := by decide +kernel
theorem dX5_begin_24 : decode cX5_begin 24 = .ok (.aload_n 0, 1) := by decide +kernel
theorem dX5_begin_25 : decode cX5_begin 25 = .ok (.getfield 11, 3) := by decide +kernel
theorem dX5_begin_28 : decode cX5_begin 28 = .ok (.iconst 5, 1) := by decide +kernel
theorem dX5_begin_29 : decode cX5_begin 29 = .ok (.aload_n 1, 1) := by decide +kernel
theorem dX5_begin_30 : decode cX5_begin 30 = .ok (.getfield 31, 3) := by decide +kernel
theorem dX5_begin_33 : decode cX5_begin 33 = .ok (.iastore, 1) := by decide +kernel
theorem dX5_begin_34 : decode cX5_begin 34 = .ok (.aload_n 0, 1) := by decide +kernel
theorem dX5_begin_35 : decode cX5_begin 35 = .ok (.getfield 11, 3) := by decide +kernel
theorem dX5_begin_38 : decode cX5_begin 38 = .ok (.bipush 6, 2) := by decide +kernel
theorem dX5_begin_40 : decode cX5_begin 40 = .ok (.iconst 1, 1) := by decide +kernel
theorem dX5_begin_41 : decode cX5_begin 41 = .ok (.aload_n 1, 1) := by decide +kernel
theorem dX5_begin_42 : decode cX5_begin 42 = .ok (.getfield 34, 3) := by decide +kernel
theorem dX5_begin_45 : decode cX5_begin 45 = .ok (.ishl, 1) := by decide +kernel
theorem dX5_begin_46 : decode cX5_begin 46 = .ok (.iconst 1, 1) := by decide +kernel
theorem dX5_begin_47 : decode cX5_begin 47 = .ok (.isub, 1) := by decide +kernel
theorem dX5_begin_48 : decode cX5_begin 48 = .ok (.iastore, 1) := by decide +kernel
theorem dX5_begin_49 : decode cX5_begin 49 = .ok (.return_, 1) := by decide +kernel
theorem dX5_setRates_0 : decode cX5_setRates 0 = .ok (.aload_n 0, 1) := by decide +kernel
theorem dX5_setRates_1 : decode cX5_setRates 1 = .ok (.getfield 11, 3) := by decide +kernel
theorem dX5_setRates_4 : decode cX5_setRates 4 = .ok (.iconst 1, 1) := by decide +kernel
theorem dX5_setRates_5 : decode cX5_setRates 5 = .ok (.iload_n 1, 1) := by decide +kernel
theorem dX5_setRates_6 : decode cX5_setRates 6 = .ok (.iastore, 1) := by decide +kernel
theorem dX5_setRates_7 : decode cX5_setRates 7 = .ok (.aload_n 0, 1) := by decide +kernel
theorem dX5_setRates_8 : decode cX5_setRates 8 = .ok (.getfield 11, 3) := by decide +kernel
theorem dX5_setRates_11 : decode cX5_setRates 11 = .ok (.iconst 2, 1) := by decide +kernel
theorem dX5_setRates_12 : decode cX5_setRates 12 = .ok (.iload_n 2, 1) := by decide +kernel
theorem dX5_setRates_13 : decode cX5_setRates 13 = .ok (.iastore, 1) := by decide +kernel
theorem dX5_setRates_14 : decode cX5_setRates 14 = .ok (.return_, 1) := by decide +kernel
theorem dX5_copy_0 : decode cX5_copy 0 = .ok (.aload_n 1, 1) := by decide +kernel
theorem dX5_copy_1 : decode cX5_copy 1 = .ok (.getfield 11, 3) := by decide +kernel
theorem dX5_copy_4 : decode cX5_copy 4 = .ok (.iconst 0, 1) := by decide +kernel
theorem dX5_copy_5 : decode cX5_copy 5 = .ok (.aload_n 0, 1) := by decide +kernel
theorem dX5_copy_6 : decode cX5_copy 6 = .ok (.getfield 11, 3) := by decide +kernel
theorem dX5_copy_9 : decode cX5_copy 9 = .ok (.iconst 0, 1) := by decide +kernel
theorem dX5_copy_10 : decode cX5_copy 10 = .ok (.bipush 71, 2) := by decide +kernel
theorem dX5_copy_12 : decode cX5_copy 12 = .ok (.invokestatic 37, 3) := by decide +kernel
theorem dX5_copy_15 : decode cX5_copy 15 = .ok (.return_, 1) := by decide +kernel
theorem dX6_init_0 : decode cX6_init 0 = .ok (.aload_n 0, 1) := by decide +kernel
theorem dX6_init_1 : decode cX6_init 1 = .ok (.invokespecial 3, 3) := by decide +kernel
theorem dX6_init_4 : decode cX6_init 4 = .ok (.aload_n 0, 1) := by decide +kernel
theorem dX6_init_5 : decode cX6_init 5 = .ok (.sipush 2000, 3) := by decide +kernel
theorem dX6_init_8 : decode cX6_init 8 = .ok (.newarray .byte, 2) := by decide +kernel
theorem dX6_init_10 : decode cX6_init 10 = .ok (.putfield 9, 3) := by decide +kernel
theorem dX6_init_13 : decode cX6_init 13 = .ok (.return_, 1) := by decide +kernel
theorem dX6_add_0 : decode cX6_add 0 = .ok (.bipush 24, 2) := by decide +kernel
theorem dX6_add_2 : decode cX6_add 2 = .ok (.istore_n 2, 1) := by decide +kernel
theorem dX6_add_3 : decode cX6_add 3 = .ok (.iload_n 2, 1) := by decide +kernel
theorem dX6_add_4 : decode cX6_add 4 = .ok (.ifCond .lt 42, 3) := by decide +kernel
theorem dX6_add_7 : decode cX6_add 7 = .ok (.aload_n 0, 1) := by decide +kernel
theorem dX6_add_8 : decode cX6_add 8 = .ok (.getfield 15, 3) := by decide +kernel
theorem dX6_add_11 : decode cX6_add 11 = .ok (.sipush 2000, 3) := by decide +kernel
theorem dX6_add_14 : decode cX6_add 14 = .ok (.if_icmp .ge 32, 3) := by decide +kernel
theorem dX6_add_17 : decode cX6_add 17 = .ok (.aload_n 0, 1) := by decide +kernel
theorem dX6_add_18 : decode cX6_add 18 = .ok (.getfield 9, 3) := by decide +kernel
theorem dX6_add_21 : decode cX6_add 21 = .ok (.aload_n 0, 1) := by decide +kernel
theorem dX6_add_22 : decode cX6_add 22 = .ok (.getfield 15, 3) := by decide +kernel
theorem dX6_add_25 : decode cX6_add 25 = .ok (.iload_n 1, 1) := by decide +kernel
theorem dX6_add_26 : decode cX6_add 26 = .ok (.iload_n 2, 1) := by decide +kernel
theorem dX6_add_27 : decode cX6_add 27 = .ok (.iushr, 1) := by decide +kernel
theorem dX6_add_28 : decode cX6_add 28 = .ok (.i2b, 1) := by decide +kernel
theorem dX6_add_29 : decode cX6_add 29 = .ok (.bastore, 1) := by decide +kernel
theorem dX6_add_30 : decode cX6_add 30 = .ok (.aload_n 0, 1) := by decide +kernel
theorem dX6_add_31 : decode cX6_add 31 = .ok (.dup, 1) := by decide +kernel
theorem dX6_add_32 : decode cX6_add 32 = .ok (.getfield 15, 3) := by decide +kernel
theorem dX6_add_35 : decode cX6_add 35 = .ok (.iconst 1, 1) := by decide +kernel
theorem dX6_add_36 : decode cX6_add 36 = .ok (.iadd, 1) := by decide +kernel
theorem dX6_add_37 : decode cX6_add 37 = .ok (.putfield 15, 3) := by decide +kernel
theorem dX6_add_40 : decode cX6_add 40 = .ok (.iinc 2 (-8), 3) := by decide +kernel
theorem dX6_add_43 : decode cX6_add 43 = .ok (.goto (-40), 3) := by decide +kernel
theorem dX6_add_46 : decode cX6_add 46 = .ok (.return_, 1) := by decide +kernel
theorem dX8_init_0 : decode cX8_init 0 = .ok (.aload_n 0, 1) := by decide +kernel
theorem dX8_init_1 : decode cX8_init 1 = .ok (.invokespecial 3, 3) := by decide +kernel
theorem dX8_init_4 : decode cX8_init 4 = .ok (.aload_n 0, 1) := by decide +kernel
theorem dX8_init_5 : decode cX8_init 5 = .ok (.bipush 12, 2) := by decide +kernel
theorem dX8_init_7 : decode cX8_init 7 = .ok (.newarray .int, 2) := by decide +kernel
theorem dX8_init_9 : decode cX8_init 9 = .ok (.putfield 9, 3) := by decide +kernel
theorem dX8_init_12 : decode cX8_init 12 = .ok (.aload_n 0, 1) := by decide +kernel
theorem dX8_init_13 : decode cX8_init 13 = .ok (.bipush 12, 2) := by decide +kernel
theorem dX8_init_15 : decode cX8_init 15 = .ok (.newarray .int, 2) := by decide +kernel
theorem dX8_init_17 : decode cX8_init 17 = .ok (.putfield 15, 3) := by decide +kernel
theorem dX8_init_20 : decode cX8_init 20 = .ok (.aload_n 0, 1) := by decide +kernel
theorem dX8_init_21 : decode cX8_init 21 = .ok (.bipush 12, 2) := by decide +kernel
theorem dX8_init_23 : decode cX8_init 23 = .ok (.newarray .int, 2) := by decide +kernel
theorem dX8_init_25 : decode cX8_init 25 = .ok (.putfield 18, 3) := by decide +kernel
theorem dX8_init_28 : decode cX8_init 28 = .ok (.aload_n 0, 1) := by decide +kernel
theorem dX8_init_29 : decode cX8_init 29 = .ok (.bipush 7, 2) := by decide +kernel
theorem dX8_init_31 : decode cX8_init 31 = .ok (.newarray .int, 2) := by decide +kernel
theorem dX8_init_33 : decode cX8_init 33 = .ok (.putfield 21, 3) := by decide +kernel
theorem dX8_init_36 : decode cX8_init 36 = .ok (.aload_n 0, 1) := by decide +kernel
theorem dX8_init_37 : decode cX8_init 37 = .ok (.bipush 7, 2) := by decide +kernel
theorem dX8_init_39 : decode cX8_init 39 = .ok (.newarray .int, 2) := by decide +kernel
theorem dX8_init_41 : decode cX8_init 41 = .ok (.putfield 24, 3) := by decide +kernel
theorem dX8_init_44 : decode cX8_init 44 = .ok (.aload_n 0, 1) := by decide +kernel
theorem dX8_init_45 : decode cX8_init 45 = .ok (.bipush 7, 2) := by decide +kernel
theorem dX8_init_47 : decode cX8_init 47 = .ok (.newarray .int, 2) := by decide +kernel
theorem dX8_init_49 : decode cX8_init 49 = .ok (.putfield 27, 3) := by decide +kernel
theorem dX8_init_52 : decode cX8_init 52 = .ok (.aload_n 0, 1) := by decide +kernel
theorem dX8_init_53 : decode cX8_init 53 = .ok (.bipush 7, 2) := by decide +kernel
theorem dX8_init_55 : decode cX8_init 55 = .ok (.newarray .int, 2) := by decide +kernel
theorem dX8_init_57 : decode cX8_init 57 = .ok (.putfield 30, 3) := by decide +kernel
theorem dX8_init_60 : decode cX8_init 60 = .ok (.aload_n 0, 1) := by decide +kernel
theorem dX8_init_61 : decode cX8_init 61 = .ok (.bipush 7, 2) := by decide +kernel
theorem dX8_init_63 : decode cX8_init 63 = .ok (.newarray .int, 2) := by decide +kernel
theorem dX8_init_65 : decode cX8_init 65 = .ok (.putfield 33, 3) := by decide +kernel
theorem dX8_init_68 : decode cX8_init 68 = .ok (.aload_n 0, 1) := by decide +kernel
theorem dX8_init_69 : decode cX8_init 69 = .ok (.new 36, 3) := by decide +kernel
theorem dX8_init_72 : decode cX8_init 72 = .ok (.dup, 1) := by decide +kernel
theorem dX8_init_73 : decode cX8_init 73 = .ok (.sipush 511, 3) := by decide +kernel
theorem dX8_init_76 : decode cX8_init 76 = .ok (.invokespecial 38, 3) := by decide +kernel
theorem dX8_init_79 : decode cX8_init 79 = .ok (.putfield 41, 3) := by decide +kernel
theorem dX8_init_82 : decode cX8_init 82 = .ok (.aload_n 0, 1) := by decide +kernel
theorem dX8_init_83 : decode cX8_init 83 = .ok (.new 36, 3) := by decide +kernel
theorem dX8_init_86 : decode cX8_init 86 = .ok (.dup, 1) := by decide +kernel
theorem dX8_init_87 : decode cX8_init 87 = .ok (.sipush 511, 3) := by decide +kernel
theorem dX8_init_90 : decode cX8_init 90 = .ok (.invokespecial 38, 3) := by decide +kernel
theorem dX8_init_93 : decode cX8_init 93 = .ok (.putfield 45, 3) := by decide +kernel
theorem dX8_init_96 : decode cX8_init 96 = .ok (.aload_n 0, 1) := by decide +kernel
theorem dX8_init_97 : decode cX8_init 97 = .ok (.new 36, 3) := by decide +kernel
theorem dX8_init_100 : decode cX8_init 100 = .ok (.dup, 1) := by decide +kernel
theorem dX8_init_101 : decode cX8_init 101 = .ok (.sipush 416, 3) := by decide +kernel
theorem dX8_init_104 : decode cX8_init 104 = .ok (.invokespecial 38, 3) := by decide +kernel
theorem dX8_init_107 : decode cX8_init 107 = .ok (.putfield 48, 3) := by decide +kernel
theorem dX8_init_110 : decode cX8_init 110 = .ok (.return_, 1) := by decide +kernel
theorem dX8_clear_0 : decode cX8_clear 0 = .ok (.aload_n 0, 1) := by decide +kernel
theorem dX8_clear_1 : decode cX8_clear 1 = .ok (.iconst 0, 1) := by decide +kernel
theorem dX8_clear_2 : decode cX8_clear 2 = .ok (.putfield 51, 3) := by decide +kernel
theorem dX8_clear_5 : decode cX8_clear 5 = .ok (.aload_n 0, 1) := by decide +kernel
theorem dX8_clear_6 : decode cX8_clear 6 = .ok (.iconst 0, 1) := by decide +kernel
theorem dX8_clear_7 : decode cX8_clear 7 = .ok (.putfield 55, 3) := by decide +kernel
theorem dX8_clear_10 : decode cX8_clear 10 = .ok (.aload_n 0, 1) := by decide +kernel
theorem dX8_clear_11 : decode cX8_clear 11 = .ok (.iconst 0, 1) := by decide +kernel
theorem dX8_clear_12 : decode cX8_clear 12 = .ok (.putfield 58, 3) := by decide +kernel
theorem dX8_clear_15 : decode cX8_clear 15 = .ok (.aload_n 0, 1) := by decide +kernel
theorem dX8_clear_16 : decode cX8_clear 16 = .ok (.iconst 0, 1) := by decide +kernel
theorem dX8_clear_17 : decode cX8_clear 17 = .ok (.putfield 61, 3) := by decide +kernel
theorem dX8_clear_20 : decode cX8_clear 20 = .ok (.aload_n 0, 1) := by decide +kernel
theorem dX8_clear_21 : decode cX8_clear 21 = .ok (.iconst 0, 1) := by decide +kernel
theorem dX8_clear_22 : decode cX8_clear 22 = .ok (.putfield 64, 3) := by decide +kernel
theorem dX8_clear_25 : decode cX8_clear 25 = .ok (.aload_n 0, 1) := by decide +kernel
theorem dX8_clear_26 : decode cX8_clear 26 = .ok (.getfield 41, 3) := by decide +kernel
theorem dX8_clear_29 : decode cX8_clear 29 = .ok (.invokevirtual 67, 3) := by decide +kernel
theorem dX8_clear_32 : decode cX8_clear 32 = .ok (.aload_n 0, 1) := by decide +kernel
theorem dX8_clear_33 : decode cX8_clear 33 = .ok (.getfield 41, 3) := by decide +kernel
theorem dX8_clear_36 : decode cX8_clear 36 = .ok (.iconst 4, 1) := by decide +kernel
theorem dX8_clear_37 : decode cX8_clear 37 = .ok (.invokevirtual 70, 3) := by decide +kernel
theorem dX8_clear_40 : decode cX8_clear 40 = .ok (.aload_n 0, 1) := by decide +kernel
theorem dX8_clear_41 : decode cX8_clear 41 = .ok (.getfield 41, 3) := by decide +kernel
theorem dX8_clear_44 : decode cX8_clear 44 = .ok (.bipush 7, 2) := by decide +kernel
theorem dX8_clear_46 : decode cX8_clear 46 = .ok (.iconst 0, 1) := by decide +kernel
theorem dX8_clear_47 : decode cX8_clear 47 = .ok (.invokevirtual 73, 3) := by decide +kernel
theorem dX8_clear_50 : decode cX8_clear 50 = .ok (.pop, 1) := by decide +kernel
theorem dX8_clear_51 : decode cX8_clear 51 = .ok (.aload_n 0, 1) := by decide +kernel
theorem dX8_clear_52 : decode cX8_clear 52 = .ok (.getfield 45, 3) := by decide +kernel
theorem dX8_clear_55 : decode cX8_clear 55 = .ok (.invokevirtual 67, 3) := by decide +kernel
theorem dX8_clear_58 : decode cX8_clear 58 = .ok (.aload_n 0, 1) := by decide +kernel
theorem dX8_clear_59 : decode cX8_clear 59 = .ok (.getfield 45, 3) := by decide +kernel
theorem dX8_clear_62 : decode cX8_clear 62 = .ok (.iconst 0, 1) := by decide +kernel
theorem dX8_clear_63 : decode cX8_clear 63 = .ok (.iconst 5, 1) := by decide +kernel
theorem dX8_clear_64 : decode cX8_clear 64 = .ok (.invokevirtual 73, 3) := by decide +kernel
theorem dX8_clear_67 : decode cX8_clear 67 = .ok (.pop, 1) := by decide +kernel
theorem dX8_clear_68 : decode cX8_clear 68 = .ok (.aload_n 0, 1) := by decide +kernel
theorem dX8_clear_69 : decode cX8_clear 69 = .ok (.getfield 45, 3) := by decide +kernel
theorem dX8_clear_72 : decode cX8_clear 72 = .ok (.bipush 7, 2) := by decide +kernel
theorem dX8_clear_74 : decode cX8_clear 74 = .ok (.iconst 0, 1) := by decide +kernel
theorem dX8_clear_75 : decode cX8_clear 75 = .ok (.invokevirtual 73, 3) := by decide +kernel
theorem dX8_clear_78 : decode cX8_clear 78 = .ok (.pop, 1) := by decide +kernel
theorem dX8_clear_79 : decode cX8_clear 79 = .ok (.aload_n 0, 1) := by decide +kernel
theorem dX8_clear_80 : decode cX8_clear 80 = .ok (.getfield 48, 3) := by decide +kernel
theorem dX8_clear_83 : decode cX8_clear 83 = .ok (.invokevirtual 67, 3) := by decide +kernel
theorem dX8_clear_86 : decode cX8_clear 86 = .ok (.aload_n 0, 1) := by decide +kernel
theorem dX8_clear_87 : decode cX8_clear 87 = .ok (.getfield 48, 3) := by decide +kernel
theorem dX8_clear_90 : decode cX8_clear 90 = .ok (.iconst 0, 1) := by decide +kernel
theorem dX8_clear_91 : decode cX8_clear 91 = .ok (.bipush 99, 2) := by decide +kernel
theorem dX8_clear_93 : decode cX8_clear 93 = .ok (.invokevirtual 73, 3) := by decide +kernel
theorem dX8_clear_96 : decode cX8_clear 96 = .ok (.pop, 1) := by decide +kernel
theorem dX8_clear_97 : decode cX8_clear 97 = .ok (.aload_n 0, 1) := by decide +kernel
theorem dX8_clear_98 : decode cX8_clear 98 = .ok (.getfield 48, 3) := by decide +kernel
theorem dX8_clear_101 : decode cX8_clear 101 = .ok (.bipush 7, 2) := by decide +kernel
theorem dX8_clear_103 : decode cX8_clear 103 = .ok (.iconst 0, 1) := by decide +kernel
theorem dX8_clear_104 : decode cX8_clear 104 = .ok (.invokevirtual 73, 3) := by decide +kernel
theorem dX8_clear_107 : decode cX8_clear 107 = .ok (.pop, 1) := by decide +kernel
theorem dX8_clear_108 : decode cX8_clear 108 = .ok (.aload_n 0, 1) := by decide +kernel
theorem dX8_clear_109 : decode cX8_clear 109 = .ok (.iconst 0, 1) := by decide +kernel
theorem dX8_clear_110 : decode cX8_clear 110 = .ok (.putfield 77, 3) := by decide +kernel
theorem dX8_clear_113 : decode cX8_clear 113 = .ok (.aload_n 0, 1) := by decide +kernel
theorem dX8_clear_114 : decode cX8_clear 114 = .ok (.bipush 10, 2) := by decide +kernel
theorem dX8_clear_116 : decode cX8_clear 116 = .ok (.putfield 80, 3) := by decide +kernel
theorem dX8_clear_119 : decode cX8_clear 119 = .ok (.aload_n 0, 1) := by decide +kernel
theorem dX8_clear_120 : decode cX8_clear 120 = .ok (.bipush 20, 2) := by decide +kernel
theorem dX8_clear_122 : decode cX8_clear 122 = .ok (.putfield 83, 3) := by decide +kernel
theorem dX8_clear_125 : decode cX8_clear 125 = .ok (.aload_n 0, 1) := by decide +kernel
theorem dX8_clear_126 : decode cX8_clear 126 = .ok (.iconst 0, 1) := by decide +kernel
theorem dX8_clear_127 : decode cX8_clear 127 = .ok (.putfield 86, 3) := by decide +kernel
theorem dX8_clear_130 : decode cX8_clear 130 = .ok (.return_, 1) := by decide +kernel
theorem dX8_isNightOf_0 : decode cX8_isNightOf 0 = .ok (.aload_n 0, 1) := by decide +kernel
theorem dX8_isNightOf_1 : decode cX8_isNightOf 1 = .ok (.getfield 33, 3) := by decide +kernel
theorem dX8_isNightOf_4 : decode cX8_isNightOf 4 = .ok (.iload_n 1, 1) := by decide +kernel
theorem dX8_isNightOf_5 : decode cX8_isNightOf 5 = .ok (.iaload, 1) := by decide +kernel
theorem dX8_isNightOf_6 : decode cX8_isNightOf 6 = .ok (.istore_n 3, 1) := by decide +kernel
theorem dX8_isNightOf_7 : decode cX8_isNightOf 7 = .ok (.iload_n 3, 1) := by decide +kernel
theorem dX8_isNightOf_8 : decode cX8_isNightOf 8 = .ok (.ifCond .le 13, 3) := by decide +kernel
theorem dX8_isNightOf_11 : decode cX8_isNightOf 11 = .ok (.iload_n 2, 1) := by decide +kernel
theorem dX8_isNightOf_12 : decode cX8_isNightOf 12 = .ok (.iload_n 3, 1) := by decide +kernel
theorem dX8_isNightOf_13 : decode cX8_isNightOf 13 = .ok (.irem, 1) := by decide +kernel
theorem dX8_isNightOf_14 : decode cX8_isNightOf 14 = .ok (.ifCond .ne 7, 3) := by decide +kernel
theorem dX8_isNightOf_17 : decode cX8_isNightOf 17 = .ok (.iconst 1, 1) := by decide +kernel
theorem dX8_isNightOf_18 : decode cX8_isNightOf 18 = .ok (.goto 4, 3) := by decide +kernel
theorem dX8_isNightOf_21 : decode cX8_isNightOf 21 = .ok (.iconst 0, 1) := by decide +kernel
theorem dX8_isNightOf_22 : decode cX8_isNightOf 22 = .ok (.ireturn, 1) := by decide +kernel
theorem dX8_hangsOnSeed_0 : decode cX8_hangsOnSeed 0 = .ok (.aload_n 0, 1) := by decide +kernel
theorem dX8_hangsOnSeed_1 : decode cX8_hangsOnSeed 1 = .ok (.getfield 41, 3) := by decide +kernel
theorem dX8_hangsOnSeed_4 : decode cX8_hangsOnSeed 4 = .ok (.invokevirtual 89, 3) := by decide +kernel
theorem dX8_hangsOnSeed_7 : decode cX8_hangsOnSeed 7 = .ok (.ifCond .ne 13, 3) := by decide +kernel
theorem dX8_hangsOnSeed_10 : decode cX8_hangsOnSeed 10 = .ok (.aload_n 0, 1) := by decide +kernel
theorem dX8_hangsOnSeed_11 : decode cX8_hangsOnSeed 11 = .ok (.getfield 45, 3) := by decide +kernel
theorem dX8_hangsOnSeed_14 : decode cX8_hangsOnSeed 14 = .ok (.invokevirtual 89, 3) := by decide +kernel
theorem dX8_hangsOnSeed_17 : decode cX8_hangsOnSeed 17 = .ok (.ifCond .eq 7, 3) := by decide +kernel
theorem dX8_hangsOnSeed_20 : decode cX8_hangsOnSeed 20 = .ok (.iconst 1, 1) := by decide +kernel
theorem dX8_hangsOnSeed_21 : decode cX8_hangsOnSeed 21 = .ok (.goto 4, 3) := by decide +kernel
theorem dX8_hangsOnSeed_24 : decode cX8_hangsOnSeed 24 = .ok (.iconst 0, 1) := by decide +kernel
theorem dX8_hangsOnSeed_25 : decode cX8_hangsOnSeed 25 = .ok (.istore_n 1, 1) := by decide +kernel
theorem dX8_hangsOnSeed_26 : decode cX8_hangsOnSeed 26 = .ok (.iload_n 1, 1) := by decide +kernel
theorem dX8_hangsOnSeed_27 : decode cX8_hangsOnSeed 27 = .ok (.ifCond .eq 23, 3) := by decide +kernel
theorem dX8_hangsOnSeed_30 : decode cX8_hangsOnSeed 30 = .ok (.aload_n 0, 1) := by decide +kernel
theorem dX8_hangsOnSeed_31 : decode cX8_hangsOnSeed 31 = .ok (.getfield 77, 3) := by decide +kernel
theorem dX8_hangsOnSeed_34 : decode cX8_hangsOnSeed 34 = .ok (.ifCond .le 16, 3) := by decide +kernel
theorem dX8_hangsOnSeed_37 : decode cX8_hangsOnSeed 37 = .ok (.aload_n 0, 1) := by decide +kernel
theorem dX8_hangsOnSeed_38 : decode cX8_hangsOnSeed 38 = .ok (.getfield 77, 3) := by decide +kernel
theorem dX8_hangsOnSeed_41 : decode cX8_hangsOnSeed 41 = .ok (.bipush 100, 2) := by decide +kernel
theorem dX8_hangsOnSeed_43 : decode cX8_hangsOnSeed 43 = .ok (.if_icmp .ge 7, 3) := by decide +kernel
theorem dX8_hangsOnSeed_46 : decode cX8_hangsOnSeed 46 = .ok (.iconst 1, 1) := by decide +kernel
theorem dX8_hangsOnSeed_47 : decode cX8_hangsOnSeed 47 = .ok (.goto 4, 3) := by decide +kernel
theorem dX8_hangsOnSeed_50 : decode cX8_hangsOnSeed 50 = .ok (.iconst 0, 1) := by decide +kernel
theorem dX8_hangsOnSeed_51 : decode cX8_hangsOnSeed 51 = .ok (.ireturn, 1) := by decide +kernel
theorem dX8_sheetChance_0 : decode cX8_sheetChance 0 = .ok (.aload_n 0, 1) := by decide +kernel
theorem dX8_sheetChance_1 : decode cX8_sheetChance 1 = .ok (.getfield 80, 3) := by decide +kernel
theorem dX8_sheetChance_4 : decode cX8_sheetChance 4 = .ok (.iload_n 1, 1) := by decide +kernel
theorem dX8_sheetChance_5 : decode cX8_sheetChance 5 = .ok (.ifCond .eq 10, 3) := by decide +kernel
theorem dX8_sheetChance_8 : decode cX8_sheetChance 8 = .ok (.aload_n 0, 1) := by decide +kernel
theorem dX8_sheetChance_9 : decode cX8_sheetChance 9 = .ok (.getfield 83, 3) := by decide +kernel
theorem dX8_sheetChance_12 : decode cX8_sheetChance 12 = .ok (.goto 10, 3) := by decide +kernel
theorem dX8_sheetChance_15 : decode cX8_sheetChance 15 = .ok (.bipush 100, 2) := by decide +kernel
theorem dX8_sheetChance_17 : decode cX8_sheetChance 17 = .ok (.aload_n 0, 1) := by decide +kernel
theorem dX8_sheetChance_18 : decode cX8_sheetChance 18 = .ok (.getfield 83, 3) := by decide +kernel
theorem dX8_sheetChance_21 : decode cX8_sheetChance 21 = .ok (.isub, 1) := by decide +kernel
theorem dX8_sheetChance_22 : decode cX8_sheetChance 22 = .ok (.imul, 1) := by decide +kernel
theorem dX8_sheetChance_23 : decode cX8_sheetChance 23 = .ok (.istore_n 3, 1) := by decide +kernel
theorem dX8_sheetChance_24 : decode cX8_sheetChance 24 = .ok (.bipush 100, 2) := by decide +kernel
theorem dX8_sheetChance_26 : decode cX8_sheetChance 26 = .ok (.aload_n 0, 1) := by decide +kernel
theorem dX8_sheetChance_27 : decode cX8_sheetChance 27 = .ok (.getfield 80, 3) := by decide +kernel
theorem dX8_sheetChance_30 : decode cX8_sheetChance 30 = .ok (.isub, 1) := by decide +kernel
theorem dX8_sheetChance_31 : decode cX8_sheetChance 31 = .ok (.iload_n 1, 1) := by decide +kernel
theorem dX8_sheetChance_32 : decode cX8_sheetChance 32 = .ok (.ifCond .eq 13, 3) := by decide +kernel
theorem dX8_sheetChance_35 : decode cX8_sheetChance 35 = .ok (.bipush 100, 2) := by decide +kernel
theorem dX8_sheetChance_37 : decode cX8_sheetChance 37 = .ok (.aload_n 0, 1) := by decide +kernel
theorem dX8_sheetChance_38 : decode cX8_sheetChance 38 = .ok (.getfield 83, 3) := by decide +kernel
theorem dX8_sheetChance_41 : decode cX8_sheetChance 41 = .ok (.isub, 1) := by decide +kernel
theorem dX8_sheetChance_42 : decode cX8_sheetChance 42 = .ok (.goto 7, 3) := by decide +kernel
theorem dX8_sheetChance_45 : decode cX8_sheetChance 45 = .ok (.aload_n 0, 1) := by decide +kernel
theorem dX8_sheetChance_46 : decode cX8_sheetChance 46 = .ok (.getfield 83, 3) := by decide +kernel
theorem dX8_sheetChance_49 : decode cX8_sheetChance 49 = .ok (.imul, 1) := by decide +kernel
theorem dX8_sheetChance_50 : decode cX8_sheetChance 50 = .ok (.istore 4, 2) := by decide +kernel
theorem dX8_sheetChance_52 : decode cX8_sheetChance 52 = .ok (.iload_n 3, 1) := by decide +kernel
theorem dX8_sheetChance_53 : decode cX8_sheetChance 53 = .ok (.ifCond .ne 13, 3) := by decide +kernel
theorem dX8_sheetChance_56 : decode cX8_sheetChance 56 = .ok (.iload_n 2, 1) := by decide +kernel
theorem dX8_sheetChance_57 : decode cX8_sheetChance 57 = .ok (.ifCond .eq 7, 3) := by decide +kernel
theorem dX8_sheetChance_60 : decode cX8_sheetChance 60 = .ok (.iconst 1, 1) := by decide +kernel
theorem dX8_sheetChance_61 : decode cX8_sheetChance 61 = .ok (.goto 4, 3) := by decide +kernel
theorem dX8_sheetChance_64 : decode cX8_sheetChance 64 = .ok (.iconst 0, 1) := by decide +kernel
theorem dX8_sheetChance_65 : decode cX8_sheetChance 65 = .ok (.ireturn, 1) := by decide +kernel
theorem dX8_sheetChance_66 : decode cX8_sheetChance 66 = .ok (.iload_n 3, 1) := by decide +kernel
theorem dX8_sheetChance_67 : decode cX8_sheetChance 67 = .ok (.iload 4, 2) := by decide +kernel
theorem dX8_sheetChance_69 : decode cX8_sheetChance 69 = .ok (.iadd, 1) := by decide +kernel
theorem dX8_sheetChance_70 : decode cX8_sheetChance 70 = .ok (.istore 5, 2) := by decide +kernel
theorem dX8_sheetChance_72 : decode cX8_sheetChance 72 = .ok (.iload_n 2, 1) := by decide +kernel
theorem dX8_sheetChance_73 : decode cX8_sheetChance 73 = .ok (.ifCond .eq 8, 3) := by decide +kernel
theorem dX8_sheetChance_76 : decode cX8_sheetChance 76 = .ok (.iload 5, 2) := by decide +kernel
theorem dX8_sheetChance_78 : decode cX8_sheetChance 78 = .ok (.goto 4, 3) := by decide +kernel
theorem dX8_sheetChance_81 : decode cX8_sheetChance 81 = .ok (.iload_n 3, 1) := by decide +kernel
theorem dX8_sheetChance_82 : decode cX8_sheetChance 82 = .ok (.istore 6, 2) := by decide +kernel
theorem dX8_sheetChance_84 : decode cX8_sheetChance 84 = .ok (.iload 5, 2) := by decide +kernel
theorem dX8_sheetChance_86 : decode cX8_sheetChance 86 = .ok (.iload_n 3, 1) := by decide +kernel
theorem dX8_sheetChance_87 : decode cX8_sheetChance 87 = .ok (.invokestatic 93, 3) := by decide +kernel
theorem dX8_sheetChance_90 : decode cX8_sheetChance 90 = .ok (.istore 7, 2) := by decide +kernel
theorem dX8_sheetChance_92 : decode cX8_sheetChance 92 = .ok (.iload 7, 2) := by decide +kernel
theorem dX8_sheetChance_94 : decode cX8_sheetChance 94 = .ok (.ifCond .ne 7, 3) := by decide +kernel
theorem dX8_sheetChance_97 : decode cX8_sheetChance 97 = .ok (.iconst 0, 1) := by decide +kernel
theorem dX8_sheetChance_98 : decode cX8_sheetChance 98 = .ok (.goto 8, 3) := by decide +kernel
theorem dX8_sheetChance_101 : decode cX8_sheetChance 101 = .ok (.iload 6, 2) := by decide +kernel
theorem dX8_sheetChance_103 : decode cX8_sheetChance 103 = .ok (.iload 7, 2) := by decide +kernel
theorem dX8_sheetChance_105 : decode cX8_sheetChance 105 = .ok (.idiv, 1) := by decide +kernel
theorem dX8_sheetChance_106 : decode cX8_sheetChance 106 = .ok (.ireturn, 1) := by decide +kernel
theorem dX8_greatestShared_0 : decode cX8_greatestShared 0 = .ok (.iload_n 0, 1) := by decide +kernel
theorem dX8_greatestShared_1 : decode cX8_greatestShared 1 = .ok (.istore_n 2, 1) := by decide +kernel
theorem dX8_greatestShared_2 : decode cX8_greatestShared 2 = .ok (.iload_n 1, 1) := by decide +kernel
theorem dX8_greatestShared_3 : decode cX8_greatestShared 3 = .ok (.istore_n 3, 1) := by decide +kernel
theorem dX8_greatestShared_4 : decode cX8_greatestShared 4 = .ok (.iconst 0, 1) := by decide +kernel
theorem dX8_greatestShared_5 : decode cX8_greatestShared 5 = .ok (.istore 4, 2) := by decide +kernel
theorem dX8_greatestShared_7 : decode cX8_greatestShared 7 = .ok (.iload 4, 2) := by decide +kernel
theorem dX8_greatestShared_9 : decode cX8_greatestShared 9 = .ok (.bipush 64, 2) := by decide +kernel
theorem dX8_greatestShared_11 : decode cX8_greatestShared 11 = .ok (.if_icmp .ge 23, 3) := by decide +kernel
theorem dX8_greatestShared_14 : decode cX8_greatestShared 14 = .ok (.iload_n 3, 1) := by decide +kernel
theorem dX8_greatestShared_15 : decode cX8_greatestShared 15 = .ok (.ifCond .eq 19, 3) := by decide +kernel
theorem dX8_greatestShared_18 : decode cX8_greatestShared 18 = .ok (.iload_n 2, 1) := by decide +kernel
theorem dX8_greatestShared_19 : decode cX8_greatestShared 19 = .ok (.iload_n 3, 1) := by decide +kernel
theorem dX8_greatestShared_20 : decode cX8_greatestShared 20 = .ok (.irem, 1) := by decide +kernel
theorem dX8_greatestShared_21 : decode cX8_greatestShared 21 = .ok (.istore 5, 2) := by decide +kernel
theorem dX8_greatestShared_23 : decode cX8_greatestShared 23 = .ok (.iload_n 3, 1) := by decide +kernel
theorem dX8_greatestShared_24 : decode cX8_greatestShared 24 = .ok (.istore_n 2, 1) := by decide +kernel
theorem dX8_greatestShared_25 : decode cX8_greatestShared 25 = .ok (.iload 5, 2) := by decide +kernel
theorem dX8_greatestShared_27 : decode cX8_greatestShared 27 = .ok (.istore_n 3, 1) := by decide +kernel
theorem dX8_greatestShared_28 : decode cX8_greatestShared 28 = .ok (.iinc 4 1, 3) := by decide +kernel
theorem dX8_greatestShared_31 : decode cX8_greatestShared 31 = .ok (.goto (-24), 3) := by decide +kernel
theorem dX8_greatestShared_34 : decode cX8_greatestShared 34 = .ok (.iload_n 2, 1) := by decide +kernel
theorem dX8_greatestShared_35 : decode cX8_greatestShared 35 = .ok (.ireturn, 1) := by decide +kernel
theorem dX9_init_0 : decode cX9_init 0 = .ok (.aload_n 0, 1) := by decide +kernel
theorem dX9_init_1 : decode cX9_init 1 = .ok (.invokespecial 3, 3) := by decide +kernel
theorem dX9_init_4 : decode cX9_init 4 = .ok (.aload_n 0, 1) := by decide +kernel
theorem dX9_init_5 : decode cX9_init 5 = .ok (.bipush 12, 2) := by decide +kernel
theorem dX9_init_7 : decode cX9_init 7 = .ok (.newarray .int, 2) := by decide +kernel
theorem dX9_init_9 : decode cX9_init 9 = .ok (.putfield 9, 3) := by decide +kernel
theorem dX9_init_12 : decode cX9_init 12 = .ok (.aload_n 0, 1) := by decide +kernel
theorem dX9_init_13 : decode cX9_init 13 = .ok (.bipush 12, 2) := by decide +kernel
theorem dX9_init_15 : decode cX9_init 15 = .ok (.newarray .int, 2) := by decide +kernel
theorem dX9_init_17 : decode cX9_init 17 = .ok (.putfield 15, 3) := by decide +kernel
theorem dX9_init_20 : decode cX9_init 20 = .ok (.aload_n 0, 1) := by decide +kernel
theorem dX9_init_21 : decode cX9_init 21 = .ok (.bipush 8, 2) := by decide +kernel
theorem dX9_init_23 : decode cX9_init 23 = .ok (.newarray .int, 2) := by decide +kernel
theorem dX9_init_25 : decode cX9_init 25 = .ok (.putfield 18, 3) := by decide +kernel
theorem dX9_init_28 : decode cX9_init 28 = .ok (.aload_n 0, 1) := by decide +kernel
theorem dX9_init_29 : decode cX9_init 29 = .ok (.bipush 8, 2) := by decide +kernel
theorem dX9_init_31 : decode cX9_init 31 = .ok (.newarray .int, 2) := by decide +kernel
theorem dX9_init_33 : decode cX9_init 33 = .ok (.putfield 21, 3) := by decide +kernel
theorem dX9_init_36 : decode cX9_init 36 = .ok (.return_, 1) := by decide +kernel
theorem dX9_isThere_0 : decode cX9_isThere 0 = .ok (.aload_n 0, 1) := by decide +kernel
theorem dX9_isThere_1 : decode cX9_isThere 1 = .ok (.getfield 24, 3) := by decide +kernel
theorem dX9_isThere_4 : decode cX9_isThere 4 = .ok (.ldc 28, 2) := by decide +kernel
theorem dX9_isThere_6 : decode cX9_isThere 6 = .ok (.if_icmp .ge 7, 3) := by decide +kernel
theorem dX9_isThere_9 : decode cX9_isThere 9 = .ok (.iconst 1, 1) := by decide +kernel
theorem dX9_isThere_10 : decode cX9_isThere 10 = .ok (.goto 4, 3) := by decide +kernel
theorem dX9_isThere_13 : decode cX9_isThere 13 = .ok (.iconst 0, 1) := by decide +kernel
theorem dX9_isThere_14 : decode cX9_isThere 14 = .ok (.ireturn, 1) := by decide +kernel
theorem dX9_setPrice_0 : decode cX9_setPrice 0 = .ok (.aload_n 0, 1) := by decide +kernel
theorem dX9_setPrice_1 : decode cX9_setPrice 1 = .ok (.getfield 9, 3) := by decide +kernel
theorem dX9_setPrice_4 : decode cX9_setPrice 4 = .ok (.iload_n 1, 1) := by decide +kernel
theorem dX9_setPrice_5 : decode cX9_setPrice 5 = .ok (.iaload, 1) := by decide +kernel
theorem dX9_setPrice_6 : decode cX9_setPrice 6 = .ok (.istore_n 3, 1) := by decide +kernel
theorem dX9_setPrice_7 : decode cX9_setPrice 7 = .ok (.iload_n 2, 1) := by decide +kernel
theorem dX9_setPrice_8 : decode cX9_setPrice 8 = .ok (.iload_n 3, 1) := by decide +kernel
theorem dX9_setPrice_9 : decode cX9_setPrice 9 = .ok (.if_icmp .lt 19, 3) := by decide +kernel
theorem dX9_setPrice_12 : decode cX9_setPrice 12 = .ok (.iload_n 2, 1) := by decide +kernel
theorem dX9_setPrice_13 : decode cX9_setPrice 13 = .ok (.iload_n 3, 1) := by decide +kernel
theorem dX9_setPrice_14 : decode cX9_setPrice 14 = .ok (.if_icmp .le 19, 3) := by decide +kernel
theorem dX9_setPrice_17 : decode cX9_setPrice 17 = .ok (.aload_n 0, 1) := by decide +kernel
theorem dX9_setPrice_18 : decode cX9_setPrice 18 = .ok (.getfield 29, 3) := by decide +kernel
theorem dX9_setPrice_21 : decode cX9_setPrice 21 = .ok (.iload_n 1, 1) := by decide +kernel
theorem dX9_setPrice_22 : decode cX9_setPrice 22 = .ok (.ishr, 1) := by decide +kernel
theorem dX9_setPrice_23 : decode cX9_setPrice 23 = .ok (.iconst 1, 1) := by decide +kernel
theorem dX9_setPrice_24 : decode cX9_setPrice 24 = .ok (.iand, 1) := by decide +kernel
theorem dX9_setPrice_25 : decode cX9_setPrice 25 = .ok (.ifCond .eq 8, 3) := by decide +kernel
theorem dX9_setPrice_28 : decode cX9_setPrice 28 = .ok (.aload_n 0, 1) := by decide +kernel
theorem dX9_setPrice_29 : decode cX9_setPrice 29 = .ok (.iconst 0, 1) := by decide +kernel
theorem dX9_setPrice_30 : decode cX9_setPrice 30 = .ok (.putfield 32, 3) := by decide +kernel
theorem dX9_setPrice_33 : decode cX9_setPrice 33 = .ok (.aload_n 0, 1) := by decide +kernel
theorem dX9_setPrice_34 : decode cX9_setPrice 34 = .ok (.getfield 9, 3) := by decide +kernel
theorem dX9_setPrice_37 : decode cX9_setPrice 37 = .ok (.iload_n 1, 1) := by decide +kernel
theorem dX9_setPrice_38 : decode cX9_setPrice 38 = .ok (.iload_n 2, 1) := by decide +kernel
theorem dX9_setPrice_39 : decode cX9_setPrice 39 = .ok (.iastore, 1) := by decide +kernel
theorem dX9_setPrice_40 : decode cX9_setPrice 40 = .ok (.return_, 1) := by decide +kernel
theorem dX9_seek_0 : decode cX9_seek 0 = .ok (.aload_n 0, 1) := by decide +kernel
theorem dX9_seek_1 : decode cX9_seek 1 = .ok (.iconst 1, 1) := by decide +kernel
theorem dX9_seek_2 : decode cX9_seek 2 = .ok (.putfield 32, 3) := by decide +kernel
theorem dX9_seek_5 : decode cX9_seek 5 = .ok (.aload_n 0, 1) := by decide +kernel
theorem dX9_seek_6 : decode cX9_seek 6 = .ok (.iconst 0, 1) := by decide +kernel
theorem dX9_seek_7 : decode cX9_seek 7 = .ok (.putfield 36, 3) := by decide +kernel
theorem dX9_seek_10 : decode cX9_seek 10 = .ok (.aload_n 0, 1) := by decide +kernel
theorem dX9_seek_11 : decode cX9_seek 11 = .ok (.iconst 0, 1) := by decide +kernel
theorem dX9_seek_12 : decode cX9_seek 12 = .ok (.putfield 29, 3) := by decide +kernel
theorem dX9_seek_15 : decode cX9_seek 15 = .ok (.aload_n 1, 1) := by decide +kernel
theorem dX9_seek_16 : decode cX9_seek 16 = .ok (.getfield 39, 3) := by decide +kernel
theorem dX9_seek_19 : decode cX9_seek 19 = .ok (.iload_n 2, 1) := by decide +kernel
theorem dX9_seek_20 : decode cX9_seek 20 = .ok (.iaload, 1) := by decide +kernel
theorem dX9_seek_21 : decode cX9_seek 21 = .ok (.istore_n 3, 1) := by decide +kernel
theorem dX9_seek_22 : decode cX9_seek 22 = .ok (.aload_n 1, 1) := by decide +kernel
theorem dX9_seek_23 : decode cX9_seek 23 = .ok (.getfield 44, 3) := by decide +kernel
theorem dX9_seek_26 : decode cX9_seek 26 = .ok (.iload_n 2, 1) := by decide +kernel
theorem dX9_seek_27 : decode cX9_seek 27 = .ok (.iaload, 1) := by decide +kernel
theorem dX9_seek_28 : decode cX9_seek 28 = .ok (.istore 4, 2) := by decide +kernel
theorem dX9_seek_30 : decode cX9_seek 30 = .ok (.aload_n 0, 1) := by decide +kernel
theorem dX9_seek_31 : decode cX9_seek 31 = .ok (.aload_n 1, 1) := by decide +kernel
theorem dX9_seek_32 : decode cX9_seek 32 = .ok (.iload 4, 2) := by decide +kernel
theorem dX9_seek_34 : decode cX9_seek 34 = .ok (.invokevirtual 47, 3) := by decide +kernel
theorem dX9_seek_37 : decode cX9_seek 37 = .ok (.aload_n 0, 1) := by decide +kernel
theorem dX9_seek_38 : decode cX9_seek 38 = .ok (.aload_n 0, 1) := by decide +kernel
theorem dX9_seek_39 : decode cX9_seek 39 = .ok (.getfield 21, 3) := by decide +kernel
theorem dX9_seek_42 : decode cX9_seek 42 = .ok (.iload_n 3, 1) := by decide +kernel
theorem dX9_seek_43 : decode cX9_seek 43 = .ok (.iaload, 1) := by decide +kernel
theorem dX9_seek_44 : decode cX9_seek 44 = .ok (.putfield 24, 3) := by decide +kernel
theorem dX9_seek_47 : decode cX9_seek 47 = .ok (.aload_n 0, 1) := by decide +kernel
theorem dX9_seek_48 : decode cX9_seek 48 = .ok (.invokevirtual 51, 3) := by decide +kernel
theorem dX9_seek_51 : decode cX9_seek 51 = .ok (.ifCond .ne 4, 3) := by decide +kernel
theorem dX9_seek_54 : decode cX9_seek 54 = .ok (.return_, 1) := by decide +kernel
theorem dX9_seek_55 : decode cX9_seek 55 = .ok (.iload_n 3, 1) := by decide +kernel
theorem dX9_seek_56 : decode cX9_seek 56 = .ok (.istore 5, 2) := by decide +kernel
theorem dX9_seek_58 : decode cX9_seek 58 = .ok (.iconst 0, 1) := by decide +kernel
theorem dX9_seek_59 : decode cX9_seek 59 = .ok (.istore 6, 2) := by decide +kernel
theorem dX9_seek_61 : decode cX9_seek 61 = .ok (.iload 6, 2) := by decide +kernel
theorem dX9_seek_63 : decode cX9_seek 63 = .ok (.bipush 8, 2) := by decide +kernel
theorem dX9_seek_65 : decode cX9_seek 65 = .ok (.if_icmp .ge 25, 3) := by decide +kernel
theorem dX9_seek_68 : decode cX9_seek 68 = .ok (.iload 5, 2) := by decide +kernel
theorem dX9_seek_70 : decode cX9_seek 70 = .ok (.iload 4, 2) := by decide +kernel
theorem dX9_seek_72 : decode cX9_seek 72 = .ok (.if_icmp .eq 18, 3) := by decide +kernel
theorem dX9_seek_75 : decode cX9_seek 75 = .ok (.aload_n 0, 1) := by decide +kernel
theorem dX9_seek_76 : decode cX9_seek 76 = .ok (.aload_n 1, 1) := by decide +kernel
theorem dX9_seek_77 : decode cX9_seek 77 = .ok (.iload 5, 2) := by decide +kernel
theorem dX9_seek_79 : decode cX9_seek 79 = .ok (.invokevirtual 55, 3) := by decide +kernel
theorem dX9_seek_82 : decode cX9_seek 82 = .ok (.istore 5, 2) := by decide +kernel
theorem dX9_seek_84 : decode cX9_seek 84 = .ok (.iinc 6 1, 3) := by decide +kernel
theorem dX9_seek_87 : decode cX9_seek 87 = .ok (.goto (-26), 3) := by decide +kernel
theorem dX9_seek_90 : decode cX9_seek 90 = .ok (.return_, 1) := by decide +kernel
theorem dX9_measure_0 : decode cX9_measure 0 = .ok (.aload_n 0, 1) := by decide +kernel
theorem dX9_measure_1 : decode cX9_measure 1 = .ok (.getfield 21, 3) := by decide +kernel
theorem dX9_measure_4 : decode cX9_measure 4 = .ok (.astore_n 3, 1) := by decide +kernel
theorem dX9_measure_5 : decode cX9_measure 5 = .ok (.aload_n 0, 1) := by decide +kernel
theorem dX9_measure_6 : decode cX9_measure 6 = .ok (.getfield 9, 3) := by decide +kernel
theorem dX9_measure_9 : decode cX9_measure 9 = .ok (.astore 4, 2) := by decide +kernel
theorem dX9_measure_11 : decode cX9_measure 11 = .ok (.aload_n 1, 1) := by decide +kernel
theorem dX9_measure_12 : decode cX9_measure 12 = .ok (.getfield 59, 3) := by decide +kernel
theorem dX9_measure_15 : decode cX9_measure 15 = .ok (.astore 5, 2) := by decide +kernel
theorem dX9_measure_17 : decode cX9_measure 17 = .ok (.aload_n 1, 1) := by decide +kernel
theorem dX9_measure_18 : decode cX9_measure 18 = .ok (.getfield 62, 3) := by decide +kernel
theorem dX9_measure_21 : decode cX9_measure 21 = .ok (.astore 6, 2) := by decide +kernel
theorem dX9_measure_23 : decode cX9_measure 23 = .ok (.aload_n 3, 1) := by decide +kernel
theorem dX9_measure_24 : decode cX9_measure 24 = .ok (.ldc 28, 2) := by decide +kernel
theorem dX9_measure_26 : decode cX9_measure 26 = .ok (.invokestatic 65, 3) := by decide +kernel
theorem dX9_measure_29 : decode cX9_measure 29 = .ok (.aload_n 3, 1) := by decide +kernel
theorem dX9_measure_30 : decode cX9_measure 30 = .ok (.iload_n 2, 1) := by decide +kernel
theorem dX9_measure_31 : decode cX9_measure 31 = .ok (.iconst 0, 1) := by decide +kernel
theorem dX9_measure_32 : decode cX9_measure 32 = .ok (.iastore, 1) := by decide +kernel
theorem dX9_measure_33 : decode cX9_measure 33 = .ok (.iconst 1, 1) := by decide +kernel
theorem dX9_measure_34 : decode cX9_measure 34 = .ok (.istore 7, 2) := by decide +kernel
theorem dX9_measure_36 : decode cX9_measure 36 = .ok (.iconst 0, 1) := by decide +kernel
theorem dX9_measure_37 : decode cX9_measure 37 = .ok (.istore 8, 2) := by decide +kernel
theorem dX9_measure_39 : decode cX9_measure 39 = .ok (.iload 8, 2) := by decide +kernel
theorem dX9_measure_41 : decode cX9_measure 41 = .ok (.bipush 8, 2) := by decide +kernel
theorem dX9_measure_43 : decode cX9_measure 43 = .ok (.if_icmp .ge 119, 3) := by decide +kernel
theorem dX9_measure_46 : decode cX9_measure 46 = .ok (.iload 7, 2) := by decide +kernel
theorem dX9_measure_48 : decode cX9_measure 48 = .ok (.ifCond .eq 114, 3) := by decide +kernel
theorem dX9_measure_51 : decode cX9_measure 51 = .ok (.iconst 0, 1) := by decide +kernel
theorem dX9_measure_52 : decode cX9_measure 52 = .ok (.istore 7, 2) := by decide +kernel
theorem dX9_measure_54 : decode cX9_measure 54 = .ok (.aload_n 1, 1) := by decide +kernel
theorem dX9_measure_55 : decode cX9_measure 55 = .ok (.getfield 71, 3) := by decide +kernel
theorem dX9_measure_58 : decode cX9_measure 58 = .ok (.iconst 1, 1) := by decide +kernel
theorem dX9_measure_59 : decode cX9_measure 59 = .ok (.isub, 1) := by decide +kernel
theorem dX9_measure_60 : decode cX9_measure 60 = .ok (.istore 9, 2) := by decide +kernel
theorem dX9_measure_62 : decode cX9_measure 62 = .ok (.iload 9, 2) := by decide +kernel
theorem dX9_measure_64 : decode cX9_measure 64 = .ok (.ifCond .lt 92, 3) := by decide +kernel
theorem dX9_measure_67 : decode cX9_measure 67 = .ok (.aload_n 3, 1) := by decide +kernel
theorem dX9_measure_68 : decode cX9_measure 68 = .ok (.aload 5, 2) := by decide +kernel
theorem dX9_measure_70 : decode cX9_measure 70 = .ok (.iload 9, 2) := by decide +kernel
theorem dX9_measure_72 : decode cX9_measure 72 = .ok (.iaload, 1) := by decide +kernel
theorem dX9_measure_73 : decode cX9_measure 73 = .ok (.iaload, 1) := by decide +kernel
theorem dX9_measure_74 : decode cX9_measure 74 = .ok (.istore 10, 2) := by decide +kernel
theorem dX9_measure_76 : decode cX9_measure 76 = .ok (.aload_n 3, 1) := by decide +kernel
theorem dX9_measure_77 : decode cX9_measure 77 = .ok (.aload 6, 2) := by decide +kernel
theorem dX9_measure_79 : decode cX9_measure 79 = .ok (.iload 9, 2) := by decide +kernel
theorem dX9_measure_81 : decode cX9_measure 81 = .ok (.iaload, 1) := by decide +kernel
theorem dX9_measure_82 : decode cX9_measure 82 = .ok (.iaload, 1) := by decide +kernel
theorem dX9_measure_83 : decode cX9_measure 83 = .ok (.istore 11, 2) := by decide +kernel
theorem dX9_measure_85 : decode cX9_measure 85 = .ok (.iload 11, 2) := by decide +kernel
theorem dX9_measure_87 : decode cX9_measure 87 = .ok (.aload 4, 2) := by decide +kernel
theorem dX9_measure_89 : decode cX9_measure 89 = .ok (.iload 9, 2) := by decide +kernel
theorem dX9_measure_91 : decode cX9_measure 91 = .ok (.iaload, 1) := by decide +kernel
theorem dX9_measure_92 : decode cX9_measure 92 = .ok (.iadd, 1) := by decide +kernel
theorem dX9_measure_93 : decode cX9_measure 93 = .ok (.iload 10, 2) := by decide +kernel
theorem dX9_measure_95 : decode cX9_measure 95 = .ok (.if_icmp .ge 24, 3) := by decide +kernel
theorem dX9_measure_98 : decode cX9_measure 98 = .ok (.aload_n 3, 1) := by decide +kernel
theorem dX9_measure_99 : decode cX9_measure 99 = .ok (.aload 5, 2) := by decide +kernel
theorem dX9_measure_101 : decode cX9_measure 101 = .ok (.iload 9, 2) := by decide +kernel
theorem dX9_measure_103 : decode cX9_measure 103 = .ok (.iaload, 1) := by decide +kernel
theorem dX9_measure_104 : decode cX9_measure 104 = .ok (.iload 11, 2) := by decide +kernel
theorem dX9_measure_106 : decode cX9_measure 106 = .ok (.aload 4, 2) := by decide +kernel
theorem dX9_measure_108 : decode cX9_measure 108 = .ok (.iload 9, 2) := by decide +kernel
theorem dX9_measure_110 : decode cX9_measure 110 = .ok (.iaload, 1) := by decide +kernel
theorem dX9_measure_111 : decode cX9_measure 111 = .ok (.iadd, 1) := by decide +kernel
theorem dX9_measure_112 : decode cX9_measure 112 = .ok (.iastore, 1) := by decide +kernel
theorem dX9_measure_113 : decode cX9_measure 113 = .ok (.iconst 1, 1) := by decide +kernel
theorem dX9_measure_114 : decode cX9_measure 114 = .ok (.istore 7, 2) := by decide +kernel
theorem dX9_measure_116 : decode cX9_measure 116 = .ok (.goto 34, 3) := by decide +kernel
theorem dX9_measure_119 : decode cX9_measure 119 = .ok (.iload 10, 2) := by decide +kernel
theorem dX9_measure_121 : decode cX9_measure 121 = .ok (.aload 4, 2) := by decide +kernel
theorem dX9_measure_123 : decode cX9_measure 123 = .ok (.iload 9, 2) := by decide +kernel
theorem dX9_measure_125 : decode cX9_measure 125 = .ok (.iaload, 1) := by decide +kernel
theorem dX9_measure_126 : decode cX9_measure 126 = .ok (.iadd, 1) := by decide +kernel
theorem dX9_measure_127 : decode cX9_measure 127 = .ok (.iload 11, 2) := by decide +kernel
theorem dX9_measure_129 : decode cX9_measure 129 = .ok (.if_icmp .ge 21, 3) := by decide +kernel
theorem dX9_measure_132 : decode cX9_measure 132 = .ok (.aload_n 3, 1) := by decide +kernel
theorem dX9_measure_133 : decode cX9_measure 133 = .ok (.aload 6, 2) := by decide +kernel
theorem dX9_measure_135 : decode cX9_measure 135 = .ok (.iload 9, 2) := by decide +kernel
theorem dX9_measure_137 : decode cX9_measure 137 = .ok (.iaload, 1) := by decide +kernel
theorem dX9_measure_138 : decode cX9_measure 138 = .ok (.iload 10, 2) := by decide +kernel
theorem dX9_measure_140 : decode cX9_measure 140 = .ok (.aload 4, 2) := by decide +kernel
theorem dX9_measure_142 : decode cX9_measure 142 = .ok (.iload 9, 2) := by decide +kernel
theorem dX9_measure_144 : decode cX9_measure 144 = .ok (.iaload, 1) := by decide +kernel
theorem dX9_measure_145 : decode cX9_measure 145 = .ok (.iadd, 1) := by decide +kernel
theorem dX9_measure_146 : decode cX9_measure 146 = .ok (.iastore, 1) := by decide +kernel
theorem dX9_measure_147 : decode cX9_measure 147 = .ok (.iconst 1, 1) := by decide +kernel
theorem dX9_measure_148 : decode cX9_measure 148 = .ok (.istore 7, 2) := by decide +kernel
theorem dX9_measure_150 : decode cX9_measure 150 = .ok (.iinc 9 (-1), 3) := by decide +kernel
theorem dX9_measure_153 : decode cX9_measure 153 = .ok (.goto (-91), 3) := by decide +kernel
theorem dX9_measure_156 : decode cX9_measure 156 = .ok (.iinc 8 1, 3) := by decide +kernel
theorem dX9_measure_159 : decode cX9_measure 159 = .ok (.goto (-120), 3) := by decide +kernel
theorem dX9_measure_162 : decode cX9_measure 162 = .ok (.return_, 1) := by decide +kernel
theorem dX9_stepFrom_0 : decode cX9_stepFrom 0 = .ok (.iconst 0, 1) := by decide +kernel
theorem dX9_stepFrom_1 : decode cX9_stepFrom 1 = .ok (.istore_n 3, 1) := by decide +kernel
theorem dX9_stepFrom_2 : decode cX9_stepFrom 2 = .ok (.iload_n 3, 1) := by decide +kernel
theorem dX9_stepFrom_3 : decode cX9_stepFrom 3 = .ok (.aload_n 1, 1) := by decide +kernel
theorem dX9_stepFrom_4 : decode cX9_stepFrom 4 = .ok (.getfield 71, 3) := by decide +kernel
theorem dX9_stepFrom_7 : decode cX9_stepFrom 7 = .ok (.if_icmp .ge 114, 3) := by decide +kernel
theorem dX9_stepFrom_10 : decode cX9_stepFrom 10 = .ok (.aload_n 1, 1) := by decide +kernel
theorem dX9_stepFrom_11 : decode cX9_stepFrom 11 = .ok (.getfield 59, 3) := by decide +kernel
theorem dX9_stepFrom_14 : decode cX9_stepFrom 14 = .ok (.iload_n 3, 1) := by decide +kernel
theorem dX9_stepFrom_15 : decode cX9_stepFrom 15 = .ok (.iaload, 1) := by decide +kernel
theorem dX9_stepFrom_16 : decode cX9_stepFrom 16 = .ok (.iload_n 2, 1) := by decide +kernel
theorem dX9_stepFrom_17 : decode cX9_stepFrom 17 = .ok (.if_icmp .ne 12, 3) := by decide +kernel
theorem dX9_stepFrom_20 : decode cX9_stepFrom 20 = .ok (.aload_n 1, 1) := by decide +kernel
theorem dX9_stepFrom_21 : decode cX9_stepFrom 21 = .ok (.getfield 62, 3) := by decide +kernel
theorem dX9_stepFrom_24 : decode cX9_stepFrom 24 = .ok (.iload_n 3, 1) := by decide +kernel
theorem dX9_stepFrom_25 : decode cX9_stepFrom 25 = .ok (.iaload, 1) := by decide +kernel
theorem dX9_stepFrom_26 : decode cX9_stepFrom 26 = .ok (.goto 23, 3) := by decide +kernel
theorem dX9_stepFrom_29 : decode cX9_stepFrom 29 = .ok (.aload_n 1, 1) := by decide +kernel
theorem dX9_stepFrom_30 : decode cX9_stepFrom 30 = .ok (.getfield 62, 3) := by decide +kernel
theorem dX9_stepFrom_33 : decode cX9_stepFrom 33 = .ok (.iload_n 3, 1) := by decide +kernel
theorem dX9_stepFrom_34 : decode cX9_stepFrom 34 = .ok (.iaload, 1) := by decide +kernel
theorem dX9_stepFrom_35 : decode cX9_stepFrom 35 = .ok (.iload_n 2, 1) := by decide +kernel
theorem dX9_stepFrom_36 : decode cX9_stepFrom 36 = .ok (.if_icmp .ne 12, 3) := by decide +kernel
theorem dX9_stepFrom_39 : decode cX9_stepFrom 39 = .ok (.aload_n 1, 1) := by decide +kernel
theorem dX9_stepFrom_40 : decode cX9_stepFrom 40 = .ok (.getfield 59, 3) := by decide +kernel
theorem dX9_stepFrom_43 : decode cX9_stepFrom 43 = .ok (.iload_n 3, 1) := by decide +kernel
theorem dX9_stepFrom_44 : decode cX9_stepFrom 44 = .ok (.iaload, 1) := by decide +kernel
theorem dX9_stepFrom_45 : decode cX9_stepFrom 45 = .ok (.goto 4, 3) := by decide +kernel
theorem dX9_stepFrom_48 : decode cX9_stepFrom 48 = .ok (.iconst (-1), 1) := by decide +kernel
theorem dX9_stepFrom_49 : decode cX9_stepFrom 49 = .ok (.istore 4, 2) := by decide +kernel
theorem dX9_stepFrom_51 : decode cX9_stepFrom 51 = .ok (.iload 4, 2) := by decide +kernel
theorem dX9_stepFrom_53 : decode cX9_stepFrom 53 = .ok (.iconst (-1), 1) := by decide +kernel
theorem dX9_stepFrom_54 : decode cX9_stepFrom 54 = .ok (.if_icmp .eq 61, 3) := by decide +kernel
theorem dX9_stepFrom_57 : decode cX9_stepFrom 57 = .ok (.aload_n 0, 1) := by decide +kernel
theorem dX9_stepFrom_58 : decode cX9_stepFrom 58 = .ok (.getfield 21, 3) := by decide +kernel
theorem dX9_stepFrom_61 : decode cX9_stepFrom 61 = .ok (.iload 4, 2) := by decide +kernel
theorem dX9_stepFrom_63 : decode cX9_stepFrom 63 = .ok (.iaload, 1) := by decide +kernel
theorem dX9_stepFrom_64 : decode cX9_stepFrom 64 = .ok (.aload_n 0, 1) := by decide +kernel
theorem dX9_stepFrom_65 : decode cX9_stepFrom 65 = .ok (.getfield 9, 3) := by decide +kernel
theorem dX9_stepFrom_68 : decode cX9_stepFrom 68 = .ok (.iload_n 3, 1) := by decide +kernel
theorem dX9_stepFrom_69 : decode cX9_stepFrom 69 = .ok (.iaload, 1) := by decide +kernel
theorem dX9_stepFrom_70 : decode cX9_stepFrom 70 = .ok (.iadd, 1) := by decide +kernel
theorem dX9_stepFrom_71 : decode cX9_stepFrom 71 = .ok (.aload_n 0, 1) := by decide +kernel
theorem dX9_stepFrom_72 : decode cX9_stepFrom 72 = .ok (.getfield 21, 3) := by decide +kernel
theorem dX9_stepFrom_75 : decode cX9_stepFrom 75 = .ok (.iload_n 2, 1) := by decide +kernel
theorem dX9_stepFrom_76 : decode cX9_stepFrom 76 = .ok (.iaload, 1) := by decide +kernel
theorem dX9_stepFrom_77 : decode cX9_stepFrom 77 = .ok (.if_icmp .ne 38, 3) := by decide +kernel
theorem dX9_stepFrom_80 : decode cX9_stepFrom 80 = .ok (.aload_n 0, 1) := by decide +kernel
theorem dX9_stepFrom_81 : decode cX9_stepFrom 81 = .ok (.getfield 18, 3) := by decide +kernel
theorem dX9_stepFrom_84 : decode cX9_stepFrom 84 = .ok (.aload_n 0, 1) := by decide +kernel
theorem dX9_stepFrom_85 : decode cX9_stepFrom 85 = .ok (.getfield 36, 3) := by decide +kernel
theorem dX9_stepFrom_88 : decode cX9_stepFrom 88 = .ok (.iload_n 3, 1) := by decide +kernel
theorem dX9_stepFrom_89 : decode cX9_stepFrom 89 = .ok (.iastore, 1) := by decide +kernel
theorem dX9_stepFrom_90 : decode cX9_stepFrom 90 = .ok (.aload_n 0, 1) := by decide +kernel
theorem dX9_stepFrom_91 : decode cX9_stepFrom 91 = .ok (.dup, 1) := by decide +kernel
theorem dX9_stepFrom_92 : decode cX9_stepFrom 92 = .ok (.getfield 36, 3) := by decide +kernel
theorem dX9_stepFrom_95 : decode cX9_stepFrom 95 = .ok (.iconst 1, 1) := by decide +kernel
theorem dX9_stepFrom_96 : decode cX9_stepFrom 96 = .ok (.iadd, 1) := by decide +kernel
theorem dX9_stepFrom_97 : decode cX9_stepFrom 97 = .ok (.putfield 36, 3) := by decide +kernel
theorem dX9_stepFrom_100 : decode cX9_stepFrom 100 = .ok (.aload_n 0, 1) := by decide +kernel
theorem dX9_stepFrom_101 : decode cX9_stepFrom 101 = .ok (.dup, 1) := by decide +kernel
theorem dX9_stepFrom_102 : decode cX9_stepFrom 102 = .ok (.getfield 29, 3) := by decide +kernel
theorem dX9_stepFrom_105 : decode cX9_stepFrom 105 = .ok (.iconst 1, 1) := by decide +kernel
theorem dX9_stepFrom_106 : decode cX9_stepFrom 106 = .ok (.iload_n 3, 1) := by decide +kernel
theorem dX9_stepFrom_107 : decode cX9_stepFrom 107 = .ok (.ishl, 1) := by decide +kernel
theorem dX9_stepFrom_108 : decode cX9_stepFrom 108 = .ok (.ior, 1) := by decide +kernel
theorem dX9_stepFrom_109 : decode cX9_stepFrom 109 = .ok (.putfield 29, 3) := by decide +kernel
theorem dX9_stepFrom_112 : decode cX9_stepFrom 112 = .ok (.iload 4, 2) := by decide +kernel
theorem dX9_stepFrom_114 : decode cX9_stepFrom 114 = .ok (.ireturn, 1) := by decide +kernel
theorem dX9_stepFrom_115 : decode cX9_stepFrom 115 = .ok (.iinc 3 1, 3) := by decide +kernel
theorem dX9_stepFrom_118 : decode cX9_stepFrom 118 = .ok (.goto (-116), 3) := by decide +kernel
theorem dX9_stepFrom_121 : decode cX9_stepFrom 121 = .ok (.iload_n 2, 1) := by decide +kernel
theorem dX9_stepFrom_122 : decode cX9_stepFrom 122 = .ok (.ireturn, 1) := by decide +kernel
