theorem dX12_costOf_40 : decode cX12_costOf 40 = .ok (.aload_n 0, 1) := by decide +kernel
theorem dX12_costOf_41 : decode cX12_costOf 41 = .ok (.iload_n 1, 1) := by decide +kernel
theorem dX12_costOf_42 : decode cX12_costOf 42 = .ok (.iload_n 2, 1) := by decide +kernel
theorem dX12_costOf_43 : decode cX12_costOf 43 = .ok (.invokevirtual 379, 3) := by decide +kernel
theorem dX12_costOf_46 : decode cX12_costOf 46 = .ok (.iload_n 3, 1) := by decide +kernel
theorem dX12_costOf_47 : decode cX12_costOf 47 = .ok (.aload_n 0, 1) := by decide +kernel
theorem dX12_costOf_48 : decode cX12_costOf 48 = .ok (.iconst 1, 1) := by decide +kernel
theorem dX12_costOf_49 : decode cX12_costOf 49 = .ok (.iconst 5, 1) := by decide +kernel
theorem dX12_costOf_50 : decode cX12_costOf 50 = .ok (.bipush 99, 2) := by decide +kernel
theorem dX12_costOf_52 : decode cX12_costOf 52 = .ok (.invokevirtual 382, 3) := by decide +kernel
theorem dX12_costOf_55 : decode cX12_costOf 55 = .ok (.iadd, 1) := by decide +kernel
theorem dX12_costOf_56 : decode cX12_costOf 56 = .ok (.istore_n 3, 1) := by decide +kernel
theorem dX12_costOf_57 : decode cX12_costOf 57 = .ok (.iload_n 3, 1) := by decide +kernel
theorem dX12_costOf_58 : decode cX12_costOf 58 = .ok (.ireturn, 1) := by decide +kernel
theorem dX12_isDown_0 : decode cX12_isDown 0 = .ok (.iconst 0, 1) := by decide +kernel
theorem dX12_isDown_1 : decode cX12_isDown 1 = .ok (.istore_n 2, 1) := by decide +kernel
theorem dX12_isDown_2 : decode cX12_isDown 2 = .ok (.iload_n 2, 1) := by decide +kernel
theorem dX12_isDown_3 : decode cX12_isDown 3 = .ok (.bipush 9, 2) := by decide +kernel
theorem dX12_isDown_5 : decode cX12_isDown 5 = .ok (.if_icmp .ge 16, 3) := by decide +kernel
theorem dX12_isDown_8 : decode cX12_isDown 8 = .ok (.aload_n 0, 1) := by decide +kernel
theorem dX12_isDown_9 : decode cX12_isDown 9 = .ok (.getfield 128, 3) := by decide +kernel
theorem dX12_isDown_12 : decode cX12_isDown 12 = .ok (.iload_n 2, 1) := by decide +kernel
theorem dX12_isDown_13 : decode cX12_isDown 13 = .ok (.iconst 0, 1) := by decide +kernel
theorem dX12_isDown_14 : decode cX12_isDown 14 = .ok (.iastore, 1) := by decide +kernel
theorem dX12_isDown_15 : decode cX12_isDown 15 = .ok (.iinc 2 1, 3) := by decide +kernel
theorem dX12_isDown_18 : decode cX12_isDown 18 = .ok (.goto (-16), 3) := by decide +kernel
theorem dX12_isDown_21 : decode cX12_isDown 21 = .ok (.aload_n 0, 1) := by decide +kernel
theorem dX12_isDown_22 : decode cX12_isDown 22 = .ok (.getfield 128, 3) := by decide +kernel
theorem dX12_isDown_25 : decode cX12_isDown 25 = .ok (.iconst 5, 1) := by decide +kernel
theorem dX12_isDown_26 : decode cX12_isDown 26 = .ok (.aload_n 0, 1) := by decide +kernel
theorem dX12_isDown_27 : decode cX12_isDown 27 = .ok (.getfield 58, 3) := by decide +kernel
theorem dX12_isDown_30 : decode cX12_isDown 30 = .ok (.bipush 12, 2) := by decide +kernel
theorem dX12_isDown_32 : decode cX12_isDown 32 = .ok (.aload_n 0, 1) := by decide +kernel
theorem dX12_isDown_33 : decode cX12_isDown 33 = .ok (.getfield 263, 3) := by decide +kernel
theorem dX12_isDown_36 : decode cX12_isDown 36 = .ok (.imul, 1) := by decide +kernel
theorem dX12_isDown_37 : decode cX12_isDown 37 = .ok (.iload_n 1, 1) := by decide +kernel
theorem dX12_isDown_38 : decode cX12_isDown 38 = .ok (.iadd, 1) := by decide +kernel
theorem dX12_isDown_39 : decode cX12_isDown 39 = .ok (.iaload, 1) := by decide +kernel
theorem dX12_isDown_40 : decode cX12_isDown 40 = .ok (.iastore, 1) := by decide +kernel
theorem dX12_isDown_41 : decode cX12_isDown 41 = .ok (.aload_n 0, 1) := by decide +kernel
theorem dX12_isDown_42 : decode cX12_isDown 42 = .ok (.getfield 128, 3) := by decide +kernel
theorem dX12_isDown_45 : decode cX12_isDown 45 = .ok (.bipush 7, 2) := by decide +kernel
theorem dX12_isDown_47 : decode cX12_isDown 47 = .ok (.iload_n 1, 1) := by decide +kernel
theorem dX12_isDown_48 : decode cX12_isDown 48 = .ok (.iastore, 1) := by decide +kernel
theorem dX12_isDown_49 : decode cX12_isDown 49 = .ok (.aload_n 0, 1) := by decide +kernel
theorem dX12_isDown_50 : decode cX12_isDown 50 = .ok (.getfield 128, 3) := by decide +kernel
theorem dX12_isDown_53 : decode cX12_isDown 53 = .ok (.bipush 8, 2) := by decide +kernel
theorem dX12_isDown_55 : decode cX12_isDown 55 = .ok (.aload_n 0, 1) := by decide +kernel
theorem dX12_isDown_56 : decode cX12_isDown 56 = .ok (.getfield 137, 3) := by decide +kernel
theorem dX12_isDown_59 : decode cX12_isDown 59 = .ok (.bipush 67, 2) := by decide +kernel
theorem dX12_isDown_61 : decode cX12_isDown 61 = .ok (.iaload, 1) := by decide +kernel
theorem dX12_isDown_62 : decode cX12_isDown 62 = .ok (.iastore, 1) := by decide +kernel
theorem dX12_isDown_63 : decode cX12_isDown 63 = .ok (.aload_n 0, 1) := by decide +kernel
theorem dX12_isDown_64 : decode cX12_isDown 64 = .ok (.getfield 137, 3) := by decide +kernel
theorem dX12_isDown_67 : decode cX12_isDown 67 = .ok (.iload_n 1, 1) := by decide +kernel
theorem dX12_isDown_68 : decode cX12_isDown 68 = .ok (.iaload, 1) := by decide +kernel
theorem dX12_isDown_69 : decode cX12_isDown 69 = .ok (.aload_n 0, 1) := by decide +kernel
theorem dX12_isDown_70 : decode cX12_isDown 70 = .ok (.iconst 2, 1) := by decide +kernel
theorem dX12_isDown_71 : decode cX12_isDown 71 = .ok (.bipush 99, 2) := by decide +kernel
theorem dX12_isDown_73 : decode cX12_isDown 73 = .ok (.sipush 999, 3) := by decide +kernel
theorem dX12_isDown_76 : decode cX12_isDown 76 = .ok (.invokevirtual 382, 3) := by decide +kernel
theorem dX12_isDown_79 : decode cX12_isDown 79 = .ok (.if_icmp .lt 7, 3) := by decide +kernel
theorem dX12_isDown_82 : decode cX12_isDown 82 = .ok (.iconst 1, 1) := by decide +kernel
theorem dX12_isDown_83 : decode cX12_isDown 83 = .ok (.goto 4, 3) := by decide +kernel
theorem dX12_isDown_86 : decode cX12_isDown 86 = .ok (.iconst 0, 1) := by decide +kernel
theorem dX12_isDown_87 : decode cX12_isDown 87 = .ok (.ireturn, 1) := by decide +kernel
theorem dX12_fillsCosts_0 : decode cX12_fillsCosts 0 = .ok (.iconst 0, 1) := by decide +kernel
theorem dX12_fillsCosts_1 : decode cX12_fillsCosts 1 = .ok (.istore_n 2, 1) := by decide +kernel
theorem dX12_fillsCosts_2 : decode cX12_fillsCosts 2 = .ok (.iload_n 2, 1) := by decide +kernel
theorem dX12_fillsCosts_3 : decode cX12_fillsCosts 3 = .ok (.aload_n 0, 1) := by decide +kernel
theorem dX12_fillsCosts_4 : decode cX12_fillsCosts 4 = .ok (.getfield 49, 3) := by decide +kernel
theorem dX12_fillsCosts_7 : decode cX12_fillsCosts 7 = .ok (.aload_n 0, 1) := by decide +kernel
theorem dX12_fillsCosts_8 : decode cX12_fillsCosts 8 = .ok (.getfield 263, 3) := by decide +kernel
theorem dX12_fillsCosts_11 : decode cX12_fillsCosts 11 = .ok (.iaload, 1) := by decide +kernel
theorem dX12_fillsCosts_12 : decode cX12_fillsCosts 12 = .ok (.if_icmp .ge 57, 3) := by decide +kernel
theorem dX12_fillsCosts_15 : decode cX12_fillsCosts 15 = .ok (.aload_n 0, 1) := by decide +kernel
theorem dX12_fillsCosts_16 : decode cX12_fillsCosts 16 = .ok (.getfield 143, 3) := by decide +kernel
theorem dX12_fillsCosts_19 : decode cX12_fillsCosts 19 = .ok (.iload_n 2, 1) := by decide +kernel
theorem dX12_fillsCosts_20 : decode cX12_fillsCosts 20 = .ok (.aload_n 0, 1) := by decide +kernel
theorem dX12_fillsCosts_21 : decode cX12_fillsCosts 21 = .ok (.iload_n 2, 1) := by decide +kernel
theorem dX12_fillsCosts_22 : decode cX12_fillsCosts 22 = .ok (.invokevirtual 394, 3) := by decide +kernel
theorem dX12_fillsCosts_25 : decode cX12_fillsCosts 25 = .ok (.ifCond .eq 7, 3) := by decide +kernel
theorem dX12_fillsCosts_28 : decode cX12_fillsCosts 28 = .ok (.iconst (-1), 1) := by decide +kernel
theorem dX12_fillsCosts_29 : decode cX12_fillsCosts 29 = .ok (.goto 9, 3) := by decide +kernel
theorem dX12_fillsCosts_32 : decode cX12_fillsCosts 32 = .ok (.aload_n 0, 1) := by decide +kernel
theorem dX12_fillsCosts_33 : decode cX12_fillsCosts 33 = .ok (.iload_n 1, 1) := by decide +kernel
theorem dX12_fillsCosts_34 : decode cX12_fillsCosts 34 = .ok (.iload_n 2, 1) := by decide +kernel
theorem dX12_fillsCosts_35 : decode cX12_fillsCosts 35 = .ok (.invokevirtual 397, 3) := by decide +kernel
theorem dX12_fillsCosts_38 : decode cX12_fillsCosts 38 = .ok (.iastore, 1) := by decide +kernel
theorem dX12_fillsCosts_39 : decode cX12_fillsCosts 39 = .ok (.aload_n 0, 1) := by decide +kernel
theorem dX12_fillsCosts_40 : decode cX12_fillsCosts 40 = .ok (.getfield 146, 3) := by decide +kernel
theorem dX12_fillsCosts_43 : decode cX12_fillsCosts 43 = .ok (.iload_n 2, 1) := by decide +kernel
theorem dX12_fillsCosts_44 : decode cX12_fillsCosts 44 = .ok (.aload_n 0, 1) := by decide +kernel
theorem dX12_fillsCosts_45 : decode cX12_fillsCosts 45 = .ok (.iload_n 2, 1) := by decide +kernel
theorem dX12_fillsCosts_46 : decode cX12_fillsCosts 46 = .ok (.invokevirtual 385, 3) := by decide +kernel
theorem dX12_fillsCosts_49 : decode cX12_fillsCosts 49 = .ok (.ifCond .eq 12, 3) := by decide +kernel
theorem dX12_fillsCosts_52 : decode cX12_fillsCosts 52 = .ok (.aload_n 0, 1) := by decide +kernel
theorem dX12_fillsCosts_53 : decode cX12_fillsCosts 53 = .ok (.iload_n 1, 1) := by decide +kernel
theorem dX12_fillsCosts_54 : decode cX12_fillsCosts 54 = .ok (.iload_n 2, 1) := by decide +kernel
theorem dX12_fillsCosts_55 : decode cX12_fillsCosts 55 = .ok (.invokevirtual 388, 3) := by decide +kernel
theorem dX12_fillsCosts_58 : decode cX12_fillsCosts 58 = .ok (.goto 4, 3) := by decide +kernel
theorem dX12_fillsCosts_61 : decode cX12_fillsCosts 61 = .ok (.iconst 0, 1) := by decide +kernel
theorem dX12_fillsCosts_62 : decode cX12_fillsCosts 62 = .ok (.iastore, 1) := by decide +kernel
theorem dX12_fillsCosts_63 : decode cX12_fillsCosts 63 = .ok (.iinc 2 1, 3) := by decide +kernel
theorem dX12_fillsCosts_66 : decode cX12_fillsCosts 66 = .ok (.goto (-64), 3) := by decide +kernel
theorem dX12_fillsCosts_69 : decode cX12_fillsCosts 69 = .ok (.return_, 1) := by decide +kernel
theorem dX12_through_0 : decode cX12_through 0 = .ok (.bipush 12, 2) := by decide +kernel
theorem dX12_through_2 : decode cX12_through 2 = .ok (.aload_n 0, 1) := by decide +kernel
theorem dX12_through_3 : decode cX12_through 3 = .ok (.getfield 263, 3) := by decide +kernel
theorem dX12_through_6 : decode cX12_through 6 = .ok (.imul, 1) := by decide +kernel
theorem dX12_through_7 : decode cX12_through 7 = .ok (.iload_n 1, 1) := by decide +kernel
theorem dX12_through_8 : decode cX12_through 8 = .ok (.iadd, 1) := by decide +kernel
theorem dX12_through_9 : decode cX12_through 9 = .ok (.istore_n 3, 1) := by decide +kernel
theorem dX12_through_10 : decode cX12_through 10 = .ok (.aload_n 0, 1) := by decide +kernel
theorem dX12_through_11 : decode cX12_through 11 = .ok (.getfield 52, 3) := by decide +kernel
theorem dX12_through_14 : decode cX12_through 14 = .ok (.iload_n 3, 1) := by decide +kernel
theorem dX12_through_15 : decode cX12_through 15 = .ok (.iaload, 1) := by decide +kernel
theorem dX12_through_16 : decode cX12_through 16 = .ok (.iload_n 2, 1) := by decide +kernel
theorem dX12_through_17 : decode cX12_through 17 = .ok (.if_icmp .ne 12, 3) := by decide +kernel
theorem dX12_through_20 : decode cX12_through 20 = .ok (.aload_n 0, 1) := by decide +kernel
theorem dX12_through_21 : decode cX12_through 21 = .ok (.getfield 55, 3) := by decide +kernel
theorem dX12_through_24 : decode cX12_through 24 = .ok (.iload_n 3, 1) := by decide +kernel
theorem dX12_through_25 : decode cX12_through 25 = .ok (.iaload, 1) := by decide +kernel
theorem dX12_through_26 : decode cX12_through 26 = .ok (.goto 23, 3) := by decide +kernel
theorem dX12_through_29 : decode cX12_through 29 = .ok (.aload_n 0, 1) := by decide +kernel
theorem dX12_through_30 : decode cX12_through 30 = .ok (.getfield 55, 3) := by decide +kernel
theorem dX12_through_33 : decode cX12_through 33 = .ok (.iload_n 3, 1) := by decide +kernel
theorem dX12_through_34 : decode cX12_through 34 = .ok (.iaload, 1) := by decide +kernel
theorem dX12_through_35 : decode cX12_through 35 = .ok (.iload_n 2, 1) := by decide +kernel
theorem dX12_through_36 : decode cX12_through 36 = .ok (.if_icmp .ne 12, 3) := by decide +kernel
theorem dX12_through_39 : decode cX12_through 39 = .ok (.aload_n 0, 1) := by decide +kernel
theorem dX12_through_40 : decode cX12_through 40 = .ok (.getfield 52, 3) := by decide +kernel
theorem dX12_through_43 : decode cX12_through 43 = .ok (.iload_n 3, 1) := by decide +kernel
theorem dX12_through_44 : decode cX12_through 44 = .ok (.iaload, 1) := by decide +kernel
theorem dX12_through_45 : decode cX12_through 45 = .ok (.goto 4, 3) := by decide +kernel
theorem dX12_through_48 : decode cX12_through 48 = .ok (.iconst (-1), 1) := by decide +kernel
theorem dX12_through_49 : decode cX12_through 49 = .ok (.ireturn, 1) := by decide +kernel
theorem dX12_fillsLeft_0 : decode cX12_fillsLeft 0 = .ok (.iconst 0, 1) := by decide +kernel
theorem dX12_fillsLeft_1 : decode cX12_fillsLeft 1 = .ok (.istore_n 2, 1) := by decide +kernel
theorem dX12_fillsLeft_2 : decode cX12_fillsLeft 2 = .ok (.iload_n 2, 1) := by decide +kernel
theorem dX12_fillsLeft_3 : decode cX12_fillsLeft 3 = .ok (.bipush 8, 2) := by decide +kernel
theorem dX12_fillsLeft_5 : decode cX12_fillsLeft 5 = .ok (.if_icmp .ge 25, 3) := by decide +kernel
theorem dX12_fillsLeft_8 : decode cX12_fillsLeft 8 = .ok (.aload_n 0, 1) := by decide +kernel
theorem dX12_fillsLeft_9 : decode cX12_fillsLeft 9 = .ok (.getfield 140, 3) := by decide +kernel
theorem dX12_fillsLeft_12 : decode cX12_fillsLeft 12 = .ok (.iload_n 2, 1) := by decide +kernel
theorem dX12_fillsLeft_13 : decode cX12_fillsLeft 13 = .ok (.iload_n 2, 1) := by decide +kernel
theorem dX12_fillsLeft_14 : decode cX12_fillsLeft 14 = .ok (.iload_n 1, 1) := by decide +kernel
theorem dX12_fillsLeft_15 : decode cX12_fillsLeft 15 = .ok (.if_icmp .ne 7, 3) := by decide +kernel
theorem dX12_fillsLeft_18 : decode cX12_fillsLeft 18 = .ok (.iconst 0, 1) := by decide +kernel
theorem dX12_fillsLeft_19 : decode cX12_fillsLeft 19 = .ok (.goto 4, 3) := by decide +kernel
theorem dX12_fillsLeft_22 : decode cX12_fillsLeft 22 = .ok (.iconst (-1), 1) := by decide +kernel
theorem dX12_fillsLeft_23 : decode cX12_fillsLeft 23 = .ok (.iastore, 1) := by decide +kernel
theorem dX12_fillsLeft_24 : decode cX12_fillsLeft 24 = .ok (.iinc 2 1, 3) := by decide +kernel
theorem dX12_fillsLeft_27 : decode cX12_fillsLeft 27 = .ok (.goto (-25), 3) := by decide +kernel
theorem dX12_fillsLeft_30 : decode cX12_fillsLeft 30 = .ok (.iconst 0, 1) := by decide +kernel
theorem dX12_fillsLeft_31 : decode cX12_fillsLeft 31 = .ok (.istore_n 2, 1) := by decide +kernel
theorem dX12_fillsLeft_32 : decode cX12_fillsLeft 32 = .ok (.iload_n 2, 1) := by decide +kernel
theorem dX12_fillsLeft_33 : decode cX12_fillsLeft 33 = .ok (.bipush 8, 2) := by decide +kernel
theorem dX12_fillsLeft_35 : decode cX12_fillsLeft 35 = .ok (.if_icmp .ge 135, 3) := by decide +kernel
theorem dX12_fillsLeft_38 : decode cX12_fillsLeft 38 = .ok (.iconst 0, 1) := by decide +kernel
theorem dX12_fillsLeft_39 : decode cX12_fillsLeft 39 = .ok (.istore_n 3, 1) := by decide +kernel
theorem dX12_fillsLeft_40 : decode cX12_fillsLeft 40 = .ok (.iload_n 3, 1) := by decide +kernel
theorem dX12_fillsLeft_41 : decode cX12_fillsLeft 41 = .ok (.aload_n 0, 1) := by decide +kernel
theorem dX12_fillsLeft_42 : decode cX12_fillsLeft 42 = .ok (.getfield 46, 3) := by decide +kernel
theorem dX12_fillsLeft_45 : decode cX12_fillsLeft 45 = .ok (.aload_n 0, 1) := by decide +kernel
theorem dX12_fillsLeft_46 : decode cX12_fillsLeft 46 = .ok (.getfield 263, 3) := by decide +kernel
theorem dX12_fillsLeft_49 : decode cX12_fillsLeft 49 = .ok (.iaload, 1) := by decide +kernel
theorem dX12_fillsLeft_50 : decode cX12_fillsLeft 50 = .ok (.if_icmp .ge 114, 3) := by decide +kernel
theorem dX12_fillsLeft_53 : decode cX12_fillsLeft 53 = .ok (.iconst 0, 1) := by decide +kernel
theorem dX12_fillsLeft_54 : decode cX12_fillsLeft 54 = .ok (.istore 4, 2) := by decide +kernel
theorem dX12_fillsLeft_56 : decode cX12_fillsLeft 56 = .ok (.iload 4, 2) := by decide +kernel
theorem dX12_fillsLeft_58 : decode cX12_fillsLeft 58 = .ok (.aload_n 0, 1) := by decide +kernel
theorem dX12_fillsLeft_59 : decode cX12_fillsLeft 59 = .ok (.getfield 49, 3) := by decide +kernel
theorem dX12_fillsLeft_62 : decode cX12_fillsLeft 62 = .ok (.aload_n 0, 1) := by decide +kernel
theorem dX12_fillsLeft_63 : decode cX12_fillsLeft 63 = .ok (.getfield 263, 3) := by decide +kernel
theorem dX12_fillsLeft_66 : decode cX12_fillsLeft 66 = .ok (.iaload, 1) := by decide +kernel
theorem dX12_fillsLeft_67 : decode cX12_fillsLeft 67 = .ok (.if_icmp .ge 91, 3) := by decide +kernel
theorem dX12_fillsLeft_70 : decode cX12_fillsLeft 70 = .ok (.aload_n 0, 1) := by decide +kernel
theorem dX12_fillsLeft_71 : decode cX12_fillsLeft 71 = .ok (.iload 4, 2) := by decide +kernel
theorem dX12_fillsLeft_73 : decode cX12_fillsLeft 73 = .ok (.iload_n 3, 1) := by decide +kernel
theorem dX12_fillsLeft_74 : decode cX12_fillsLeft 74 = .ok (.invokevirtual 400, 3) := by decide +kernel
theorem dX12_fillsLeft_77 : decode cX12_fillsLeft 77 = .ok (.istore 5, 2) := by decide +kernel
theorem dX12_fillsLeft_79 : decode cX12_fillsLeft 79 = .ok (.iload 5, 2) := by decide +kernel
theorem dX12_fillsLeft_81 : decode cX12_fillsLeft 81 = .ok (.ifCond .lt 71, 3) := by decide +kernel
theorem dX12_fillsLeft_84 : decode cX12_fillsLeft 84 = .ok (.aload_n 0, 1) := by decide +kernel
theorem dX12_fillsLeft_85 : decode cX12_fillsLeft 85 = .ok (.getfield 143, 3) := by decide +kernel
theorem dX12_fillsLeft_88 : decode cX12_fillsLeft 88 = .ok (.iload 4, 2) := by decide +kernel
theorem dX12_fillsLeft_90 : decode cX12_fillsLeft 90 = .ok (.iaload, 1) := by decide +kernel
theorem dX12_fillsLeft_91 : decode cX12_fillsLeft 91 = .ok (.ifCond .lt 61, 3) := by decide +kernel
theorem dX12_fillsLeft_94 : decode cX12_fillsLeft 94 = .ok (.aload_n 0, 1) := by decide +kernel
theorem dX12_fillsLeft_95 : decode cX12_fillsLeft 95 = .ok (.getfield 140, 3) := by decide +kernel
theorem dX12_fillsLeft_98 : decode cX12_fillsLeft 98 = .ok (.iload 5, 2) := by decide +kernel
theorem dX12_fillsLeft_100 : decode cX12_fillsLeft 100 = .ok (.iaload, 1) := by decide +kernel
theorem dX12_fillsLeft_101 : decode cX12_fillsLeft 101 = .ok (.ifCond .ge 6, 3) := by decide +kernel
theorem dX12_fillsLeft_104 : decode cX12_fillsLeft 104 = .ok (.goto 48, 3) := by decide +kernel
theorem dX12_fillsLeft_107 : decode cX12_fillsLeft 107 = .ok (.aload_n 0, 1) := by decide +kernel
theorem dX12_fillsLeft_108 : decode cX12_fillsLeft 108 = .ok (.getfield 143, 3) := by decide +kernel
theorem dX12_fillsLeft_111 : decode cX12_fillsLeft 111 = .ok (.iload 4, 2) := by decide +kernel
theorem dX12_fillsLeft_113 : decode cX12_fillsLeft 113 = .ok (.iaload, 1) := by decide +kernel
theorem dX12_fillsLeft_114 : decode cX12_fillsLeft 114 = .ok (.aload_n 0, 1) := by decide +kernel
theorem dX12_fillsLeft_115 : decode cX12_fillsLeft 115 = .ok (.getfield 140, 3) := by decide +kernel
theorem dX12_fillsLeft_118 : decode cX12_fillsLeft 118 = .ok (.iload 5, 2) := by decide +kernel
theorem dX12_fillsLeft_120 : decode cX12_fillsLeft 120 = .ok (.iaload, 1) := by decide +kernel
theorem dX12_fillsLeft_121 : decode cX12_fillsLeft 121 = .ok (.iadd, 1) := by decide +kernel
theorem dX12_fillsLeft_122 : decode cX12_fillsLeft 122 = .ok (.istore 6, 2) := by decide +kernel
theorem dX12_fillsLeft_124 : decode cX12_fillsLeft 124 = .ok (.aload_n 0, 1) := by decide +kernel
theorem dX12_fillsLeft_125 : decode cX12_fillsLeft 125 = .ok (.getfield 140, 3) := by decide +kernel
theorem dX12_fillsLeft_128 : decode cX12_fillsLeft 128 = .ok (.iload_n 3, 1) := by decide +kernel
theorem dX12_fillsLeft_129 : decode cX12_fillsLeft 129 = .ok (.iaload, 1) := by decide +kernel
theorem dX12_fillsLeft_130 : decode cX12_fillsLeft 130 = .ok (.ifCond .lt 14, 3) := by decide +kernel
theorem dX12_fillsLeft_133 : decode cX12_fillsLeft 133 = .ok (.iload 6, 2) := by decide +kernel
theorem dX12_fillsLeft_135 : decode cX12_fillsLeft 135 = .ok (.aload_n 0, 1) := by decide +kernel
theorem dX12_fillsLeft_136 : decode cX12_fillsLeft 136 = .ok (.getfield 140, 3) := by decide +kernel
theorem dX12_fillsLeft_139 : decode cX12_fillsLeft 139 = .ok (.iload_n 3, 1) := by decide +kernel
theorem dX12_fillsLeft_140 : decode cX12_fillsLeft 140 = .ok (.iaload, 1) := by decide +kernel
theorem dX12_fillsLeft_141 : decode cX12_fillsLeft 141 = .ok (.if_icmp .ge 11, 3) := by decide +kernel
theorem dX12_fillsLeft_144 : decode cX12_fillsLeft 144 = .ok (.aload_n 0, 1) := by decide +kernel
theorem dX12_fillsLeft_145 : decode cX12_fillsLeft 145 = .ok (.getfield 140, 3) := by decide +kernel
theorem dX12_fillsLeft_148 : decode cX12_fillsLeft 148 = .ok (.iload_n 3, 1) := by decide +kernel
theorem dX12_fillsLeft_149 : decode cX12_fillsLeft 149 = .ok (.iload 6, 2) := by decide +kernel
theorem dX12_fillsLeft_151 : decode cX12_fillsLeft 151 = .ok (.iastore, 1) := by decide +kernel
theorem dX12_fillsLeft_152 : decode cX12_fillsLeft 152 = .ok (.iinc 4 1, 3) := by decide +kernel
theorem dX12_fillsLeft_155 : decode cX12_fillsLeft 155 = .ok (.goto (-99), 3) := by decide +kernel
theorem dX12_fillsLeft_158 : decode cX12_fillsLeft 158 = .ok (.iinc 3 1, 3) := by decide +kernel
theorem dX12_fillsLeft_161 : decode cX12_fillsLeft 161 = .ok (.goto (-121), 3) := by decide +kernel
theorem dX12_fillsLeft_164 : decode cX12_fillsLeft 164 = .ok (.iinc 2 1, 3) := by decide +kernel
theorem dX12_fillsLeft_167 : decode cX12_fillsLeft 167 = .ok (.goto (-135), 3) := by decide +kernel
theorem dX12_fillsLeft_170 : decode cX12_fillsLeft 170 = .ok (.return_, 1) := by decide +kernel
theorem dX12_firstRoad_0 : decode cX12_firstRoad 0 = .ok (.iconst 0, 1) := by decide +kernel
theorem dX12_firstRoad_1 : decode cX12_firstRoad 1 = .ok (.istore_n 2, 1) := by decide +kernel
theorem dX12_firstRoad_2 : decode cX12_firstRoad 2 = .ok (.iload_n 2, 1) := by decide +kernel
theorem dX12_firstRoad_3 : decode cX12_firstRoad 3 = .ok (.aload_n 0, 1) := by decide +kernel
theorem dX12_firstRoad_4 : decode cX12_firstRoad 4 = .ok (.getfield 49, 3) := by decide +kernel
theorem dX12_firstRoad_7 : decode cX12_firstRoad 7 = .ok (.aload_n 0, 1) := by decide +kernel
theorem dX12_firstRoad_8 : decode cX12_firstRoad 8 = .ok (.getfield 263, 3) := by decide +kernel
theorem dX12_firstRoad_11 : decode cX12_firstRoad 11 = .ok (.iaload, 1) := by decide +kernel
theorem dX12_firstRoad_12 : decode cX12_firstRoad 12 = .ok (.if_icmp .ge 62, 3) := by decide +kernel
theorem dX12_firstRoad_15 : decode cX12_firstRoad 15 = .ok (.aload_n 0, 1) := by decide +kernel
theorem dX12_firstRoad_16 : decode cX12_firstRoad 16 = .ok (.iload_n 2, 1) := by decide +kernel
theorem dX12_firstRoad_17 : decode cX12_firstRoad 17 = .ok (.iload_n 1, 1) := by decide +kernel
theorem dX12_firstRoad_18 : decode cX12_firstRoad 18 = .ok (.invokevirtual 400, 3) := by decide +kernel
theorem dX12_firstRoad_21 : decode cX12_firstRoad 21 = .ok (.istore_n 3, 1) := by decide +kernel
theorem dX12_firstRoad_22 : decode cX12_firstRoad 22 = .ok (.iload_n 3, 1) := by decide +kernel
theorem dX12_firstRoad_23 : decode cX12_firstRoad 23 = .ok (.ifCond .lt 45, 3) := by decide +kernel
theorem dX12_firstRoad_26 : decode cX12_firstRoad 26 = .ok (.aload_n 0, 1) := by decide +kernel
theorem dX12_firstRoad_27 : decode cX12_firstRoad 27 = .ok (.getfield 143, 3) := by decide +kernel
theorem dX12_firstRoad_30 : decode cX12_firstRoad 30 = .ok (.iload_n 2, 1) := by decide +kernel
theorem dX12_firstRoad_31 : decode cX12_firstRoad 31 = .ok (.iaload, 1) := by decide +kernel
theorem dX12_firstRoad_32 : decode cX12_firstRoad 32 = .ok (.ifCond .lt 36, 3) := by decide +kernel
theorem dX12_firstRoad_35 : decode cX12_firstRoad 35 = .ok (.aload_n 0, 1) := by decide +kernel
theorem dX12_firstRoad_36 : decode cX12_firstRoad 36 = .ok (.getfield 140, 3) := by decide +kernel
theorem dX12_firstRoad_39 : decode cX12_firstRoad 39 = .ok (.iload_n 3, 1) := by decide +kernel
theorem dX12_firstRoad_40 : decode cX12_firstRoad 40 = .ok (.iaload, 1) := by decide +kernel
theorem dX12_firstRoad_41 : decode cX12_firstRoad 41 = .ok (.ifCond .lt 27, 3) := by decide +kernel
theorem dX12_firstRoad_44 : decode cX12_firstRoad 44 = .ok (.aload_n 0, 1) := by decide +kernel
theorem dX12_firstRoad_45 : decode cX12_firstRoad 45 = .ok (.getfield 143, 3) := by decide +kernel
theorem dX12_firstRoad_48 : decode cX12_firstRoad 48 = .ok (.iload_n 2, 1) := by decide +kernel
theorem dX12_firstRoad_49 : decode cX12_firstRoad 49 = .ok (.iaload, 1) := by decide +kernel
theorem dX12_firstRoad_50 : decode cX12_firstRoad 50 = .ok (.aload_n 0, 1) := by decide +kernel
theorem dX12_firstRoad_51 : decode cX12_firstRoad 51 = .ok (.getfield 140, 3) := by decide +kernel
theorem dX12_firstRoad_54 : decode cX12_firstRoad 54 = .ok (.iload_n 3, 1) := by decide +kernel
theorem dX12_firstRoad_55 : decode cX12_firstRoad 55 = .ok (.iaload, 1) := by decide +kernel
theorem dX12_firstRoad_56 : decode cX12_firstRoad 56 = .ok (.iadd, 1) := by decide +kernel
theorem dX12_firstRoad_57 : decode cX12_firstRoad 57 = .ok (.aload_n 0, 1) := by decide +kernel
theorem dX12_firstRoad_58 : decode cX12_firstRoad 58 = .ok (.getfield 140, 3) := by decide +kernel
theorem dX12_firstRoad_61 : decode cX12_firstRoad 61 = .ok (.iload_n 1, 1) := by decide +kernel
theorem dX12_firstRoad_62 : decode cX12_firstRoad 62 = .ok (.iaload, 1) := by decide +kernel
theorem dX12_firstRoad_63 : decode cX12_firstRoad 63 = .ok (.if_icmp .ne 5, 3) := by decide +kernel
theorem dX12_firstRoad_66 : decode cX12_firstRoad 66 = .ok (.iload_n 2, 1) := by decide +kernel
theorem dX12_firstRoad_67 : decode cX12_firstRoad 67 = .ok (.ireturn, 1) := by decide +kernel
theorem dX12_firstRoad_68 : decode cX12_firstRoad 68 = .ok (.iinc 2 1, 3) := by decide +kernel
theorem dX12_firstRoad_71 : decode cX12_firstRoad 71 = .ok (.goto (-69), 3) := by decide +kernel
theorem dX12_firstRoad_74 : decode cX12_firstRoad 74 = .ok (.iconst (-1), 1) := by decide +kernel
theorem dX12_firstRoad_75 : decode cX12_firstRoad 75 = .ok (.ireturn, 1) := by decide +kernel
theorem dX12_findsWay_0 : decode cX12_findsWay 0 = .ok (.aload_n 0, 1) := by decide +kernel
theorem dX12_findsWay_1 : decode cX12_findsWay 1 = .ok (.iload_n 1, 1) := by decide +kernel
theorem dX12_findsWay_2 : decode cX12_findsWay 2 = .ok (.invokevirtual 403, 3) := by decide +kernel
theorem dX12_findsWay_5 : decode cX12_findsWay 5 = .ok (.aload_n 0, 1) := by decide +kernel
theorem dX12_findsWay_6 : decode cX12_findsWay 6 = .ok (.getfield 74, 3) := by decide +kernel
theorem dX12_findsWay_9 : decode cX12_findsWay 9 = .ok (.bipush 7, 2) := by decide +kernel
theorem dX12_findsWay_11 : decode cX12_findsWay 11 = .ok (.aload_n 0, 1) := by decide +kernel
theorem dX12_findsWay_12 : decode cX12_findsWay 12 = .ok (.getfield 263, 3) := by decide +kernel
theorem dX12_findsWay_15 : decode cX12_findsWay 15 = .ok (.imul, 1) := by decide +kernel
theorem dX12_findsWay_16 : decode cX12_findsWay 16 = .ok (.iload_n 1, 1) := by decide +kernel
theorem dX12_findsWay_17 : decode cX12_findsWay 17 = .ok (.iadd, 1) := by decide +kernel
theorem dX12_findsWay_18 : decode cX12_findsWay 18 = .ok (.iaload, 1) := by decide +kernel
theorem dX12_findsWay_19 : decode cX12_findsWay 19 = .ok (.istore_n 2, 1) := by decide +kernel
theorem dX12_findsWay_20 : decode cX12_findsWay 20 = .ok (.aload_n 0, 1) := by decide +kernel
theorem dX12_findsWay_21 : decode cX12_findsWay 21 = .ok (.iload_n 2, 1) := by decide +kernel
theorem dX12_findsWay_22 : decode cX12_findsWay 22 = .ok (.invokevirtual 406, 3) := by decide +kernel
theorem dX12_findsWay_25 : decode cX12_findsWay 25 = .ok (.aload_n 0, 1) := by decide +kernel
theorem dX12_findsWay_26 : decode cX12_findsWay 26 = .ok (.getfield 71, 3) := by decide +kernel
theorem dX12_findsWay_29 : decode cX12_findsWay 29 = .ok (.bipush 7, 2) := by decide +kernel
theorem dX12_findsWay_31 : decode cX12_findsWay 31 = .ok (.aload_n 0, 1) := by decide +kernel
theorem dX12_findsWay_32 : decode cX12_findsWay 32 = .ok (.getfield 263, 3) := by decide +kernel
theorem dX12_findsWay_35 : decode cX12_findsWay 35 = .ok (.imul, 1) := by decide +kernel
theorem dX12_findsWay_36 : decode cX12_findsWay 36 = .ok (.iload_n 1, 1) := by decide +kernel
theorem dX12_findsWay_37 : decode cX12_findsWay 37 = .ok (.iadd, 1) := by decide +kernel
theorem dX12_findsWay_38 : decode cX12_findsWay 38 = .ok (.iaload, 1) := by decide +kernel
theorem dX12_findsWay_39 : decode cX12_findsWay 39 = .ok (.istore_n 3, 1) := by decide +kernel
theorem dX12_findsWay_40 : decode cX12_findsWay 40 = .ok (.aload_n 0, 1) := by decide +kernel
theorem dX12_findsWay_41 : decode cX12_findsWay 41 = .ok (.iconst 0, 1) := by decide +kernel
theorem dX12_findsWay_42 : decode cX12_findsWay 42 = .ok (.putfield 409, 3) := by decide +kernel
theorem dX12_findsWay_45 : decode cX12_findsWay 45 = .ok (.aload_n 0, 1) := by decide +kernel
theorem dX12_findsWay_46 : decode cX12_findsWay 46 = .ok (.getfield 140, 3) := by decide +kernel
theorem dX12_findsWay_49 : decode cX12_findsWay 49 = .ok (.iload_n 3, 1) := by decide +kernel
theorem dX12_findsWay_50 : decode cX12_findsWay 50 = .ok (.iaload, 1) := by decide +kernel
theorem dX12_findsWay_51 : decode cX12_findsWay 51 = .ok (.ifCond .ge 5, 3) := by decide +kernel
theorem dX12_findsWay_54 : decode cX12_findsWay 54 = .ok (.iconst 0, 1) := by decide +kernel
theorem dX12_findsWay_55 : decode cX12_findsWay 55 = .ok (.ireturn, 1) := by decide +kernel
theorem dX12_findsWay_56 : decode cX12_findsWay 56 = .ok (.iload_n 3, 1) := by decide +kernel
theorem dX12_findsWay_57 : decode cX12_findsWay 57 = .ok (.iload_n 2, 1) := by decide +kernel
theorem dX12_findsWay_58 : decode cX12_findsWay 58 = .ok (.if_icmp .eq 42, 3) := by decide +kernel
theorem dX12_findsWay_61 : decode cX12_findsWay 61 = .ok (.aload_n 0, 1) := by decide +kernel
theorem dX12_findsWay_62 : decode cX12_findsWay 62 = .ok (.iload_n 3, 1) := by decide +kernel
theorem dX12_findsWay_63 : decode cX12_findsWay 63 = .ok (.invokevirtual 412, 3) := by decide +kernel
theorem dX12_findsWay_66 : decode cX12_findsWay 66 = .ok (.istore 4, 2) := by decide +kernel
theorem dX12_findsWay_68 : decode cX12_findsWay 68 = .ok (.aload_n 0, 1) := by decide +kernel
theorem dX12_findsWay_69 : decode cX12_findsWay 69 = .ok (.getfield 149, 3) := by decide +kernel
theorem dX12_findsWay_72 : decode cX12_findsWay 72 = .ok (.aload_n 0, 1) := by decide +kernel
theorem dX12_findsWay_73 : decode cX12_findsWay 73 = .ok (.getfield 409, 3) := by decide +kernel
theorem dX12_findsWay_76 : decode cX12_findsWay 76 = .ok (.iload 4, 2) := by decide +kernel
theorem dX12_findsWay_78 : decode cX12_findsWay 78 = .ok (.iastore, 1) := by decide +kernel
theorem dX12_findsWay_79 : decode cX12_findsWay 79 = .ok (.aload_n 0, 1) := by decide +kernel
theorem dX12_findsWay_80 : decode cX12_findsWay 80 = .ok (.dup, 1) := by decide +kernel
theorem dX12_findsWay_81 : decode cX12_findsWay 81 = .ok (.getfield 409, 3) := by decide +kernel
theorem dX12_findsWay_84 : decode cX12_findsWay 84 = .ok (.iconst 1, 1) := by decide +kernel
theorem dX12_findsWay_85 : decode cX12_findsWay 85 = .ok (.iadd, 1) := by decide +kernel
theorem dX12_findsWay_86 : decode cX12_findsWay 86 = .ok (.putfield 409, 3) := by decide +kernel
theorem dX12_findsWay_89 : decode cX12_findsWay 89 = .ok (.aload_n 0, 1) := by decide +kernel
theorem dX12_findsWay_90 : decode cX12_findsWay 90 = .ok (.iload 4, 2) := by decide +kernel
theorem dX12_findsWay_92 : decode cX12_findsWay 92 = .ok (.iload_n 3, 1) := by decide +kernel
theorem dX12_findsWay_93 : decode cX12_findsWay 93 = .ok (.invokevirtual 400, 3) := by decide +kernel
theorem dX12_findsWay_96 : decode cX12_findsWay 96 = .ok (.istore_n 3, 1) := by decide +kernel
theorem dX12_findsWay_97 : decode cX12_findsWay 97 = .ok (.goto (-41), 3) := by decide +kernel
theorem dX12_findsWay_100 : decode cX12_findsWay 100 = .ok (.iconst 1, 1) := by decide +kernel
theorem dX12_findsWay_101 : decode cX12_findsWay 101 = .ok (.ireturn, 1) := by decide +kernel
theorem dX12_goesHis_0 : decode cX12_goesHis 0 = .ok (.aload_n 0, 1) := by decide +kernel
theorem dX12_goesHis_1 : decode cX12_goesHis 1 = .ok (.getfield 80, 3) := by decide +kernel
theorem dX12_goesHis_4 : decode cX12_goesHis 4 = .ok (.bipush 7, 2) := by decide +kernel
theorem dX12_goesHis_6 : decode cX12_goesHis 6 = .ok (.aload_n 0, 1) := by decide +kernel
theorem dX12_goesHis_7 : decode cX12_goesHis 7 = .ok (.getfield 263, 3) := by decide +kernel
theorem dX12_goesHis_10 : decode cX12_goesHis 10 = .ok (.imul, 1) := by decide +kernel
theorem dX12_goesHis_11 : decode cX12_goesHis 11 = .ok (.iload_n 1, 1) := by decide +kernel
theorem dX12_goesHis_12 : decode cX12_goesHis 12 = .ok (.iadd, 1) := by decide +kernel
theorem dX12_goesHis_13 : decode cX12_goesHis 13 = .ok (.iaload, 1) := by decide +kernel
theorem dX12_goesHis_14 : decode cX12_goesHis 14 = .ok (.istore_n 2, 1) := by decide +kernel
theorem dX12_goesHis_15 : decode cX12_goesHis 15 = .ok (.aload_n 0, 1) := by decide +kernel
theorem dX12_goesHis_16 : decode cX12_goesHis 16 = .ok (.getfield 137, 3) := by decide +kernel
theorem dX12_goesHis_19 : decode cX12_goesHis 19 = .ok (.bipush 43, 2) := by decide +kernel
theorem dX12_goesHis_21 : decode cX12_goesHis 21 = .ok (.iload_n 1, 1) := by decide +kernel
theorem dX12_goesHis_22 : decode cX12_goesHis 22 = .ok (.iadd, 1) := by decide +kernel
theorem dX12_goesHis_23 : decode cX12_goesHis 23 = .ok (.dup2, 1) := by decide +kernel
theorem dX12_goesHis_24 : decode cX12_goesHis 24 = .ok (.iaload, 1) := by decide +kernel
theorem dX12_goesHis_25 : decode cX12_goesHis 25 = .ok (.iconst 1, 1) := by decide +kernel
theorem dX12_goesHis_26 : decode cX12_goesHis 26 = .ok (.iadd, 1) := by decide +kernel
theorem dX12_goesHis_27 : decode cX12_goesHis 27 = .ok (.iastore, 1) := by decide +kernel
theorem dX12_goesHis_28 : decode cX12_goesHis 28 = .ok (.iconst 0, 1) := by decide +kernel
theorem dX12_goesHis_29 : decode cX12_goesHis 29 = .ok (.istore_n 3, 1) := by decide +kernel
theorem dX12_goesHis_30 : decode cX12_goesHis 30 = .ok (.iload_n 3, 1) := by decide +kernel
theorem dX12_goesHis_31 : decode cX12_goesHis 31 = .ok (.aload_n 0, 1) := by decide +kernel
theorem dX12_goesHis_32 : decode cX12_goesHis 32 = .ok (.getfield 409, 3) := by decide +kernel
theorem dX12_goesHis_35 : decode cX12_goesHis 35 = .ok (.if_icmp .ge 137, 3) := by decide +kernel
theorem dX12_goesHis_38 : decode cX12_goesHis 38 = .ok (.aload_n 0, 1) := by decide +kernel
theorem dX12_goesHis_39 : decode cX12_goesHis 39 = .ok (.getfield 149, 3) := by decide +kernel
theorem dX12_goesHis_42 : decode cX12_goesHis 42 = .ok (.iload_n 3, 1) := by decide +kernel
theorem dX12_goesHis_43 : decode cX12_goesHis 43 = .ok (.iaload, 1) := by decide +kernel
theorem dX12_goesHis_44 : decode cX12_goesHis 44 = .ok (.istore 4, 2) := by decide +kernel
theorem dX12_goesHis_46 : decode cX12_goesHis 46 = .ok (.aload_n 0, 1) := by decide +kernel
theorem dX12_goesHis_47 : decode cX12_goesHis 47 = .ok (.getfield 146, 3) := by decide +kernel
theorem dX12_goesHis_50 : decode cX12_goesHis 50 = .ok (.iload 4, 2) := by decide +kernel
theorem dX12_goesHis_52 : decode cX12_goesHis 52 = .ok (.iaload, 1) := by decide +kernel
theorem dX12_goesHis_53 : decode cX12_goesHis 53 = .ok (.iload_n 2, 1) := by decide +kernel
theorem dX12_goesHis_54 : decode cX12_goesHis 54 = .ok (.if_icmp .ge 13, 3) := by decide +kernel
theorem dX12_goesHis_57 : decode cX12_goesHis 57 = .ok (.aload_n 0, 1) := by decide +kernel
theorem dX12_goesHis_58 : decode cX12_goesHis 58 = .ok (.getfield 146, 3) := by decide +kernel
theorem dX12_goesHis_61 : decode cX12_goesHis 61 = .ok (.iload 4, 2) := by decide +kernel
theorem dX12_goesHis_63 : decode cX12_goesHis 63 = .ok (.iaload, 1) := by decide +kernel
theorem dX12_goesHis_64 : decode cX12_goesHis 64 = .ok (.goto 4, 3) := by decide +kernel
theorem dX12_goesHis_67 : decode cX12_goesHis 67 = .ok (.iload_n 2, 1) := by decide +kernel
theorem dX12_goesHis_68 : decode cX12_goesHis 68 = .ok (.istore 5, 2) := by decide +kernel
theorem dX12_goesHis_70 : decode cX12_goesHis 70 = .ok (.iload_n 2, 1) := by decide +kernel
theorem dX12_goesHis_71 : decode cX12_goesHis 71 = .ok (.iload 5, 2) := by decide +kernel
theorem dX12_goesHis_73 : decode cX12_goesHis 73 = .ok (.isub, 1) := by decide +kernel
theorem dX12_goesHis_74 : decode cX12_goesHis 74 = .ok (.istore_n 2, 1) := by decide +kernel
theorem dX12_goesHis_75 : decode cX12_goesHis 75 = .ok (.aload_n 0, 1) := by decide +kernel
theorem dX12_goesHis_76 : decode cX12_goesHis 76 = .ok (.getfield 137, 3) := by decide +kernel
theorem dX12_goesHis_79 : decode cX12_goesHis 79 = .ok (.bipush 24, 2) := by decide +kernel
theorem dX12_goesHis_81 : decode cX12_goesHis 81 = .ok (.iload 4, 2) := by decide +kernel
theorem dX12_goesHis_83 : decode cX12_goesHis 83 = .ok (.iadd, 1) := by decide +kernel
theorem dX12_goesHis_84 : decode cX12_goesHis 84 = .ok (.dup2, 1) := by decide +kernel
theorem dX12_goesHis_85 : decode cX12_goesHis 85 = .ok (.iaload, 1) := by decide +kernel
theorem dX12_goesHis_86 : decode cX12_goesHis 86 = .ok (.iload 5, 2) := by decide +kernel
theorem dX12_goesHis_88 : decode cX12_goesHis 88 = .ok (.iadd, 1) := by decide +kernel
theorem dX12_goesHis_89 : decode cX12_goesHis 89 = .ok (.iastore, 1) := by decide +kernel
theorem dX12_goesHis_90 : decode cX12_goesHis 90 = .ok (.aload_n 0, 1) := by decide +kernel
theorem dX12_goesHis_91 : decode cX12_goesHis 91 = .ok (.getfield 137, 3) := by decide +kernel
theorem dX12_goesHis_94 : decode cX12_goesHis 94 = .ok (.bipush 36, 2) := by decide +kernel
theorem dX12_goesHis_96 : decode cX12_goesHis 96 = .ok (.iload_n 1, 1) := by decide +kernel
theorem dX12_goesHis_97 : decode cX12_goesHis 97 = .ok (.iadd, 1) := by decide +kernel
theorem dX12_goesHis_98 : decode cX12_goesHis 98 = .ok (.dup2, 1) := by decide +kernel
theorem dX12_goesHis_99 : decode cX12_goesHis 99 = .ok (.iaload, 1) := by decide +kernel
theorem dX12_goesHis_100 : decode cX12_goesHis 100 = .ok (.iload 5, 2) := by decide +kernel
theorem dX12_goesHis_102 : decode cX12_goesHis 102 = .ok (.iadd, 1) := by decide +kernel
theorem dX12_goesHis_103 : decode cX12_goesHis 103 = .ok (.iastore, 1) := by decide +kernel
theorem dX12_goesHis_104 : decode cX12_goesHis 104 = .ok (.aload_n 0, 1) := by decide +kernel
theorem dX12_goesHis_105 : decode cX12_goesHis 105 = .ok (.getfield 137, 3) := by decide +kernel
theorem dX12_goesHis_108 : decode cX12_goesHis 108 = .ok (.bipush 66, 2) := by decide +kernel
theorem dX12_goesHis_110 : decode cX12_goesHis 110 = .ok (.dup2, 1) := by decide +kernel
theorem dX12_goesHis_111 : decode cX12_goesHis 111 = .ok (.iaload, 1) := by decide +kernel
theorem dX12_goesHis_112 : decode cX12_goesHis 112 = .ok (.iload 5, 2) := by decide +kernel
theorem dX12_goesHis_114 : decode cX12_goesHis 114 = .ok (.iadd, 1) := by decide +kernel
theorem dX12_goesHis_115 : decode cX12_goesHis 115 = .ok (.iastore, 1) := by decide +kernel
theorem dX12_goesHis_116 : decode cX12_goesHis 116 = .ok (.aload_n 0, 1) := by decide +kernel
theorem dX12_goesHis_117 : decode cX12_goesHis 117 = .ok (.getfield 137, 3) := by decide +kernel
theorem dX12_goesHis_120 : decode cX12_goesHis 120 = .ok (.iload 4, 2) := by decide +kernel
theorem dX12_goesHis_122 : decode cX12_goesHis 122 = .ok (.dup2, 1) := by decide +kernel
theorem dX12_goesHis_123 : decode cX12_goesHis 123 = .ok (.iaload, 1) := by decide +kernel
theorem dX12_goesHis_124 : decode cX12_goesHis 124 = .ok (.iconst 1, 1) := by decide +kernel
theorem dX12_goesHis_125 : decode cX12_goesHis 125 = .ok (.iadd, 1) := by decide +kernel
theorem dX12_goesHis_126 : decode cX12_goesHis 126 = .ok (.iastore, 1) := by decide +kernel
theorem dX12_goesHis_127 : decode cX12_goesHis 127 = .ok (.aload_n 0, 1) := by decide +kernel
theorem dX12_goesHis_128 : decode cX12_goesHis 128 = .ok (.iload 4, 2) := by decide +kernel
theorem dX12_goesHis_130 : decode cX12_goesHis 130 = .ok (.invokevirtual 391, 3) := by decide +kernel
theorem dX12_goesHis_133 : decode cX12_goesHis 133 = .ok (.ifCond .ne 6, 3) := by decide +kernel
theorem dX12_goesHis_136 : decode cX12_goesHis 136 = .ok (.goto 30, 3) := by decide +kernel
theorem dX12_goesHis_139 : decode cX12_goesHis 139 = .ok (.aload_n 0, 1) := by decide +kernel
theorem dX12_goesHis_140 : decode cX12_goesHis 140 = .ok (.getfield 137, 3) := by decide +kernel
theorem dX12_goesHis_143 : decode cX12_goesHis 143 = .ok (.bipush 12, 2) := by decide +kernel
theorem dX12_goesHis_145 : decode cX12_goesHis 145 = .ok (.iload 4, 2) := by decide +kernel
theorem dX12_goesHis_147 : decode cX12_goesHis 147 = .ok (.iadd, 1) := by decide +kernel
theorem dX12_goesHis_148 : decode cX12_goesHis 148 = .ok (.dup2, 1) := by decide +kernel
theorem dX12_goesHis_149 : decode cX12_goesHis 149 = .ok (.iaload, 1) := by decide +kernel
theorem dX12_goesHis_150 : decode cX12_goesHis 150 = .ok (.iconst 1, 1) := by decide +kernel
theorem dX12_goesHis_151 : decode cX12_goesHis 151 = .ok (.iadd, 1) := by decide +kernel
theorem dX12_goesHis_152 : decode cX12_goesHis 152 = .ok (.iastore, 1) := by decide +kernel
theorem dX12_goesHis_153 : decode cX12_goesHis 153 = .ok (.aload_n 0, 1) := by decide +kernel
theorem dX12_goesHis_154 : decode cX12_goesHis 154 = .ok (.getfield 137, 3) := by decide +kernel
theorem dX12_goesHis_157 : decode cX12_goesHis 157 = .ok (.bipush 57, 2) := by decide +kernel
theorem dX12_goesHis_159 : decode cX12_goesHis 159 = .ok (.iload_n 1, 1) := by decide +kernel
theorem dX12_goesHis_160 : decode cX12_goesHis 160 = .ok (.iadd, 1) := by decide +kernel
theorem dX12_goesHis_161 : decode cX12_goesHis 161 = .ok (.dup2, 1) := by decide +kernel
theorem dX12_goesHis_162 : decode cX12_goesHis 162 = .ok (.iaload, 1) := by decide +kernel
theorem dX12_goesHis_163 : decode cX12_goesHis 163 = .ok (.iconst 1, 1) := by decide +kernel
theorem dX12_goesHis_164 : decode cX12_goesHis 164 = .ok (.iadd, 1) := by decide +kernel
theorem dX12_goesHis_165 : decode cX12_goesHis 165 = .ok (.iastore, 1) := by decide +kernel
theorem dX12_goesHis_166 : decode cX12_goesHis 166 = .ok (.iinc 3 1, 3) := by decide +kernel
theorem dX12_goesHis_169 : decode cX12_goesHis 169 = .ok (.goto (-139), 3) := by decide +kernel
theorem dX12_goesHis_172 : decode cX12_goesHis 172 = .ok (.return_, 1) := by decide +kernel
theorem dX12_isHis_0 : decode cX12_isHis 0 = .ok (.aload_n 0, 1) := by decide +kernel
theorem dX12_isHis_1 : decode cX12_isHis 1 = .ok (.getfield 137, 3) := by decide +kernel
theorem dX12_isHis_4 : decode cX12_isHis 4 = .ok (.bipush 67, 2) := by decide +kernel
theorem dX12_isHis_6 : decode cX12_isHis 6 = .ok (.iaload, 1) := by decide +kernel
theorem dX12_isHis_7 : decode cX12_isHis 7 = .ok (.aload_n 0, 1) := by decide +kernel
theorem dX12_isHis_8 : decode cX12_isHis 8 = .ok (.getfield 83, 3) := by decide +kernel
theorem dX12_isHis_11 : decode cX12_isHis 11 = .ok (.bipush 7, 2) := by decide +kernel
theorem dX12_isHis_13 : decode cX12_isHis 13 = .ok (.aload_n 0, 1) := by decide +kernel
theorem dX12_isHis_14 : decode cX12_isHis 14 = .ok (.getfield 263, 3) := by decide +kernel
theorem dX12_isHis_17 : decode cX12_isHis 17 = .ok (.imul, 1) := by decide +kernel
theorem dX12_isHis_18 : decode cX12_isHis 18 = .ok (.iload_n 1, 1) := by decide +kernel
theorem dX12_isHis_19 : decode cX12_isHis 19 = .ok (.iadd, 1) := by decide +kernel
theorem dX12_isHis_20 : decode cX12_isHis 20 = .ok (.iaload, 1) := by decide +kernel
theorem dX12_isHis_21 : decode cX12_isHis 21 = .ok (.irem, 1) := by decide +kernel
theorem dX12_isHis_22 : decode cX12_isHis 22 = .ok (.ifCond .ne 7, 3) := by decide +kernel
theorem dX12_isHis_25 : decode cX12_isHis 25 = .ok (.iconst 1, 1) := by decide +kernel
theorem dX12_isHis_26 : decode cX12_isHis 26 = .ok (.goto 4, 3) := by decide +kernel
theorem dX12_isHis_29 : decode cX12_isHis 29 = .ok (.iconst 0, 1) := by decide +kernel
theorem dX12_isHis_30 : decode cX12_isHis 30 = .ok (.ireturn, 1) := by decide +kernel
theorem dX12_nightGoes_0 : decode cX12_nightGoes 0 = .ok (.iconst 0, 1) := by decide +kernel
theorem dX12_nightGoes_1 : decode cX12_nightGoes 1 = .ok (.istore_n 1, 1) := by decide +kernel
theorem dX12_nightGoes_2 : decode cX12_nightGoes 2 = .ok (.iload_n 1, 1) := by decide +kernel
theorem dX12_nightGoes_3 : decode cX12_nightGoes 3 = .ok (.aload_n 0, 1) := by decide +kernel
theorem dX12_nightGoes_4 : decode cX12_nightGoes 4 = .ok (.getfield 68, 3) := by decide +kernel
theorem dX12_nightGoes_7 : decode cX12_nightGoes 7 = .ok (.aload_n 0, 1) := by decide +kernel
theorem dX12_nightGoes_8 : decode cX12_nightGoes 8 = .ok (.getfield 263, 3) := by decide +kernel
theorem dX12_nightGoes_11 : decode cX12_nightGoes 11 = .ok (.iaload, 1) := by decide +kernel
theorem dX12_nightGoes_12 : decode cX12_nightGoes 12 = .ok (.if_icmp .ge 60, 3) := by decide +kernel
theorem dX12_nightGoes_15 : decode cX12_nightGoes 15 = .ok (.aload_n 0, 1) := by decide +kernel
theorem dX12_nightGoes_16 : decode cX12_nightGoes 16 = .ok (.getfield 356, 3) := by decide +kernel
theorem dX12_nightGoes_19 : decode cX12_nightGoes 19 = .ok (.iload_n 1, 1) := by decide +kernel
theorem dX12_nightGoes_20 : decode cX12_nightGoes 20 = .ok (.ishr, 1) := by decide +kernel
theorem dX12_nightGoes_21 : decode cX12_nightGoes 21 = .ok (.iconst 1, 1) := by decide +kernel
theorem dX12_nightGoes_22 : decode cX12_nightGoes 22 = .ok (.iand, 1) := by decide +kernel
theorem dX12_nightGoes_23 : decode cX12_nightGoes 23 = .ok (.ifCond .eq 43, 3) := by decide +kernel
theorem dX12_nightGoes_26 : decode cX12_nightGoes 26 = .ok (.aload_n 0, 1) := by decide +kernel
theorem dX12_nightGoes_27 : decode cX12_nightGoes 27 = .ok (.iload_n 1, 1) := by decide +kernel
theorem dX12_nightGoes_28 : decode cX12_nightGoes 28 = .ok (.invokevirtual 415, 3) := by decide +kernel
theorem dX12_nightGoes_31 : decode cX12_nightGoes 31 = .ok (.ifCond .ne 6, 3) := by decide +kernel
theorem dX12_nightGoes_34 : decode cX12_nightGoes 34 = .ok (.goto 32, 3) := by decide +kernel
theorem dX12_nightGoes_37 : decode cX12_nightGoes 37 = .ok (.aload_n 0, 1) := by decide +kernel
theorem dX12_nightGoes_38 : decode cX12_nightGoes 38 = .ok (.iload_n 1, 1) := by decide +kernel
theorem dX12_nightGoes_39 : decode cX12_nightGoes 39 = .ok (.invokevirtual 418, 3) := by decide +kernel
theorem dX12_nightGoes_42 : decode cX12_nightGoes 42 = .ok (.ifCond .eq 11, 3) := by decide +kernel
theorem dX12_nightGoes_45 : decode cX12_nightGoes 45 = .ok (.aload_n 0, 1) := by decide +kernel
theorem dX12_nightGoes_46 : decode cX12_nightGoes 46 = .ok (.iload_n 1, 1) := by decide +kernel
theorem dX12_nightGoes_47 : decode cX12_nightGoes 47 = .ok (.invokevirtual 421, 3) := by decide +kernel
theorem dX12_nightGoes_50 : decode cX12_nightGoes 50 = .ok (.goto 16, 3) := by decide +kernel
theorem dX12_nightGoes_53 : decode cX12_nightGoes 53 = .ok (.aload_n 0, 1) := by decide +kernel
theorem dX12_nightGoes_54 : decode cX12_nightGoes 54 = .ok (.getfield 137, 3) := by decide +kernel
theorem dX12_nightGoes_57 : decode cX12_nightGoes 57 = .ok (.bipush 50, 2) := by decide +kernel
theorem dX12_nightGoes_59 : decode cX12_nightGoes 59 = .ok (.iload_n 1, 1) := by decide +kernel
theorem dX12_nightGoes_60 : decode cX12_nightGoes 60 = .ok (.iadd, 1) := by decide +kernel
theorem dX12_nightGoes_61 : decode cX12_nightGoes 61 = .ok (.dup2, 1) := by decide +kernel
theorem dX12_nightGoes_62 : decode cX12_nightGoes 62 = .ok (.iaload, 1) := by decide +kernel
theorem dX12_nightGoes_63 : decode cX12_nightGoes 63 = .ok (.iconst 1, 1) := by decide +kernel
theorem dX12_nightGoes_64 : decode cX12_nightGoes 64 = .ok (.iadd, 1) := by decide +kernel
theorem dX12_nightGoes_65 : decode cX12_nightGoes 65 = .ok (.iastore, 1) := by decide +kernel
theorem dX12_nightGoes_66 : decode cX12_nightGoes 66 = .ok (.iinc 1 1, 3) := by decide +kernel
theorem dX12_nightGoes_69 : decode cX12_nightGoes 69 = .ok (.goto (-67), 3) := by decide +kernel
theorem dX12_nightGoes_72 : decode cX12_nightGoes 72 = .ok (.aload_n 0, 1) := by decide +kernel
theorem dX12_nightGoes_73 : decode cX12_nightGoes 73 = .ok (.getfield 137, 3) := by decide +kernel
theorem dX12_nightGoes_76 : decode cX12_nightGoes 76 = .ok (.bipush 67, 2) := by decide +kernel
theorem dX12_nightGoes_78 : decode cX12_nightGoes 78 = .ok (.dup2, 1) := by decide +kernel
theorem dX12_nightGoes_79 : decode cX12_nightGoes 79 = .ok (.iaload, 1) := by decide +kernel
theorem dX12_nightGoes_80 : decode cX12_nightGoes 80 = .ok (.iconst 1, 1) := by decide +kernel
theorem dX12_nightGoes_81 : decode cX12_nightGoes 81 = .ok (.iadd, 1) := by decide +kernel
theorem dX12_nightGoes_82 : decode cX12_nightGoes 82 = .ok (.iastore, 1) := by decide +kernel
theorem dX12_nightGoes_83 : decode cX12_nightGoes 83 = .ok (.return_, 1) := by decide +kernel
theorem dX12_goes_0 : decode cX12_goes 0 = .ok (.iconst 0, 1) := by decide +kernel
theorem dX12_goes_1 : decode cX12_goes 1 = .ok (.istore_n 2, 1) := by decide +kernel
theorem dX12_goes_2 : decode cX12_goes 2 = .ok (.iload_n 2, 1) := by decide +kernel
theorem dX12_goes_3 : decode cX12_goes 3 = .ok (.iload_n 1, 1) := by decide +kernel
theorem dX12_goes_4 : decode cX12_goes 4 = .ok (.if_icmp .ge 13, 3) := by decide +kernel
theorem dX12_goes_7 : decode cX12_goes 7 = .ok (.aload_n 0, 1) := by decide +kernel
theorem dX12_goes_8 : decode cX12_goes 8 = .ok (.invokevirtual 424, 3) := by decide +kernel
theorem dX12_goes_11 : decode cX12_goes 11 = .ok (.iinc 2 1, 3) := by decide +kernel
theorem dX12_goes_14 : decode cX12_goes 14 = .ok (.goto (-12), 3) := by decide +kernel
theorem dX12_goes_17 : decode cX12_goes 17 = .ok (.return_, 1) := by decide +kernel
theorem dX12_road_0 : decode cX12_road 0 = .ok (.aload_n 0, 1) := by decide +kernel
theorem dX12_road_1 : decode cX12_road 1 = .ok (.iload_n 1, 1) := by decide +kernel
theorem dX12_road_2 : decode cX12_road 2 = .ok (.invokevirtual 427, 3) := by decide +kernel
theorem dX12_road_5 : decode cX12_road 5 = .ok (.ifCond .ne 5, 3) := by decide +kernel
theorem dX12_road_8 : decode cX12_road 8 = .ok (.iconst (-1), 1) := by decide +kernel
theorem dX12_road_9 : decode cX12_road 9 = .ok (.ireturn, 1) := by decide +kernel
theorem dX12_road_10 : decode cX12_road 10 = .ok (.aload_n 0, 1) := by decide +kernel
theorem dX12_road_11 : decode cX12_road 11 = .ok (.invokevirtual 430, 3) := by decide +kernel
theorem dX12_road_14 : decode cX12_road 14 = .ok (.iload_n 2, 1) := by decide +kernel
theorem dX12_road_15 : decode cX12_road 15 = .ok (.tableswitch 158 0 8 #[49, 64, 79, 94, 108, 122, 129, 143, 143], 49) := by decide +kernel
theorem dX12_road_64 : decode cX12_road 64 = .ok (.aload_n 0, 1) := by decide +kernel
theorem dX12_road_65 : decode cX12_road 65 = .ok (.getfield 52, 3) := by decide +kernel
theorem dX12_road_68 : decode cX12_road 68 = .ok (.bipush 12, 2) := by decide +kernel
theorem dX12_road_70 : decode cX12_road 70 = .ok (.aload_n 0, 1) := by decide +kernel
theorem dX12_road_71 : decode cX12_road 71 = .ok (.getfield 263, 3) := by decide +kernel
theorem dX12_road_74 : decode cX12_road 74 = .ok (.imul, 1) := by decide +kernel
theorem dX12_road_75 : decode cX12_road 75 = .ok (.iload_n 1, 1) := by decide +kernel
theorem dX12_road_76 : decode cX12_road 76 = .ok (.iadd, 1) := by decide +kernel
theorem dX12_road_77 : decode cX12_road 77 = .ok (.iaload, 1) := by decide +kernel
theorem dX12_road_78 : decode cX12_road 78 = .ok (.ireturn, 1) := by decide +kernel
theorem dX12_road_79 : decode cX12_road 79 = .ok (.aload_n 0, 1) := by decide +kernel
theorem dX12_road_80 : decode cX12_road 80 = .ok (.getfield 55, 3) := by decide +kernel
theorem dX12_road_83 : decode cX12_road 83 = .ok (.bipush 12, 2) := by decide +kernel
theorem dX12_road_85 : decode cX12_road 85 = .ok (.aload_n 0, 1) := by decide +kernel
theorem dX12_road_86 : decode cX12_road 86 = .ok (.getfield 263, 3) := by decide +kernel
theorem dX12_road_89 : decode cX12_road 89 = .ok (.imul, 1) := by decide +kernel
theorem dX12_road_90 : decode cX12_road 90 = .ok (.iload_n 1, 1) := by decide +kernel
theorem dX12_road_91 : decode cX12_road 91 = .ok (.iadd, 1) := by decide +kernel
theorem dX12_road_92 : decode cX12_road 92 = .ok (.iaload, 1) := by decide +kernel
theorem dX12_road_93 : decode cX12_road 93 = .ok (.ireturn, 1) := by decide +kernel
theorem dX12_road_94 : decode cX12_road 94 = .ok (.aload_n 0, 1) := by decide +kernel
theorem dX12_road_95 : decode cX12_road 95 = .ok (.getfield 58, 3) := by decide +kernel
theorem dX12_road_98 : decode cX12_road 98 = .ok (.bipush 12, 2) := by decide +kernel
theorem dX12_road_100 : decode cX12_road 100 = .ok (.aload_n 0, 1) := by decide +kernel
theorem dX12_road_101 : decode cX12_road 101 = .ok (.getfield 263, 3) := by decide +kernel
theorem dX12_road_104 : decode cX12_road 104 = .ok (.imul, 1) := by decide +kernel
theorem dX12_road_105 : decode cX12_road 105 = .ok (.iload_n 1, 1) := by decide +kernel
theorem dX12_road_106 : decode cX12_road 106 = .ok (.iadd, 1) := by decide +kernel
theorem dX12_road_107 : decode cX12_road 107 = .ok (.iaload, 1) := by decide +kernel
theorem dX12_road_108 : decode cX12_road 108 = .ok (.ireturn, 1) := by decide +kernel
theorem dX12_road_109 : decode cX12_road 109 = .ok (.aload_n 0, 1) := by decide +kernel
theorem dX12_road_110 : decode cX12_road 110 = .ok (.iload_n 1, 1) := by decide +kernel
theorem dX12_road_111 : decode cX12_road 111 = .ok (.invokevirtual 391, 3) := by decide +kernel
theorem dX12_road_114 : decode cX12_road 114 = .ok (.ifCond .eq 7, 3) := by decide +kernel
theorem dX12_road_117 : decode cX12_road 117 = .ok (.iconst 1, 1) := by decide +kernel
theorem dX12_road_118 : decode cX12_road 118 = .ok (.goto 4, 3) := by decide +kernel
theorem dX12_road_121 : decode cX12_road 121 = .ok (.iconst 0, 1) := by decide +kernel
theorem dX12_road_122 : decode cX12_road 122 = .ok (.ireturn, 1) := by decide +kernel
theorem dX12_road_123 : decode cX12_road 123 = .ok (.aload_n 0, 1) := by decide +kernel
theorem dX12_road_124 : decode cX12_road 124 = .ok (.iload_n 1, 1) := by decide +kernel
theorem dX12_road_125 : decode cX12_road 125 = .ok (.invokevirtual 385, 3) := by decide +kernel
theorem dX12_road_128 : decode cX12_road 128 = .ok (.ifCond .eq 7, 3) := by decide +kernel
theorem dX12_road_131 : decode cX12_road 131 = .ok (.iconst 1, 1) := by decide +kernel
theorem dX12_road_132 : decode cX12_road 132 = .ok (.goto 4, 3) := by decide +kernel
theorem dX12_road_135 : decode cX12_road 135 = .ok (.iconst 0, 1) := by decide +kernel
theorem dX12_road_136 : decode cX12_road 136 = .ok (.ireturn, 1) := by decide +kernel
theorem dX12_road_137 : decode cX12_road 137 = .ok (.aload_n 0, 1) := by decide +kernel
theorem dX12_road_138 : decode cX12_road 138 = .ok (.getfield 137, 3) := by decide +kernel
theorem dX12_road_141 : decode cX12_road 141 = .ok (.iload_n 1, 1) := by decide +kernel
theorem dX12_road_142 : decode cX12_road 142 = .ok (.iaload, 1) := by decide +kernel
theorem dX12_road_143 : decode cX12_road 143 = .ok (.ireturn, 1) := by decide +kernel
theorem dX12_road_144 : decode cX12_road 144 = .ok (.aload_n 0, 1) := by decide +kernel
theorem dX12_road_145 : decode cX12_road 145 = .ok (.iload_n 1, 1) := by decide +kernel
theorem dX12_road_146 : decode cX12_road 146 = .ok (.invokevirtual 394, 3) := by decide +kernel
theorem dX12_road_149 : decode cX12_road 149 = .ok (.ifCond .eq 7, 3) := by decide +kernel
theorem dX12_road_152 : decode cX12_road 152 = .ok (.iconst 1, 1) := by decide +kernel
theorem dX12_road_153 : decode cX12_road 153 = .ok (.goto 4, 3) := by decide +kernel
theorem dX12_road_156 : decode cX12_road 156 = .ok (.iconst 0, 1) := by decide +kernel
theorem dX12_road_157 : decode cX12_road 157 = .ok (.ireturn, 1) := by decide +kernel
theorem dX12_road_158 : decode cX12_road 158 = .ok (.aload_n 0, 1) := by decide +kernel
theorem dX12_road_159 : decode cX12_road 159 = .ok (.getfield 137, 3) := by decide +kernel
theorem dX12_road_162 : decode cX12_road 162 = .ok (.bipush 12, 2) := by decide +kernel
theorem dX12_road_164 : decode cX12_road 164 = .ok (.iload_n 2, 1) := by decide +kernel
theorem dX12_road_165 : decode cX12_road 165 = .ok (.bipush 6, 2) := by decide +kernel
theorem dX12_road_167 : decode cX12_road 167 = .ok (.isub, 1) := by decide +kernel
theorem dX12_road_168 : decode cX12_road 168 = .ok (.imul, 1) := by decide +kernel
theorem dX12_road_169 : decode cX12_road 169 = .ok (.iload_n 1, 1) := by decide +kernel
theorem dX12_road_170 : decode cX12_road 170 = .ok (.iadd, 1) := by decide +kernel
theorem dX12_road_171 : decode cX12_road 171 = .ok (.iaload, 1) := by decide +kernel
theorem dX12_road_172 : decode cX12_road 172 = .ok (.ireturn, 1) := by decide +kernel
theorem dX12_road_173 : decode cX12_road 173 = .ok (.iconst (-1), 1) := by decide +kernel
theorem dX12_road_174 : decode cX12_road 174 = .ok (.ireturn, 1) := by decide +kernel
theorem dX12_ghost_0 : decode cX12_ghost 0 = .ok (.aload_n 0, 1) := by decide +kernel
theorem dX12_ghost_1 : decode cX12_ghost 1 = .ok (.iload_n 1, 1) := by decide +kernel
theorem dX12_ghost_2 : decode cX12_ghost 2 = .ok (.invokevirtual 433, 3) := by decide +kernel
theorem dX12_ghost_5 : decode cX12_ghost 5 = .ok (.ifCond .ne 5, 3) := by decide +kernel
theorem dX12_ghost_8 : decode cX12_ghost 8 = .ok (.iconst (-1), 1) := by decide +kernel
theorem dX12_ghost_9 : decode cX12_ghost 9 = .ok (.ireturn, 1) := by decide +kernel
theorem dX12_ghost_10 : decode cX12_ghost 10 = .ok (.aload_n 0, 1) := by decide +kernel
theorem dX12_ghost_11 : decode cX12_ghost 11 = .ok (.invokevirtual 430, 3) := by decide +kernel
theorem dX12_ghost_14 : decode cX12_ghost 14 = .ok (.iload_n 2, 1) := by decide +kernel
theorem dX12_ghost_15 : decode cX12_ghost 15 = .ok (.tableswitch 121 0 7 #[45, 60, 75, 90, 104, 104, 104, 104], 45) := by decide +kernel
theorem dX12_ghost_60 : decode cX12_ghost 60 = .ok (.aload_n 0, 1) := by decide +kernel
theorem dX12_ghost_61 : decode cX12_ghost 61 = .ok (.getfield 77, 3) := by decide +kernel
theorem dX12_ghost_64 : decode cX12_ghost 64 = .ok (.bipush 7, 2) := by decide +kernel
theorem dX12_ghost_66 : decode cX12_ghost 66 = .ok (.aload_n 0, 1) := by decide +kernel
theorem dX12_ghost_67 : decode cX12_ghost 67 = .ok (.getfield 263, 3) := by decide +kernel
theorem dX12_ghost_70 : decode cX12_ghost 70 = .ok (.imul, 1) := by decide +kernel
theorem dX12_ghost_71 : decode cX12_ghost 71 = .ok (.iload_n 1, 1) := by decide +kernel
theorem dX12_ghost_72 : decode cX12_ghost 72 = .ok (.iadd, 1) := by decide +kernel
theorem dX12_ghost_73 : decode cX12_ghost 73 = .ok (.iaload, 1) := by decide +kernel
theorem dX12_ghost_74 : decode cX12_ghost 74 = .ok (.ireturn, 1) := by decide +kernel
theorem dX12_ghost_75 : decode cX12_ghost 75 = .ok (.aload_n 0, 1) := by decide +kernel
theorem dX12_ghost_76 : decode cX12_ghost 76 = .ok (.getfield 80, 3) := by decide +kernel
theorem dX12_ghost_79 : decode cX12_ghost 79 = .ok (.bipush 7, 2) := by decide +kernel
theorem dX12_ghost_81 : decode cX12_ghost 81 = .ok (.aload_n 0, 1) := by decide +kernel
theorem dX12_ghost_82 : decode cX12_ghost 82 = .ok (.getfield 263, 3) := by decide +kernel
theorem dX12_ghost_85 : decode cX12_ghost 85 = .ok (.imul, 1) := by decide +kernel
theorem dX12_ghost_86 : decode cX12_ghost 86 = .ok (.iload_n 1, 1) := by decide +kernel
theorem dX12_ghost_87 : decode cX12_ghost 87 = .ok (.iadd, 1) := by decide +kernel
theorem dX12_ghost_88 : decode cX12_ghost 88 = .ok (.iaload, 1) := by decide +kernel
theorem dX12_ghost_89 : decode cX12_ghost 89 = .ok (.ireturn, 1) := by decide +kernel
theorem dX12_ghost_90 : decode cX12_ghost 90 = .ok (.aload_n 0, 1) := by decide +kernel
theorem dX12_ghost_91 : decode cX12_ghost 91 = .ok (.getfield 83, 3) := by decide +kernel
theorem dX12_ghost_94 : decode cX12_ghost 94 = .ok (.bipush 7, 2) := by decide +kernel
theorem dX12_ghost_96 : decode cX12_ghost 96 = .ok (.aload_n 0, 1) := by decide +kernel
theorem dX12_ghost_97 : decode cX12_ghost 97 = .ok (.getfield 263, 3) := by decide +kernel
theorem dX12_ghost_100 : decode cX12_ghost 100 = .ok (.imul, 1) := by decide +kernel
theorem dX12_ghost_101 : decode cX12_ghost 101 = .ok (.iload_n 1, 1) := by decide +kernel
theorem dX12_ghost_102 : decode cX12_ghost 102 = .ok (.iadd, 1) := by decide +kernel
theorem dX12_ghost_103 : decode cX12_ghost 103 = .ok (.iaload, 1) := by decide +kernel
theorem dX12_ghost_104 : decode cX12_ghost 104 = .ok (.ireturn, 1) := by decide +kernel
theorem dX12_ghost_105 : decode cX12_ghost 105 = .ok (.aload_n 0, 1) := by decide +kernel
theorem dX12_ghost_106 : decode cX12_ghost 106 = .ok (.iload_n 1, 1) := by decide +kernel
theorem dX12_ghost_107 : decode cX12_ghost 107 = .ok (.invokevirtual 415, 3) := by decide +kernel
theorem dX12_ghost_110 : decode cX12_ghost 110 = .ok (.ifCond .eq 7, 3) := by decide +kernel
theorem dX12_ghost_113 : decode cX12_ghost 113 = .ok (.iconst 1, 1) := by decide +kernel
theorem dX12_ghost_114 : decode cX12_ghost 114 = .ok (.goto 4, 3) := by decide +kernel
theorem dX12_ghost_117 : decode cX12_ghost 117 = .ok (.iconst 0, 1) := by decide +kernel
theorem dX12_ghost_118 : decode cX12_ghost 118 = .ok (.ireturn, 1) := by decide +kernel
theorem dX12_ghost_119 : decode cX12_ghost 119 = .ok (.aload_n 0, 1) := by decide +kernel
theorem dX12_ghost_120 : decode cX12_ghost 120 = .ok (.getfield 137, 3) := by decide +kernel
theorem dX12_ghost_123 : decode cX12_ghost 123 = .ok (.bipush 36, 2) := by decide +kernel
theorem dX12_ghost_125 : decode cX12_ghost 125 = .ok (.bipush 7, 2) := by decide +kernel
theorem dX12_ghost_127 : decode cX12_ghost 127 = .ok (.iload_n 2, 1) := by decide +kernel
theorem dX12_ghost_128 : decode cX12_ghost 128 = .ok (.iconst 4, 1) := by decide +kernel
theorem dX12_ghost_129 : decode cX12_ghost 129 = .ok (.isub, 1) := by decide +kernel
theorem dX12_ghost_130 : decode cX12_ghost 130 = .ok (.imul, 1) := by decide +kernel
theorem dX12_ghost_131 : decode cX12_ghost 131 = .ok (.iadd, 1) := by decide +kernel
theorem dX12_ghost_132 : decode cX12_ghost 132 = .ok (.iload_n 1, 1) := by decide +kernel
theorem dX12_ghost_133 : decode cX12_ghost 133 = .ok (.iadd, 1) := by decide +kernel
theorem dX12_ghost_134 : decode cX12_ghost 134 = .ok (.iaload, 1) := by decide +kernel
theorem dX12_ghost_135 : decode cX12_ghost 135 = .ok (.ireturn, 1) := by decide +kernel
theorem dX12_ghost_136 : decode cX12_ghost 136 = .ok (.iconst (-1), 1) := by decide +kernel
theorem dX12_ghost_137 : decode cX12_ghost 137 = .ok (.ireturn, 1) := by decide +kernel
theorem dX12_cost_0 : decode cX12_cost 0 = .ok (.aload_n 0, 1) := by decide +kernel
theorem dX12_cost_1 : decode cX12_cost 1 = .ok (.iload_n 1, 1) := by decide +kernel
theorem dX12_cost_2 : decode cX12_cost 2 = .ok (.invokevirtual 433, 3) := by decide +kernel
theorem dX12_cost_5 : decode cX12_cost 5 = .ok (.ifCond .eq 11, 3) := by decide +kernel
theorem dX12_cost_8 : decode cX12_cost 8 = .ok (.aload_n 0, 1) := by decide +kernel
theorem dX12_cost_9 : decode cX12_cost 9 = .ok (.iload_n 2, 1) := by decide +kernel
theorem dX12_cost_10 : decode cX12_cost 10 = .ok (.invokevirtual 427, 3) := by decide +kernel
theorem dX12_cost_13 : decode cX12_cost 13 = .ok (.ifCond .ne 5, 3) := by decide +kernel
theorem dX12_cost_16 : decode cX12_cost 16 = .ok (.iconst (-1), 1) := by decide +kernel
theorem dX12_cost_17 : decode cX12_cost 17 = .ok (.ireturn, 1) := by decide +kernel
theorem dX12_cost_18 : decode cX12_cost 18 = .ok (.aload_n 0, 1) := by decide +kernel
theorem dX12_cost_19 : decode cX12_cost 19 = .ok (.invokevirtual 430, 3) := by decide +kernel
theorem dX12_cost_22 : decode cX12_cost 22 = .ok (.aload_n 0, 1) := by decide +kernel
theorem dX12_cost_23 : decode cX12_cost 23 = .ok (.iload_n 1, 1) := by decide +kernel
theorem dX12_cost_24 : decode cX12_cost 24 = .ok (.iload_n 2, 1) := by decide +kernel
theorem dX12_cost_25 : decode cX12_cost 25 = .ok (.invokevirtual 397, 3) := by decide +kernel
theorem dX12_cost_28 : decode cX12_cost 28 = .ok (.ireturn, 1) := by decide +kernel
theorem dX12_paysByWay_0 : decode cX12_paysByWay 0 = .ok (.aload_n 0, 1) := by decide +kernel
theorem dX12_paysByWay_1 : decode cX12_paysByWay 1 = .ok (.getfield 80, 3) := by decide +kernel
theorem dX12_paysByWay_4 : decode cX12_paysByWay 4 = .ok (.bipush 7, 2) := by decide +kernel
theorem dX12_paysByWay_6 : decode cX12_paysByWay 6 = .ok (.aload_n 0, 1) := by decide +kernel
theorem dX12_paysByWay_7 : decode cX12_paysByWay 7 = .ok (.getfield 263, 3) := by decide +kernel
theorem dX12_paysByWay_10 : decode cX12_paysByWay 10 = .ok (.imul, 1) := by decide +kernel
theorem dX12_paysByWay_11 : decode cX12_paysByWay 11 = .ok (.iload_n 1, 1) := by decide +kernel
theorem dX12_paysByWay_12 : decode cX12_paysByWay 12 = .ok (.iadd, 1) := by decide +kernel
theorem dX12_paysByWay_13 : decode cX12_paysByWay 13 = .ok (.iaload, 1) := by decide +kernel
theorem dX12_paysByWay_14 : decode cX12_paysByWay 14 = .ok (.istore_n 2, 1) := by decide +kernel
theorem dX12_paysByWay_15 : decode cX12_paysByWay 15 = .ok (.iconst 0, 1) := by decide +kernel
theorem dX12_paysByWay_16 : decode cX12_paysByWay 16 = .ok (.istore_n 3, 1) := by decide +kernel
theorem dX12_paysByWay_17 : decode cX12_paysByWay 17 = .ok (.iconst 0, 1) := by decide +kernel
theorem dX12_paysByWay_18 : decode cX12_paysByWay 18 = .ok (.istore 4, 2) := by decide +kernel
theorem dX12_paysByWay_20 : decode cX12_paysByWay 20 = .ok (.iload 4, 2) := by decide +kernel
theorem dX12_paysByWay_22 : decode cX12_paysByWay 22 = .ok (.aload_n 0, 1) := by decide +kernel
theorem dX12_paysByWay_23 : decode cX12_paysByWay 23 = .ok (.getfield 409, 3) := by decide +kernel
theorem dX12_paysByWay_26 : decode cX12_paysByWay 26 = .ok (.if_icmp .ge 24, 3) := by decide +kernel
theorem dX12_paysByWay_29 : decode cX12_paysByWay 29 = .ok (.iload_n 3, 1) := by decide +kernel
theorem dX12_paysByWay_30 : decode cX12_paysByWay 30 = .ok (.aload_n 0, 1) := by decide +kernel
theorem dX12_paysByWay_31 : decode cX12_paysByWay 31 = .ok (.getfield 146, 3) := by decide +kernel
theorem dX12_paysByWay_34 : decode cX12_paysByWay 34 = .ok (.aload_n 0, 1) := by decide +kernel
theorem dX12_paysByWay_35 : decode cX12_paysByWay 35 = .ok (.getfield 149, 3) := by decide +kernel
theorem dX12_paysByWay_38 : decode cX12_paysByWay 38 = .ok (.iload 4, 2) := by decide +kernel
theorem dX12_paysByWay_40 : decode cX12_paysByWay 40 = .ok (.iaload, 1) := by decide +kernel
theorem dX12_paysByWay_41 : decode cX12_paysByWay 41 = .ok (.iaload, 1) := by decide +kernel
theorem dX12_paysByWay_42 : decode cX12_paysByWay 42 = .ok (.iadd, 1) := by decide +kernel
theorem dX12_paysByWay_43 : decode cX12_paysByWay 43 = .ok (.istore_n 3, 1) := by decide +kernel
theorem dX12_paysByWay_44 : decode cX12_paysByWay 44 = .ok (.iinc 4 1, 3) := by decide +kernel
theorem dX12_paysByWay_47 : decode cX12_paysByWay 47 = .ok (.goto (-27), 3) := by decide +kernel
theorem dX12_paysByWay_50 : decode cX12_paysByWay 50 = .ok (.iload_n 3, 1) := by decide +kernel
theorem dX12_paysByWay_51 : decode cX12_paysByWay 51 = .ok (.iload_n 2, 1) := by decide +kernel
theorem dX12_paysByWay_52 : decode cX12_paysByWay 52 = .ok (.if_icmp .ge 7, 3) := by decide +kernel
theorem dX12_paysByWay_55 : decode cX12_paysByWay 55 = .ok (.iload_n 3, 1) := by decide +kernel
theorem dX12_paysByWay_56 : decode cX12_paysByWay 56 = .ok (.goto 4, 3) := by decide +kernel
theorem dX12_paysByWay_59 : decode cX12_paysByWay 59 = .ok (.iload_n 2, 1) := by decide +kernel
theorem dX12_paysByWay_60 : decode cX12_paysByWay 60 = .ok (.ireturn, 1) := by decide +kernel
theorem dX12_way_0 : decode cX12_way 0 = .ok (.aload_n 0, 1) := by decide +kernel
theorem dX12_way_1 : decode cX12_way 1 = .ok (.iload_n 1, 1) := by decide +kernel
theorem dX12_way_2 : decode cX12_way 2 = .ok (.invokevirtual 433, 3) := by decide +kernel
theorem dX12_way_5 : decode cX12_way 5 = .ok (.ifCond .eq 12, 3) := by decide +kernel
theorem dX12_way_8 : decode cX12_way 8 = .ok (.iload_n 2, 1) := by decide +kernel
theorem dX12_way_9 : decode cX12_way 9 = .ok (.iconst 0, 1) := by decide +kernel
theorem dX12_way_10 : decode cX12_way 10 = .ok (.iconst 3, 1) := by decide +kernel
theorem dX12_way_11 : decode cX12_way 11 = .ok (.invokestatic 349, 3) := by decide +kernel
theorem dX12_way_14 : decode cX12_way 14 = .ok (.ifCond .ne 5, 3) := by decide +kernel
theorem dX12_way_17 : decode cX12_way 17 = .ok (.iconst (-1), 1) := by decide +kernel
theorem dX12_way_18 : decode cX12_way 18 = .ok (.ireturn, 1) := by decide +kernel
theorem dX12_way_19 : decode cX12_way 19 = .ok (.aload_n 0, 1) := by decide +kernel
theorem dX12_way_20 : decode cX12_way 20 = .ok (.invokevirtual 430, 3) := by decide +kernel
theorem dX12_way_23 : decode cX12_way 23 = .ok (.aload_n 0, 1) := by decide +kernel
theorem dX12_way_24 : decode cX12_way 24 = .ok (.iload_n 1, 1) := by decide +kernel
theorem dX12_way_25 : decode cX12_way 25 = .ok (.invokevirtual 418, 3) := by decide +kernel
theorem dX12_way_28 : decode cX12_way 28 = .ok (.ifCond .ne 6, 3) := by decide +kernel
theorem dX12_way_31 : decode cX12_way 31 = .ok (.bipush (-2), 2) := by decide +kernel
theorem dX12_way_33 : decode cX12_way 33 = .ok (.ireturn, 1) := by decide +kernel
theorem dX12_way_34 : decode cX12_way 34 = .ok (.iconst 0, 1) := by decide +kernel
theorem dX12_way_35 : decode cX12_way 35 = .ok (.istore_n 3, 1) := by decide +kernel
theorem dX12_way_36 : decode cX12_way 36 = .ok (.iload_n 2, 1) := by decide +kernel
theorem dX12_way_37 : decode cX12_way 37 = .ok (.tableswitch 95 0 2 #[27, 47, 90], 27) := by decide +kernel
theorem dX12_way_64 : decode cX12_way 64 = .ok (.aload_n 0, 1) := by decide +kernel
theorem dX12_way_65 : decode cX12_way 65 = .ok (.getfield 140, 3) := by decide +kernel
theorem dX12_way_68 : decode cX12_way 68 = .ok (.aload_n 0, 1) := by decide +kernel
theorem dX12_way_69 : decode cX12_way 69 = .ok (.getfield 71, 3) := by decide +kernel
theorem dX12_way_72 : decode cX12_way 72 = .ok (.bipush 7, 2) := by decide +kernel
theorem dX12_way_74 : decode cX12_way 74 = .ok (.aload_n 0, 1) := by decide +kernel
theorem dX12_way_75 : decode cX12_way 75 = .ok (.getfield 263, 3) := by decide +kernel
theorem dX12_way_78 : decode cX12_way 78 = .ok (.imul, 1) := by decide +kernel
theorem dX12_way_79 : decode cX12_way 79 = .ok (.iload_n 1, 1) := by decide +kernel
theorem dX12_way_80 : decode cX12_way 80 = .ok (.iadd, 1) := by decide +kernel
theorem dX12_way_81 : decode cX12_way 81 = .ok (.iaload, 1) := by decide +kernel
theorem dX12_way_82 : decode cX12_way 82 = .ok (.iaload, 1) := by decide +kernel
theorem dX12_way_83 : decode cX12_way 83 = .ok (.ireturn, 1) := by decide +kernel
theorem dX12_way_84 : decode cX12_way 84 = .ok (.iconst 0, 1) := by decide +kernel
theorem dX12_way_85 : decode cX12_way 85 = .ok (.istore 4, 2) := by decide +kernel
theorem dX12_way_87 : decode cX12_way 87 = .ok (.iload 4, 2) := by decide +kernel
theorem dX12_way_89 : decode cX12_way 89 = .ok (.aload_n 0, 1) := by decide +kernel
theorem dX12_way_90 : decode cX12_way 90 = .ok (.getfield 409, 3) := by decide +kernel
theorem dX12_way_93 : decode cX12_way 93 = .ok (.if_icmp .ge 32, 3) := by decide +kernel
theorem dX12_way_96 : decode cX12_way 96 = .ok (.iload_n 3, 1) := by decide +kernel
theorem dX12_way_97 : decode cX12_way 97 = .ok (.aload_n 0, 1) := by decide +kernel
theorem dX12_way_98 : decode cX12_way 98 = .ok (.getfield 58, 3) := by decide +kernel
theorem dX12_way_101 : decode cX12_way 101 = .ok (.bipush 12, 2) := by decide +kernel
theorem dX12_way_103 : decode cX12_way 103 = .ok (.aload_n 0, 1) := by decide +kernel
theorem dX12_way_104 : decode cX12_way 104 = .ok (.getfield 263, 3) := by decide +kernel
theorem dX12_way_107 : decode cX12_way 107 = .ok (.imul, 1) := by decide +kernel
theorem dX12_way_108 : decode cX12_way 108 = .ok (.aload_n 0, 1) := by decide +kernel
theorem dX12_way_109 : decode cX12_way 109 = .ok (.getfield 149, 3) := by decide +kernel
theorem dX12_way_112 : decode cX12_way 112 = .ok (.iload 4, 2) := by decide +kernel
theorem dX12_way_114 : decode cX12_way 114 = .ok (.iaload, 1) := by decide +kernel
theorem dX12_way_115 : decode cX12_way 115 = .ok (.iadd, 1) := by decide +kernel
theorem dX12_way_116 : decode cX12_way 116 = .ok (.iaload, 1) := by decide +kernel
theorem dX12_way_117 : decode cX12_way 117 = .ok (.iadd, 1) := by decide +kernel
theorem dX12_way_118 : decode cX12_way 118 = .ok (.istore_n 3, 1) := by decide +kernel
theorem dX12_way_119 : decode cX12_way 119 = .ok (.iinc 4 1, 3) := by decide +kernel
theorem dX12_way_122 : decode cX12_way 122 = .ok (.goto (-35), 3) := by decide +kernel
theorem dX12_way_125 : decode cX12_way 125 = .ok (.iload_n 3, 1) := by decide +kernel
theorem dX12_way_126 : decode cX12_way 126 = .ok (.ireturn, 1) := by decide +kernel
theorem dX12_way_127 : decode cX12_way 127 = .ok (.aload_n 0, 1) := by decide +kernel
theorem dX12_way_128 : decode cX12_way 128 = .ok (.getfield 409, 3) := by decide +kernel
theorem dX12_way_131 : decode cX12_way 131 = .ok (.ireturn, 1) := by decide +kernel
theorem dX12_way_132 : decode cX12_way 132 = .ok (.aload_n 0, 1) := by decide +kernel
theorem dX12_way_133 : decode cX12_way 133 = .ok (.iload_n 1, 1) := by decide +kernel
theorem dX12_way_134 : decode cX12_way 134 = .ok (.invokevirtual 436, 3) := by decide +kernel
theorem dX12_way_137 : decode cX12_way 137 = .ok (.ireturn, 1) := by decide +kernel
theorem dX12_wayAt_0 : decode cX12_wayAt 0 = .ok (.aload_n 0, 1) := by decide +kernel
theorem dX12_wayAt_1 : decode cX12_wayAt 1 = .ok (.iload_n 1, 1) := by decide +kernel
theorem dX12_wayAt_2 : decode cX12_wayAt 2 = .ok (.invokevirtual 433, 3) := by decide +kernel
theorem dX12_wayAt_5 : decode cX12_wayAt 5 = .ok (.ifCond .eq 7, 3) := by decide +kernel
theorem dX12_wayAt_8 : decode cX12_wayAt 8 = .ok (.iload_n 2, 1) := by decide +kernel
theorem dX12_wayAt_9 : decode cX12_wayAt 9 = .ok (.ifCond .ge 5, 3) := by decide +kernel
theorem dX12_wayAt_12 : decode cX12_wayAt 12 = .ok (.iconst (-1), 1) := by decide +kernel
theorem dX12_wayAt_13 : decode cX12_wayAt 13 = .ok (.ireturn, 1) := by decide +kernel
theorem dX12_wayAt_14 : decode cX12_wayAt 14 = .ok (.aload_n 0, 1) := by decide +kernel
theorem dX12_wayAt_15 : decode cX12_wayAt 15 = .ok (.invokevirtual 430, 3) := by decide +kernel
theorem dX12_wayAt_18 : decode cX12_wayAt 18 = .ok (.aload_n 0, 1) := by decide +kernel
theorem dX12_wayAt_19 : decode cX12_wayAt 19 = .ok (.iload_n 1, 1) := by decide +kernel
theorem dX12_wayAt_20 : decode cX12_wayAt 20 = .ok (.invokevirtual 418, 3) := by decide +kernel
theorem dX12_wayAt_23 : decode cX12_wayAt 23 = .ok (.ifCond .ne 6, 3) := by decide +kernel
theorem dX12_wayAt_26 : decode cX12_wayAt 26 = .ok (.bipush (-2), 2) := by decide +kernel
theorem dX12_wayAt_28 : decode cX12_wayAt 28 = .ok (.ireturn, 1) := by decide +kernel
theorem dX12_wayAt_29 : decode cX12_wayAt 29 = .ok (.iload_n 2, 1) := by decide +kernel
theorem dX12_wayAt_30 : decode cX12_wayAt 30 = .ok (.aload_n 0, 1) := by decide +kernel
theorem dX12_wayAt_31 : decode cX12_wayAt 31 = .ok (.getfield 409, 3) := by decide +kernel
theorem dX12_wayAt_34 : decode cX12_wayAt 34 = .ok (.if_icmp .ge 12, 3) := by decide +kernel
theorem dX12_wayAt_37 : decode cX12_wayAt 37 = .ok (.aload_n 0, 1) := by decide +kernel
theorem dX12_wayAt_38 : decode cX12_wayAt 38 = .ok (.getfield 149, 3) := by decide +kernel
theorem dX12_wayAt_41 : decode cX12_wayAt 41 = .ok (.iload_n 2, 1) := by decide +kernel
theorem dX12_wayAt_42 : decode cX12_wayAt 42 = .ok (.iaload, 1) := by decide +kernel
theorem dX12_wayAt_43 : decode cX12_wayAt 43 = .ok (.goto 4, 3) := by decide +kernel
theorem dX12_wayAt_46 : decode cX12_wayAt 46 = .ok (.iconst (-1), 1) := by decide +kernel
theorem dX12_wayAt_47 : decode cX12_wayAt 47 = .ok (.ireturn, 1) := by decide +kernel
theorem dX12_keeps_0 : decode cX12_keeps 0 = .ok (.aload_n 0, 1) := by decide +kernel
theorem dX12_keeps_1 : decode cX12_keeps 1 = .ok (.getfield 281, 3) := by decide +kernel
theorem dX12_keeps_4 : decode cX12_keeps 4 = .ok (.bipush 40, 2) := by decide +kernel
theorem dX12_keeps_6 : decode cX12_keeps 6 = .ok (.if_icmp .ne 43, 3) := by decide +kernel
theorem dX12_keeps_9 : decode cX12_keeps 9 = .ok (.iconst 0, 1) := by decide +kernel
theorem dX12_keeps_10 : decode cX12_keeps 10 = .ok (.istore_n 1, 1) := by decide +kernel
theorem dX12_keeps_11 : decode cX12_keeps 11 = .ok (.iload_n 1, 1) := by decide +kernel
theorem dX12_keeps_12 : decode cX12_keeps 12 = .ok (.sipush 2652, 3) := by decide +kernel
theorem dX12_keeps_15 : decode cX12_keeps 15 = .ok (.if_icmp .ge 24, 3) := by decide +kernel
theorem dX12_keeps_18 : decode cX12_keeps 18 = .ok (.aload_n 0, 1) := by decide +kernel
theorem dX12_keeps_19 : decode cX12_keeps 19 = .ok (.getfield 152, 3) := by decide +kernel
theorem dX12_keeps_22 : decode cX12_keeps 22 = .ok (.iload_n 1, 1) := by decide +kernel
theorem dX12_keeps_23 : decode cX12_keeps 23 = .ok (.aload_n 0, 1) := by decide +kernel
theorem dX12_keeps_24 : decode cX12_keeps 24 = .ok (.getfield 152, 3) := by decide +kernel
theorem dX12_keeps_27 : decode cX12_keeps 27 = .ok (.iload_n 1, 1) := by decide +kernel
theorem dX12_keeps_28 : decode cX12_keeps 28 = .ok (.bipush 68, 2) := by decide +kernel
theorem dX12_keeps_30 : decode cX12_keeps 30 = .ok (.iadd, 1) := by decide +kernel
theorem dX12_keeps_31 : decode cX12_keeps 31 = .ok (.iaload, 1) := by decide +kernel
theorem dX12_keeps_32 : decode cX12_keeps 32 = .ok (.iastore, 1) := by decide +kernel
theorem dX12_keeps_33 : decode cX12_keeps 33 = .ok (.iinc 1 1, 3) := by decide +kernel
theorem dX12_keeps_36 : decode cX12_keeps 36 = .ok (.goto (-25), 3) := by decide +kernel
theorem dX12_keeps_39 : decode cX12_keeps 39 = .ok (.aload_n 0, 1) := by decide +kernel
theorem dX12_keeps_40 : decode cX12_keeps 40 = .ok (.dup, 1) := by decide +kernel
theorem dX12_keeps_41 : decode cX12_keeps 41 = .ok (.getfield 281, 3) := by decide +kernel
theorem dX12_keeps_44 : decode cX12_keeps 44 = .ok (.iconst 1, 1) := by decide +kernel
theorem dX12_keeps_45 : decode cX12_keeps 45 = .ok (.isub, 1) := by decide +kernel
theorem dX12_keeps_46 : decode cX12_keeps 46 = .ok (.putfield 281, 3) := by decide +kernel
theorem dX12_keeps_49 : decode cX12_keeps 49 = .ok (.iconst 0, 1) := by decide +kernel
theorem dX12_keeps_50 : decode cX12_keeps 50 = .ok (.istore_n 1, 1) := by decide +kernel
theorem dX12_keeps_51 : decode cX12_keeps 51 = .ok (.iload_n 1, 1) := by decide +kernel
theorem dX12_keeps_52 : decode cX12_keeps 52 = .ok (.bipush 68, 2) := by decide +kernel
theorem dX12_keeps_54 : decode cX12_keeps 54 = .ok (.if_icmp .ge 29, 3) := by decide +kernel
theorem dX12_keeps_57 : decode cX12_keeps 57 = .ok (.aload_n 0, 1) := by decide +kernel
theorem dX12_keeps_58 : decode cX12_keeps 58 = .ok (.getfield 152, 3) := by decide +kernel
theorem dX12_keeps_61 : decode cX12_keeps 61 = .ok (.bipush 68, 2) := by decide +kernel
theorem dX12_keeps_63 : decode cX12_keeps 63 = .ok (.aload_n 0, 1) := by decide +kernel
theorem dX12_keeps_64 : decode cX12_keeps 64 = .ok (.getfield 281, 3) := by decide +kernel
theorem dX12_keeps_67 : decode cX12_keeps 67 = .ok (.imul, 1) := by decide +kernel
theorem dX12_keeps_68 : decode cX12_keeps 68 = .ok (.iload_n 1, 1) := by decide +kernel
theorem dX12_keeps_69 : decode cX12_keeps 69 = .ok (.iadd, 1) := by decide +kernel
theorem dX12_keeps_70 : decode cX12_keeps 70 = .ok (.aload_n 0, 1) := by decide +kernel
theorem dX12_keeps_71 : decode cX12_keeps 71 = .ok (.getfield 134, 3) := by decide +kernel
theorem dX12_keeps_74 : decode cX12_keeps 74 = .ok (.iload_n 1, 1) := by decide +kernel
theorem dX12_keeps_75 : decode cX12_keeps 75 = .ok (.iaload, 1) := by decide +kernel
theorem dX12_keeps_76 : decode cX12_keeps 76 = .ok (.iastore, 1) := by decide +kernel
theorem dX12_keeps_77 : decode cX12_keeps 77 = .ok (.iinc 1 1, 3) := by decide +kernel
theorem dX12_keeps_80 : decode cX12_keeps 80 = .ok (.goto (-29), 3) := by decide +kernel
theorem dX12_keeps_83 : decode cX12_keeps 83 = .ok (.aload_n 0, 1) := by decide +kernel
theorem dX12_keeps_84 : decode cX12_keeps 84 = .ok (.dup, 1) := by decide +kernel
theorem dX12_keeps_85 : decode cX12_keeps 85 = .ok (.getfield 281, 3) := by decide +kernel
theorem dX12_keeps_88 : decode cX12_keeps 88 = .ok (.iconst 1, 1) := by decide +kernel
theorem dX12_keeps_89 : decode cX12_keeps 89 = .ok (.iadd, 1) := by decide +kernel
theorem dX12_keeps_90 : decode cX12_keeps 90 = .ok (.putfield 281, 3) := by decide +kernel
theorem dX12_keeps_93 : decode cX12_keeps 93 = .ok (.aload_n 0, 1) := by decide +kernel
theorem dX12_keeps_94 : decode cX12_keeps 94 = .ok (.invokevirtual 193, 3) := by decide +kernel
theorem dX12_keeps_97 : decode cX12_keeps 97 = .ok (.return_, 1) := by decide +kernel
theorem dX12_gate_0 : decode cX12_gate 0 = .ok (.aload_n 0, 1) := by decide +kernel
theorem dX12_gate_1 : decode cX12_gate 1 = .ok (.iload_n 1, 1) := by decide +kernel
theorem dX12_gate_2 : decode cX12_gate 2 = .ok (.invokevirtual 427, 3) := by decide +kernel
theorem dX12_gate_5 : decode cX12_gate 5 = .ok (.ifCond .eq 27, 3) := by decide +kernel
theorem dX12_gate_8 : decode cX12_gate 8 = .ok (.aload_n 0, 1) := by decide +kernel
theorem dX12_gate_9 : decode cX12_gate 9 = .ok (.getfield 134, 3) := by decide +kernel
theorem dX12_gate_12 : decode cX12_gate 12 = .ok (.bipush 64, 2) := by decide +kernel
theorem dX12_gate_14 : decode cX12_gate 14 = .ok (.iaload, 1) := by decide +kernel
theorem dX12_gate_15 : decode cX12_gate 15 = .ok (.iload_n 1, 1) := by decide +kernel
theorem dX12_gate_16 : decode cX12_gate 16 = .ok (.ishr, 1) := by decide +kernel
theorem dX12_gate_17 : decode cX12_gate 17 = .ok (.iconst 1, 1) := by decide +kernel
theorem dX12_gate_18 : decode cX12_gate 18 = .ok (.iand, 1) := by decide +kernel
theorem dX12_gate_19 : decode cX12_gate 19 = .ok (.iconst 1, 1) := by decide +kernel
theorem dX12_gate_20 : decode cX12_gate 20 = .ok (.if_icmp .ne 7, 3) := by decide +kernel
theorem dX12_gate_23 : decode cX12_gate 23 = .ok (.iconst 1, 1) := by decide +kernel
theorem dX12_gate_24 : decode cX12_gate 24 = .ok (.goto 4, 3) := by decide +kernel
theorem dX12_gate_27 : decode cX12_gate 27 = .ok (.iconst 0, 1) := by decide +kernel
theorem dX12_gate_28 : decode cX12_gate 28 = .ok (.iload_n 2, 1) := by decide +kernel
theorem dX12_gate_29 : decode cX12_gate 29 = .ok (.if_icmp .ne 5, 3) := by decide +kernel
theorem dX12_gate_32 : decode cX12_gate 32 = .ok (.iconst 0, 1) := by decide +kernel
theorem dX12_gate_33 : decode cX12_gate 33 = .ok (.ireturn, 1) := by decide +kernel
theorem dX12_gate_34 : decode cX12_gate 34 = .ok (.aload_n 0, 1) := by decide +kernel
theorem dX12_gate_35 : decode cX12_gate 35 = .ok (.invokevirtual 430, 3) := by decide +kernel
theorem dX12_gate_38 : decode cX12_gate 38 = .ok (.aload_n 0, 1) := by decide +kernel
theorem dX12_gate_39 : decode cX12_gate 39 = .ok (.getfield 137, 3) := by decide +kernel
theorem dX12_gate_42 : decode cX12_gate 42 = .ok (.bipush 64, 2) := by decide +kernel
theorem dX12_gate_44 : decode cX12_gate 44 = .ok (.dup2, 1) := by decide +kernel
theorem dX12_gate_45 : decode cX12_gate 45 = .ok (.iaload, 1) := by decide +kernel
theorem dX12_gate_46 : decode cX12_gate 46 = .ok (.iconst 1, 1) := by decide +kernel
theorem dX12_gate_47 : decode cX12_gate 47 = .ok (.iload_n 1, 1) := by decide +kernel
theorem dX12_gate_48 : decode cX12_gate 48 = .ok (.ishl, 1) := by decide +kernel
theorem dX12_gate_49 : decode cX12_gate 49 = .ok (.ixor, 1) := by decide +kernel
theorem dX12_gate_50 : decode cX12_gate 50 = .ok (.iastore, 1) := by decide +kernel
theorem dX12_gate_51 : decode cX12_gate 51 = .ok (.aload_n 0, 1) := by decide +kernel
theorem dX12_gate_52 : decode cX12_gate 52 = .ok (.invokevirtual 439, 3) := by decide +kernel
theorem dX12_gate_55 : decode cX12_gate 55 = .ok (.iconst 1, 1) := by decide +kernel
theorem dX12_gate_56 : decode cX12_gate 56 = .ok (.ireturn, 1) := by decide +kernel
theorem dX12_rate_0 : decode cX12_rate 0 = .ok (.iload_n 1, 1) := by decide +kernel
theorem dX12_rate_1 : decode cX12_rate 1 = .ok (.iconst 0, 1) := by decide +kernel
theorem dX12_rate_2 : decode cX12_rate 2 = .ok (.bipush 9, 2) := by decide +kernel
theorem dX12_rate_4 : decode cX12_rate 4 = .ok (.invokestatic 349, 3) := by decide +kernel
theorem dX12_rate_7 : decode cX12_rate 7 = .ok (.ifCond .eq 14, 3) := by decide +kernel
theorem dX12_rate_10 : decode cX12_rate 10 = .ok (.aload_n 0, 1) := by decide +kernel
theorem dX12_rate_11 : decode cX12_rate 11 = .ok (.getfield 134, 3) := by decide +kernel
theorem dX12_rate_14 : decode cX12_rate 14 = .ok (.bipush 65, 2) := by decide +kernel
theorem dX12_rate_16 : decode cX12_rate 16 = .ok (.iaload, 1) := by decide +kernel
theorem dX12_rate_17 : decode cX12_rate 17 = .ok (.iload_n 1, 1) := by decide +kernel
theorem dX12_rate_18 : decode cX12_rate 18 = .ok (.if_icmp .ne 5, 3) := by decide +kernel
theorem dX12_rate_21 : decode cX12_rate 21 = .ok (.iconst 0, 1) := by decide +kernel
theorem dX12_rate_22 : decode cX12_rate 22 = .ok (.ireturn, 1) := by decide +kernel
theorem dX12_rate_23 : decode cX12_rate 23 = .ok (.aload_n 0, 1) := by decide +kernel
theorem dX12_rate_24 : decode cX12_rate 24 = .ok (.invokevirtual 430, 3) := by decide +kernel
theorem dX12_rate_27 : decode cX12_rate 27 = .ok (.aload_n 0, 1) := by decide +kernel
theorem dX12_rate_28 : decode cX12_rate 28 = .ok (.getfield 137, 3) := by decide +kernel
theorem dX12_rate_31 : decode cX12_rate 31 = .ok (.bipush 65, 2) := by decide +kernel
theorem dX12_rate_33 : decode cX12_rate 33 = .ok (.iload_n 1, 1) := by decide +kernel
theorem dX12_rate_34 : decode cX12_rate 34 = .ok (.iastore, 1) := by decide +kernel
theorem dX12_rate_35 : decode cX12_rate 35 = .ok (.aload_n 0, 1) := by decide +kernel
theorem dX12_rate_36 : decode cX12_rate 36 = .ok (.invokevirtual 439, 3) := by decide +kernel
theorem dX12_rate_39 : decode cX12_rate 39 = .ok (.iconst 1, 1) := by decide +kernel
theorem dX12_rate_40 : decode cX12_rate 40 = .ok (.ireturn, 1) := by decide +kernel
theorem dX12_mend_0 : decode cX12_mend 0 = .ok (.aload_n 0, 1) := by decide +kernel
theorem dX12_mend_1 : decode cX12_mend 1 = .ok (.iload_n 1, 1) := by decide +kernel
theorem dX12_mend_2 : decode cX12_mend 2 = .ok (.invokevirtual 427, 3) := by decide +kernel
theorem dX12_mend_5 : decode cX12_mend 5 = .ok (.ifCond .ne 5, 3) := by decide +kernel
theorem dX12_mend_8 : decode cX12_mend 8 = .ok (.iconst (-1), 1) := by decide +kernel
theorem dX12_mend_9 : decode cX12_mend 9 = .ok (.ireturn, 1) := by decide +kernel
theorem dX12_mend_10 : decode cX12_mend 10 = .ok (.aload_n 0, 1) := by decide +kernel
theorem dX12_mend_11 : decode cX12_mend 11 = .ok (.getfield 134, 3) := by decide +kernel
theorem dX12_mend_14 : decode cX12_mend 14 = .ok (.iload_n 1, 1) := by decide +kernel
theorem dX12_mend_15 : decode cX12_mend 15 = .ok (.iaload, 1) := by decide +kernel
theorem dX12_mend_16 : decode cX12_mend 16 = .ok (.ifCond .eq 19, 3) := by decide +kernel
theorem dX12_mend_19 : decode cX12_mend 19 = .ok (.aload_n 0, 1) := by decide +kernel
theorem dX12_mend_20 : decode cX12_mend 20 = .ok (.getfield 134, 3) := by decide +kernel
theorem dX12_mend_23 : decode cX12_mend 23 = .ok (.iload_n 1, 1) := by decide +kernel
theorem dX12_mend_24 : decode cX12_mend 24 = .ok (.iaload, 1) := by decide +kernel
theorem dX12_mend_25 : decode cX12_mend 25 = .ok (.aload_n 0, 1) := by decide +kernel
theorem dX12_mend_26 : decode cX12_mend 26 = .ok (.getfield 134, 3) := by decide +kernel
theorem dX12_mend_29 : decode cX12_mend 29 = .ok (.bipush 66, 2) := by decide +kernel
theorem dX12_mend_31 : decode cX12_mend 31 = .ok (.iaload, 1) := by decide +kernel
theorem dX12_mend_32 : decode cX12_mend 32 = .ok (.if_icmp .le 6, 3) := by decide +kernel
theorem dX12_mend_35 : decode cX12_mend 35 = .ok (.bipush (-2), 2) := by decide +kernel
theorem dX12_mend_37 : decode cX12_mend 37 = .ok (.ireturn, 1) := by decide +kernel
theorem dX12_mend_38 : decode cX12_mend 38 = .ok (.aload_n 0, 1) := by decide +kernel
theorem dX12_mend_39 : decode cX12_mend 39 = .ok (.invokevirtual 430, 3) := by decide +kernel
theorem dX12_mend_42 : decode cX12_mend 42 = .ok (.aload_n 0, 1) := by decide +kernel
theorem dX12_mend_43 : decode cX12_mend 43 = .ok (.getfield 137, 3) := by decide +kernel
theorem dX12_mend_46 : decode cX12_mend 46 = .ok (.bipush 66, 2) := by decide +kernel
theorem dX12_mend_48 : decode cX12_mend 48 = .ok (.dup2, 1) := by decide +kernel
theorem dX12_mend_49 : decode cX12_mend 49 = .ok (.iaload, 1) := by decide +kernel
theorem dX12_mend_50 : decode cX12_mend 50 = .ok (.aload_n 0, 1) := by decide +kernel
theorem dX12_mend_51 : decode cX12_mend 51 = .ok (.getfield 137, 3) := by decide +kernel
theorem dX12_mend_54 : decode cX12_mend 54 = .ok (.iload_n 1, 1) := by decide +kernel
theorem dX12_mend_55 : decode cX12_mend 55 = .ok (.iaload, 1) := by decide +kernel
theorem dX12_mend_56 : decode cX12_mend 56 = .ok (.isub, 1) := by decide +kernel
theorem dX12_mend_57 : decode cX12_mend 57 = .ok (.iastore, 1) := by decide +kernel
theorem dX12_mend_58 : decode cX12_mend 58 = .ok (.aload_n 0, 1) := by decide +kernel
theorem dX12_mend_59 : decode cX12_mend 59 = .ok (.getfield 137, 3) := by decide +kernel
theorem dX12_mend_62 : decode cX12_mend 62 = .ok (.iload_n 1, 1) := by decide +kernel
theorem dX12_mend_63 : decode cX12_mend 63 = .ok (.iconst 0, 1) := by decide +kernel
theorem dX12_mend_64 : decode cX12_mend 64 = .ok (.iastore, 1) := by decide +kernel
theorem dX12_mend_65 : decode cX12_mend 65 = .ok (.aload_n 0, 1) := by decide +kernel
theorem dX12_mend_66 : decode cX12_mend 66 = .ok (.invokevirtual 439, 3) := by decide +kernel
theorem dX12_mend_69 : decode cX12_mend 69 = .ok (.aload_n 0, 1) := by decide +kernel
theorem dX12_mend_70 : decode cX12_mend 70 = .ok (.getfield 134, 3) := by decide +kernel
theorem dX12_mend_73 : decode cX12_mend 73 = .ok (.bipush 66, 2) := by decide +kernel
theorem dX12_mend_75 : decode cX12_mend 75 = .ok (.iaload, 1) := by decide +kernel
theorem dX12_mend_76 : decode cX12_mend 76 = .ok (.ireturn, 1) := by decide +kernel
theorem dX12_nights_0 : decode cX12_nights 0 = .ok (.iload_n 1, 1) := by decide +kernel
theorem dX12_nights_1 : decode cX12_nights 1 = .ok (.iconst 0, 1) := by decide +kernel
theorem dX12_nights_2 : decode cX12_nights 2 = .ok (.bipush 30, 2) := by decide +kernel
theorem dX12_nights_4 : decode cX12_nights 4 = .ok (.invokestatic 349, 3) := by decide +kernel
theorem dX12_nights_7 : decode cX12_nights 7 = .ok (.ifCond .ne 5, 3) := by decide +kernel
theorem dX12_nights_10 : decode cX12_nights 10 = .ok (.iconst (-1), 1) := by decide +kernel
theorem dX12_nights_11 : decode cX12_nights 11 = .ok (.ireturn, 1) := by decide +kernel
theorem dX12_nights_12 : decode cX12_nights 12 = .ok (.iload_n 1, 1) := by decide +kernel
theorem dX12_nights_13 : decode cX12_nights 13 = .ok (.ifCond .ne 11, 3) := by decide +kernel
theorem dX12_nights_16 : decode cX12_nights 16 = .ok (.aload_n 0, 1) := by decide +kernel
theorem dX12_nights_17 : decode cX12_nights 17 = .ok (.getfield 134, 3) := by decide +kernel
theorem dX12_nights_20 : decode cX12_nights 20 = .ok (.bipush 67, 2) := by decide +kernel
theorem dX12_nights_22 : decode cX12_nights 22 = .ok (.iaload, 1) := by decide +kernel
theorem dX12_nights_23 : decode cX12_nights 23 = .ok (.ireturn, 1) := by decide +kernel
theorem dX12_nights_24 : decode cX12_nights 24 = .ok (.aload_n 0, 1) := by decide +kernel
theorem dX12_nights_25 : decode cX12_nights 25 = .ok (.invokevirtual 430, 3) := by decide +kernel
theorem dX12_nights_28 : decode cX12_nights 28 = .ok (.aload_n 0, 1) := by decide +kernel
theorem dX12_nights_29 : decode cX12_nights 29 = .ok (.iload_n 1, 1) := by decide +kernel
theorem dX12_nights_30 : decode cX12_nights 30 = .ok (.invokevirtual 442, 3) := by decide +kernel
theorem dX12_nights_33 : decode cX12_nights 33 = .ok (.aload_n 0, 1) := by decide +kernel
theorem dX12_nights_34 : decode cX12_nights 34 = .ok (.invokevirtual 439, 3) := by decide +kernel
theorem dX12_nights_37 : decode cX12_nights 37 = .ok (.aload_n 0, 1) := by decide +kernel
theorem dX12_nights_38 : decode cX12_nights 38 = .ok (.getfield 134, 3) := by decide +kernel
theorem dX12_nights_41 : decode cX12_nights 41 = .ok (.bipush 67, 2) := by decide +kernel
theorem dX12_nights_43 : decode cX12_nights 43 = .ok (.iaload, 1) := by decide +kernel
theorem dX12_nights_44 : decode cX12_nights 44 = .ok (.ireturn, 1) := by decide +kernel
theorem dX12_undo_0 : decode cX12_undo 0 = .ok (.aload_n 0, 1) := by decide +kernel
theorem dX12_undo_1 : decode cX12_undo 1 = .ok (.getfield 281, 3) := by decide +kernel
theorem dX12_undo_4 : decode cX12_undo 4 = .ok (.ifCond .ne 5, 3) := by decide +kernel
theorem dX12_undo_7 : decode cX12_undo 7 = .ok (.iconst 0, 1) := by decide +kernel
theorem dX12_undo_8 : decode cX12_undo 8 = .ok (.ireturn, 1) := by decide +kernel
theorem dX12_undo_9 : decode cX12_undo 9 = .ok (.aload_n 0, 1) := by decide +kernel
theorem dX12_undo_10 : decode cX12_undo 10 = .ok (.dup, 1) := by decide +kernel
theorem dX12_undo_11 : decode cX12_undo 11 = .ok (.getfield 281, 3) := by decide +kernel
theorem dX12_undo_14 : decode cX12_undo 14 = .ok (.iconst 1, 1) := by decide +kernel
theorem dX12_undo_15 : decode cX12_undo 15 = .ok (.isub, 1) := by decide +kernel
theorem dX12_undo_16 : decode cX12_undo 16 = .ok (.putfield 281, 3) := by decide +kernel
theorem dX12_undo_19 : decode cX12_undo 19 = .ok (.iconst 0, 1) := by decide +kernel
theorem dX12_undo_20 : decode cX12_undo 20 = .ok (.istore_n 1, 1) := by decide +kernel
theorem dX12_undo_21 : decode cX12_undo 21 = .ok (.iload_n 1, 1) := by decide +kernel
theorem dX12_undo_22 : decode cX12_undo 22 = .ok (.bipush 68, 2) := by decide +kernel
theorem dX12_undo_24 : decode cX12_undo 24 = .ok (.if_icmp .ge 29, 3) := by decide +kernel
theorem dX12_undo_27 : decode cX12_undo 27 = .ok (.aload_n 0, 1) := by decide +kernel
theorem dX12_undo_28 : decode cX12_undo 28 = .ok (.getfield 134, 3) := by decide +kernel
theorem dX12_undo_31 : decode cX12_undo 31 = .ok (.iload_n 1, 1) := by decide +kernel
theorem dX12_undo_32 : decode cX12_undo 32 = .ok (.aload_n 0, 1) := by decide +kernel
theorem dX12_undo_33 : decode cX12_undo 33 = .ok (.getfield 152, 3) := by decide +kernel
theorem dX12_undo_36 : decode cX12_undo 36 = .ok (.bipush 68, 2) := by decide +kernel
theorem dX12_undo_38 : decode cX12_undo 38 = .ok (.aload_n 0, 1) := by decide +kernel
theorem dX12_undo_39 : decode cX12_undo 39 = .ok (.getfield 281, 3) := by decide +kernel
theorem dX12_undo_42 : decode cX12_undo 42 = .ok (.imul, 1) := by decide +kernel
theorem dX12_undo_43 : decode cX12_undo 43 = .ok (.iload_n 1, 1) := by decide +kernel
theorem dX12_undo_44 : decode cX12_undo 44 = .ok (.iadd, 1) := by decide +kernel
theorem dX12_undo_45 : decode cX12_undo 45 = .ok (.iaload, 1) := by decide +kernel
theorem dX12_undo_46 : decode cX12_undo 46 = .ok (.iastore, 1) := by decide +kernel
theorem dX12_undo_47 : decode cX12_undo 47 = .ok (.iinc 1 1, 3) := by decide +kernel
theorem dX12_undo_50 : decode cX12_undo 50 = .ok (.goto (-29), 3) := by decide +kernel
theorem dX12_undo_53 : decode cX12_undo 53 = .ok (.iconst 1, 1) := by decide +kernel
theorem dX12_undo_54 : decode cX12_undo 54 = .ok (.ireturn, 1) := by decide +kernel
theorem dX12_moreIn_0 : decode cX12_moreIn 0 = .ok (.iconst 0, 1) := by decide +kernel
theorem dX12_moreIn_1 : decode cX12_moreIn 1 = .ok (.istore_n 3, 1) := by decide +kernel
theorem dX12_moreIn_2 : decode cX12_moreIn 2 = .ok (.iload_n 1, 1) := by decide +kernel
theorem dX12_moreIn_3 : decode cX12_moreIn 3 = .ok (.istore 4, 2) := by decide +kernel
theorem dX12_moreIn_5 : decode cX12_moreIn 5 = .ok (.iload 4, 2) := by decide +kernel
theorem dX12_moreIn_7 : decode cX12_moreIn 7 = .ok (.iload_n 1, 1) := by decide +kernel
theorem dX12_moreIn_8 : decode cX12_moreIn 8 = .ok (.iload_n 2, 1) := by decide +kernel
theorem dX12_moreIn_9 : decode cX12_moreIn 9 = .ok (.iadd, 1) := by decide +kernel
theorem dX12_moreIn_10 : decode cX12_moreIn 10 = .ok (.if_icmp .ge 27, 3) := by decide +kernel
theorem dX12_moreIn_13 : decode cX12_moreIn 13 = .ok (.iload_n 3, 1) := by decide +kernel
theorem dX12_moreIn_14 : decode cX12_moreIn 14 = .ok (.aload_n 0, 1) := by decide +kernel
theorem dX12_moreIn_15 : decode cX12_moreIn 15 = .ok (.getfield 137, 3) := by decide +kernel
theorem dX12_moreIn_18 : decode cX12_moreIn 18 = .ok (.iload 4, 2) := by decide +kernel
theorem dX12_moreIn_20 : decode cX12_moreIn 20 = .ok (.iaload, 1) := by decide +kernel
theorem dX12_moreIn_21 : decode cX12_moreIn 21 = .ok (.aload_n 0, 1) := by decide +kernel
theorem dX12_moreIn_22 : decode cX12_moreIn 22 = .ok (.getfield 134, 3) := by decide +kernel
theorem dX12_moreIn_25 : decode cX12_moreIn 25 = .ok (.iload 4, 2) := by decide +kernel
theorem dX12_moreIn_27 : decode cX12_moreIn 27 = .ok (.iaload, 1) := by decide +kernel
theorem dX12_moreIn_28 : decode cX12_moreIn 28 = .ok (.isub, 1) := by decide +kernel
theorem dX12_moreIn_29 : decode cX12_moreIn 29 = .ok (.iadd, 1) := by decide +kernel
theorem dX12_moreIn_30 : decode cX12_moreIn 30 = .ok (.istore_n 3, 1) := by decide +kernel
theorem dX12_moreIn_31 : decode cX12_moreIn 31 = .ok (.iinc 4 1, 3) := by decide +kernel
theorem dX12_moreIn_34 : decode cX12_moreIn 34 = .ok (.goto (-29), 3) := by decide +kernel
theorem dX12_moreIn_37 : decode cX12_moreIn 37 = .ok (.iload_n 3, 1) := by decide +kernel
theorem dX12_moreIn_38 : decode cX12_moreIn 38 = .ok (.ireturn, 1) := by decide +kernel
theorem dX12_tonight_0 : decode cX12_tonight 0 = .ok (.iload_n 1, 1) := by decide +kernel
theorem dX12_tonight_1 : decode cX12_tonight 1 = .ok (.iconst 0, 1) := by decide +kernel
theorem dX12_tonight_2 : decode cX12_tonight 2 = .ok (.iconst 2, 1) := by decide +kernel
theorem dX12_tonight_3 : decode cX12_tonight 3 = .ok (.invokestatic 349, 3) := by decide +kernel
theorem dX12_tonight_6 : decode cX12_tonight 6 = .ok (.ifCond .ne 5, 3) := by decide +kernel
theorem dX12_tonight_9 : decode cX12_tonight 9 = .ok (.iconst (-1), 1) := by decide +kernel
theorem dX12_tonight_10 : decode cX12_tonight 10 = .ok (.ireturn, 1) := by decide +kernel
theorem dX12_tonight_11 : decode cX12_tonight 11 = .ok (.aload_n 0, 1) := by decide +kernel
theorem dX12_tonight_12 : decode cX12_tonight 12 = .ok (.invokevirtual 430, 3) := by decide +kernel
theorem dX12_tonight_15 : decode cX12_tonight 15 = .ok (.aload_n 0, 1) := by decide +kernel
theorem dX12_tonight_16 : decode cX12_tonight 16 = .ok (.invokevirtual 424, 3) := by decide +kernel
theorem dX12_tonight_19 : decode cX12_tonight 19 = .ok (.iload_n 1, 1) := by decide +kernel
theorem dX12_tonight_20 : decode cX12_tonight 20 = .ok (.ifCond .ne 21, 3) := by decide +kernel
theorem dX12_tonight_23 : decode cX12_tonight 23 = .ok (.aload_n 0, 1) := by decide +kernel
theorem dX12_tonight_24 : decode cX12_tonight 24 = .ok (.getfield 137, 3) := by decide +kernel
theorem dX12_tonight_27 : decode cX12_tonight 27 = .ok (.bipush 66, 2) := by decide +kernel
theorem dX12_tonight_29 : decode cX12_tonight 29 = .ok (.iaload, 1) := by decide +kernel
theorem dX12_tonight_30 : decode cX12_tonight 30 = .ok (.aload_n 0, 1) := by decide +kernel
theorem dX12_tonight_31 : decode cX12_tonight 31 = .ok (.getfield 134, 3) := by decide +kernel
theorem dX12_tonight_34 : decode cX12_tonight 34 = .ok (.bipush 66, 2) := by decide +kernel
theorem dX12_tonight_36 : decode cX12_tonight 36 = .ok (.iaload, 1) := by decide +kernel
theorem dX12_tonight_37 : decode cX12_tonight 37 = .ok (.isub, 1) := by decide +kernel
theorem dX12_tonight_38 : decode cX12_tonight 38 = .ok (.goto 27, 3) := by decide +kernel
theorem dX12_tonight_41 : decode cX12_tonight 41 = .ok (.iload_n 1, 1) := by decide +kernel
theorem dX12_tonight_42 : decode cX12_tonight 42 = .ok (.iconst 1, 1) := by decide +kernel
theorem dX12_tonight_43 : decode cX12_tonight 43 = .ok (.if_icmp .ne 14, 3) := by decide +kernel
theorem dX12_tonight_46 : decode cX12_tonight 46 = .ok (.aload_n 0, 1) := by decide +kernel
theorem dX12_tonight_47 : decode cX12_tonight 47 = .ok (.bipush 43, 2) := by decide +kernel
theorem dX12_tonight_49 : decode cX12_tonight 49 = .ok (.bipush 7, 2) := by decide +kernel
theorem dX12_tonight_51 : decode cX12_tonight 51 = .ok (.invokevirtual 445, 3) := by decide +kernel
theorem dX12_tonight_54 : decode cX12_tonight 54 = .ok (.goto 11, 3) := by decide +kernel
theorem dX12_tonight_57 : decode cX12_tonight 57 = .ok (.aload_n 0, 1) := by decide +kernel
theorem dX12_tonight_58 : decode cX12_tonight 58 = .ok (.bipush 12, 2) := by decide +kernel
theorem dX12_tonight_60 : decode cX12_tonight 60 = .ok (.bipush 12, 2) := by decide +kernel
theorem dX12_tonight_62 : decode cX12_tonight 62 = .ok (.invokevirtual 445, 3) := by decide +kernel
theorem dX12_tonight_65 : decode cX12_tonight 65 = .ok (.ireturn, 1) := by decide +kernel
theorem dX12_fillsPut_0 : decode cX12_fillsPut 0 = .ok (.aload_n 0, 1) := by decide +kernel
theorem dX12_fillsPut_1 : decode cX12_fillsPut 1 = .ok (.bipush (-2), 2) := by decide +kernel
theorem dX12_fillsPut_3 : decode cX12_fillsPut 3 = .ok (.putfield 448, 3) := by decide +kernel
theorem dX12_fillsPut_6 : decode cX12_fillsPut 6 = .ok (.aload_n 0, 1) := by decide +kernel
theorem dX12_fillsPut_7 : decode cX12_fillsPut 7 = .ok (.bipush (-2), 2) := by decide +kernel
theorem dX12_fillsPut_9 : decode cX12_fillsPut 9 = .ok (.putfield 451, 3) := by decide +kernel
theorem dX12_fillsPut_12 : decode cX12_fillsPut 12 = .ok (.iconst 0, 1) := by decide +kernel
theorem dX12_fillsPut_13 : decode cX12_fillsPut 13 = .ok (.istore_n 3, 1) := by decide +kernel
theorem dX12_fillsPut_14 : decode cX12_fillsPut 14 = .ok (.iload_n 3, 1) := by decide +kernel
theorem dX12_fillsPut_15 : decode cX12_fillsPut 15 = .ok (.iconst 1, 1) := by decide +kernel
theorem dX12_fillsPut_16 : decode cX12_fillsPut 16 = .ok (.aload_n 0, 1) := by decide +kernel
theorem dX12_fillsPut_17 : decode cX12_fillsPut 17 = .ok (.getfield 49, 3) := by decide +kernel
theorem dX12_fillsPut_20 : decode cX12_fillsPut 20 = .ok (.aload_n 0, 1) := by decide +kernel
theorem dX12_fillsPut_21 : decode cX12_fillsPut 21 = .ok (.getfield 263, 3) := by decide +kernel
theorem dX12_fillsPut_24 : decode cX12_fillsPut 24 = .ok (.iaload, 1) := by decide +kernel
theorem dX12_fillsPut_25 : decode cX12_fillsPut 25 = .ok (.ishl, 1) := by decide +kernel
theorem dX12_fillsPut_26 : decode cX12_fillsPut 26 = .ok (.if_icmp .ge 93, 3) := by decide +kernel
theorem dX12_fillsPut_29 : decode cX12_fillsPut 29 = .ok (.iload_n 3, 1) := by decide +kernel
theorem dX12_fillsPut_30 : decode cX12_fillsPut 30 = .ok (.invokestatic 454, 3) := by decide +kernel
theorem dX12_fillsPut_33 : decode cX12_fillsPut 33 = .ok (.iload_n 1, 1) := by decide +kernel
theorem dX12_fillsPut_34 : decode cX12_fillsPut 34 = .ok (.if_icmp .eq 6, 3) := by decide +kernel
theorem dX12_fillsPut_37 : decode cX12_fillsPut 37 = .ok (.goto 76, 3) := by decide +kernel
theorem dX12_fillsPut_40 : decode cX12_fillsPut 40 = .ok (.aload_n 0, 1) := by decide +kernel
theorem dX12_fillsPut_41 : decode cX12_fillsPut 41 = .ok (.invokevirtual 430, 3) := by decide +kernel
theorem dX12_fillsPut_44 : decode cX12_fillsPut 44 = .ok (.aload_n 0, 1) := by decide +kernel
theorem dX12_fillsPut_45 : decode cX12_fillsPut 45 = .ok (.getfield 137, 3) := by decide +kernel
theorem dX12_fillsPut_48 : decode cX12_fillsPut 48 = .ok (.bipush 64, 2) := by decide +kernel
theorem dX12_fillsPut_50 : decode cX12_fillsPut 50 = .ok (.iload_n 3, 1) := by decide +kernel
theorem dX12_fillsPut_51 : decode cX12_fillsPut 51 = .ok (.iastore, 1) := by decide +kernel
theorem dX12_fillsPut_52 : decode cX12_fillsPut 52 = .ok (.aload_n 0, 1) := by decide +kernel
theorem dX12_fillsPut_53 : decode cX12_fillsPut 53 = .ok (.iload_n 2, 1) := by decide +kernel
theorem dX12_fillsPut_54 : decode cX12_fillsPut 54 = .ok (.invokevirtual 442, 3) := by decide +kernel
theorem dX12_fillsPut_57 : decode cX12_fillsPut 57 = .ok (.aload_n 0, 1) := by decide +kernel
theorem dX12_fillsPut_58 : decode cX12_fillsPut 58 = .ok (.getfield 451, 3) := by decide +kernel
theorem dX12_fillsPut_61 : decode cX12_fillsPut 61 = .ok (.ifCond .lt 28, 3) := by decide +kernel
theorem dX12_fillsPut_64 : decode cX12_fillsPut 64 = .ok (.aload_n 0, 1) := by decide +kernel
theorem dX12_fillsPut_65 : decode cX12_fillsPut 65 = .ok (.getfield 137, 3) := by decide +kernel
theorem dX12_fillsPut_68 : decode cX12_fillsPut 68 = .ok (.bipush 66, 2) := by decide +kernel
theorem dX12_fillsPut_70 : decode cX12_fillsPut 70 = .ok (.iaload, 1) := by decide +kernel
theorem dX12_fillsPut_71 : decode cX12_fillsPut 71 = .ok (.aload_n 0, 1) := by decide +kernel
theorem dX12_fillsPut_72 : decode cX12_fillsPut 72 = .ok (.getfield 134, 3) := by decide +kernel
theorem dX12_fillsPut_75 : decode cX12_fillsPut 75 = .ok (.bipush 66, 2) := by decide +kernel
theorem dX12_fillsPut_77 : decode cX12_fillsPut 77 = .ok (.iaload, 1) := by decide +kernel
theorem dX12_fillsPut_78 : decode cX12_fillsPut 78 = .ok (.isub, 1) := by decide +kernel
theorem dX12_fillsPut_79 : decode cX12_fillsPut 79 = .ok (.aload_n 0, 1) := by decide +kernel
theorem dX12_fillsPut_80 : decode cX12_fillsPut 80 = .ok (.getfield 448, 3) := by decide +kernel
theorem dX12_fillsPut_83 : decode cX12_fillsPut 83 = .ok (.if_icmp .gt 6, 3) := by decide +kernel
theorem dX12_fillsPut_86 : decode cX12_fillsPut 86 = .ok (.goto 27, 3) := by decide +kernel
theorem dX12_fillsPut_89 : decode cX12_fillsPut 89 = .ok (.aload_n 0, 1) := by decide +kernel
theorem dX12_fillsPut_90 : decode cX12_fillsPut 90 = .ok (.aload_n 0, 1) := by decide +kernel
theorem dX12_fillsPut_91 : decode cX12_fillsPut 91 = .ok (.getfield 137, 3) := by decide +kernel
theorem dX12_fillsPut_94 : decode cX12_fillsPut 94 = .ok (.bipush 66, 2) := by decide +kernel
theorem dX12_fillsPut_96 : decode cX12_fillsPut 96 = .ok (.iaload, 1) := by decide +kernel
theorem dX12_fillsPut_97 : decode cX12_fillsPut 97 = .ok (.aload_n 0, 1) := by decide +kernel
theorem dX12_fillsPut_98 : decode cX12_fillsPut 98 = .ok (.getfield 134, 3) := by decide +kernel
theorem dX12_fillsPut_101 : decode cX12_fillsPut 101 = .ok (.bipush 66, 2) := by decide +kernel
theorem dX12_fillsPut_103 : decode cX12_fillsPut 103 = .ok (.iaload, 1) := by decide +kernel
theorem dX12_fillsPut_104 : decode cX12_fillsPut 104 = .ok (.isub, 1) := by decide +kernel
theorem dX12_fillsPut_105 : decode cX12_fillsPut 105 = .ok (.putfield 448, 3) := by decide +kernel
theorem dX12_fillsPut_108 : decode cX12_fillsPut 108 = .ok (.aload_n 0, 1) := by decide +kernel
theorem dX12_fillsPut_109 : decode cX12_fillsPut 109 = .ok (.iload_n 3, 1) := by decide +kernel
theorem dX12_fillsPut_110 : decode cX12_fillsPut 110 = .ok (.putfield 451, 3) := by decide +kernel
theorem dX12_fillsPut_113 : decode cX12_fillsPut 113 = .ok (.iinc 3 1, 3) := by decide +kernel
theorem dX12_fillsPut_116 : decode cX12_fillsPut 116 = .ok (.goto (-102), 3) := by decide +kernel
theorem dX12_fillsPut_119 : decode cX12_fillsPut 119 = .ok (.return_, 1) := by decide +kernel
theorem dX12_put_0 : decode cX12_put 0 = .ok (.iload_n 1, 1) := by decide +kernel
theorem dX12_put_1 : decode cX12_put 1 = .ok (.iconst 1, 1) := by decide +kernel
theorem dX12_put_2 : decode cX12_put 2 = .ok (.iconst 3, 1) := by decide +kernel
theorem dX12_put_3 : decode cX12_put 3 = .ok (.invokestatic 349, 3) := by decide +kernel
theorem dX12_put_6 : decode cX12_put 6 = .ok (.ifCond .eq 22, 3) := by decide +kernel
theorem dX12_put_9 : decode cX12_put 9 = .ok (.iload_n 2, 1) := by decide +kernel
theorem dX12_put_10 : decode cX12_put 10 = .ok (.iconst 1, 1) := by decide +kernel
theorem dX12_put_11 : decode cX12_put 11 = .ok (.bipush 9, 2) := by decide +kernel
theorem dX12_put_13 : decode cX12_put 13 = .ok (.invokestatic 349, 3) := by decide +kernel
theorem dX12_put_16 : decode cX12_put 16 = .ok (.ifCond .eq 12, 3) := by decide +kernel
theorem dX12_put_19 : decode cX12_put 19 = .ok (.iload_n 3, 1) := by decide +kernel
theorem dX12_put_20 : decode cX12_put 20 = .ok (.iconst 0, 1) := by decide +kernel
theorem dX12_put_21 : decode cX12_put 21 = .ok (.iconst 1, 1) := by decide +kernel
theorem dX12_put_22 : decode cX12_put 22 = .ok (.invokestatic 349, 3) := by decide +kernel
theorem dX12_put_25 : decode cX12_put 25 = .ok (.ifCond .ne 5, 3) := by decide +kernel
theorem dX12_put_28 : decode cX12_put 28 = .ok (.iconst (-1), 1) := by decide +kernel
theorem dX12_put_29 : decode cX12_put 29 = .ok (.ireturn, 1) := by decide +kernel
theorem dX12_put_30 : decode cX12_put 30 = .ok (.aload_n 0, 1) := by decide +kernel
theorem dX12_put_31 : decode cX12_put 31 = .ok (.iload_n 1, 1) := by decide +kernel
theorem dX12_put_32 : decode cX12_put 32 = .ok (.iload_n 2, 1) := by decide +kernel
theorem dX12_put_33 : decode cX12_put 33 = .ok (.invokevirtual 457, 3) := by decide +kernel
theorem dX12_put_36 : decode cX12_put 36 = .ok (.iload_n 3, 1) := by decide +kernel
theorem dX12_put_37 : decode cX12_put 37 = .ok (.ifCond .ne 10, 3) := by decide +kernel
theorem dX12_put_40 : decode cX12_put 40 = .ok (.aload_n 0, 1) := by decide +kernel
theorem dX12_put_41 : decode cX12_put 41 = .ok (.getfield 448, 3) := by decide +kernel
theorem dX12_put_44 : decode cX12_put 44 = .ok (.goto 7, 3) := by decide +kernel
theorem dX12_put_47 : decode cX12_put 47 = .ok (.aload_n 0, 1) := by decide +kernel
theorem dX12_put_48 : decode cX12_put 48 = .ok (.getfield 451, 3) := by decide +kernel
theorem dX12_put_51 : decode cX12_put 51 = .ok (.ireturn, 1) := by decide +kernel
theorem dX12_isFree_0 : decode cX12_isFree 0 = .ok (.aload_n 0, 1) := by decide +kernel
theorem dX12_isFree_1 : decode cX12_isFree 1 = .ok (.iload_n 1, 1) := by decide +kernel
theorem dX12_isFree_2 : decode cX12_isFree 2 = .ok (.invokevirtual 418, 3) := by decide +kernel
theorem dX12_isFree_5 : decode cX12_isFree 5 = .ok (.ifCond .ne 5, 3) := by decide +kernel
theorem dX12_isFree_8 : decode cX12_isFree 8 = .ok (.iconst 0, 1) := by decide +kernel
theorem dX12_isFree_9 : decode cX12_isFree 9 = .ok (.ireturn, 1) := by decide +kernel
theorem dX12_isFree_10 : decode cX12_isFree 10 = .ok (.iconst 0, 1) := by decide +kernel
theorem dX12_isFree_11 : decode cX12_isFree 11 = .ok (.istore_n 2, 1) := by decide +kernel
theorem dX12_isFree_12 : decode cX12_isFree 12 = .ok (.iload_n 2, 1) := by decide +kernel
theorem dX12_isFree_13 : decode cX12_isFree 13 = .ok (.aload_n 0, 1) := by decide +kernel
theorem dX12_isFree_14 : decode cX12_isFree 14 = .ok (.getfield 409, 3) := by decide +kernel
theorem dX12_isFree_17 : decode cX12_isFree 17 = .ok (.if_icmp .ge 24, 3) := by decide +kernel
theorem dX12_isFree_20 : decode cX12_isFree 20 = .ok (.aload_n 0, 1) := by decide +kernel
theorem dX12_isFree_21 : decode cX12_isFree 21 = .ok (.aload_n 0, 1) := by decide +kernel
theorem dX12_isFree_22 : decode cX12_isFree 22 = .ok (.getfield 149, 3) := by decide +kernel
theorem dX12_isFree_25 : decode cX12_isFree 25 = .ok (.iload_n 2, 1) := by decide +kernel
theorem dX12_isFree_26 : decode cX12_isFree 26 = .ok (.iaload, 1) := by decide +kernel
theorem dX12_isFree_27 : decode cX12_isFree 27 = .ok (.invokevirtual 385, 3) := by decide +kernel
theorem dX12_isFree_30 : decode cX12_isFree 30 = .ok (.ifCond .eq 5, 3) := by decide +kernel
theorem dX12_isFree_33 : decode cX12_isFree 33 = .ok (.iconst 0, 1) := by decide +kernel
theorem dX12_isFree_34 : decode cX12_isFree 34 = .ok (.ireturn, 1) := by decide +kernel
theorem dX12_isFree_35 : decode cX12_isFree 35 = .ok (.iinc 2 1, 3) := by decide +kernel
theorem dX12_isFree_38 : decode cX12_isFree 38 = .ok (.goto (-26), 3) := by decide +kernel
theorem dX12_isFree_41 : decode cX12_isFree 41 = .ok (.iconst 1, 1) := by decide +kernel
theorem dX12_isFree_42 : decode cX12_isFree 42 = .ok (.ireturn, 1) := by decide +kernel
theorem dX12_freeNow_0 : decode cX12_freeNow 0 = .ok (.iconst 0, 1) := by decide +kernel
theorem dX12_freeNow_1 : decode cX12_freeNow 1 = .ok (.istore_n 1, 1) := by decide +kernel
theorem dX12_freeNow_2 : decode cX12_freeNow 2 = .ok (.iconst 0, 1) := by decide +kernel
theorem dX12_freeNow_3 : decode cX12_freeNow 3 = .ok (.istore_n 2, 1) := by decide +kernel
theorem dX12_freeNow_4 : decode cX12_freeNow 4 = .ok (.iload_n 2, 1) := by decide +kernel
theorem dX12_freeNow_5 : decode cX12_freeNow 5 = .ok (.aload_n 0, 1) := by decide +kernel
theorem dX12_freeNow_6 : decode cX12_freeNow 6 = .ok (.getfield 68, 3) := by decide +kernel
theorem dX12_freeNow_9 : decode cX12_freeNow 9 = .ok (.aload_n 0, 1) := by decide +kernel
theorem dX12_freeNow_10 : decode cX12_freeNow 10 = .ok (.getfield 263, 3) := by decide +kernel
theorem dX12_freeNow_13 : decode cX12_freeNow 13 = .ok (.iaload, 1) := by decide +kernel
theorem dX12_freeNow_14 : decode cX12_freeNow 14 = .ok (.if_icmp .ge 23, 3) := by decide +kernel
theorem dX12_freeNow_17 : decode cX12_freeNow 17 = .ok (.aload_n 0, 1) := by decide +kernel
theorem dX12_freeNow_18 : decode cX12_freeNow 18 = .ok (.iload_n 2, 1) := by decide +kernel
theorem dX12_freeNow_19 : decode cX12_freeNow 19 = .ok (.invokevirtual 460, 3) := by decide +kernel
theorem dX12_freeNow_22 : decode cX12_freeNow 22 = .ok (.ifCond .eq 9, 3) := by decide +kernel
theorem dX12_freeNow_25 : decode cX12_freeNow 25 = .ok (.iload_n 1, 1) := by decide +kernel
theorem dX12_freeNow_26 : decode cX12_freeNow 26 = .ok (.iconst 1, 1) := by decide +kernel
theorem dX12_freeNow_27 : decode cX12_freeNow 27 = .ok (.iload_n 2, 1) := by decide +kernel
theorem dX12_freeNow_28 : decode cX12_freeNow 28 = .ok (.ishl, 1) := by decide +kernel
theorem dX12_freeNow_29 : decode cX12_freeNow 29 = .ok (.ior, 1) := by decide +kernel
theorem dX12_freeNow_30 : decode cX12_freeNow 30 = .ok (.istore_n 1, 1) := by decide +kernel
theorem dX12_freeNow_31 : decode cX12_freeNow 31 = .ok (.iinc 2 1, 3) := by decide +kernel
theorem dX12_freeNow_34 : decode cX12_freeNow 34 = .ok (.goto (-30), 3) := by decide +kernel
theorem dX12_freeNow_37 : decode cX12_freeNow 37 = .ok (.iload_n 1, 1) := by decide +kernel
theorem dX12_freeNow_38 : decode cX12_freeNow 38 = .ok (.ireturn, 1) := by decide +kernel
theorem dX12_free_0 : decode cX12_free 0 = .ok (.aload_n 0, 1) := by decide +kernel
theorem dX12_free_1 : decode cX12_free 1 = .ok (.invokevirtual 430, 3) := by decide +kernel
theorem dX12_free_4 : decode cX12_free 4 = .ok (.aload_n 0, 1) := by decide +kernel
theorem dX12_free_5 : decode cX12_free 5 = .ok (.invokevirtual 463, 3) := by decide +kernel
theorem dX12_free_8 : decode cX12_free 8 = .ok (.ireturn, 1) := by decide +kernel
theorem dX12_stop_0 : decode cX12_stop 0 = .ok (.iload_n 1, 1) := by decide +kernel
theorem dX12_stop_1 : decode cX12_stop 1 = .ok (.iconst 0, 1) := by decide +kernel
theorem dX12_stop_2 : decode cX12_stop 2 = .ok (.iconst 1, 1) := by decide +kernel
theorem dX12_stop_3 : decode cX12_stop 3 = .ok (.invokestatic 349, 3) := by decide +kernel
theorem dX12_stop_6 : decode cX12_stop 6 = .ok (.ifCond .ne 5, 3) := by decide +kernel
theorem dX12_stop_9 : decode cX12_stop 9 = .ok (.iconst (-1), 1) := by decide +kernel
theorem dX12_stop_10 : decode cX12_stop 10 = .ok (.ireturn, 1) := by decide +kernel
theorem dX12_stop_11 : decode cX12_stop 11 = .ok (.aload_n 0, 1) := by decide +kernel
theorem dX12_stop_12 : decode cX12_stop 12 = .ok (.invokevirtual 430, 3) := by decide +kernel
theorem dX12_stop_15 : decode cX12_stop 15 = .ok (.iconst (-1), 1) := by decide +kernel
theorem dX12_stop_16 : decode cX12_stop 16 = .ok (.istore_n 2, 1) := by decide +kernel
theorem dX12_stop_17 : decode cX12_stop 17 = .ok (.iconst 0, 1) := by decide +kernel
theorem dX12_stop_18 : decode cX12_stop 18 = .ok (.istore_n 3, 1) := by decide +kernel
theorem dX12_stop_19 : decode cX12_stop 19 = .ok (.iload_n 3, 1) := by decide +kernel
theorem dX12_stop_20 : decode cX12_stop 20 = .ok (.iconst 1, 1) := by decide +kernel
theorem dX12_stop_21 : decode cX12_stop 21 = .ok (.aload_n 0, 1) := by decide +kernel
theorem dX12_stop_22 : decode cX12_stop 22 = .ok (.getfield 49, 3) := by decide +kernel
theorem dX12_stop_25 : decode cX12_stop 25 = .ok (.aload_n 0, 1) := by decide +kernel
theorem dX12_stop_26 : decode cX12_stop 26 = .ok (.getfield 263, 3) := by decide +kernel
theorem dX12_stop_29 : decode cX12_stop 29 = .ok (.iaload, 1) := by decide +kernel
theorem dX12_stop_30 : decode cX12_stop 30 = .ok (.ishl, 1) := by decide +kernel
theorem dX12_stop_31 : decode cX12_stop 31 = .ok (.if_icmp .ge 44, 3) := by decide +kernel
theorem dX12_stop_34 : decode cX12_stop 34 = .ok (.iload_n 2, 1) := by decide +kernel
theorem dX12_stop_35 : decode cX12_stop 35 = .ok (.ifCond .lt 17, 3) := by decide +kernel
theorem dX12_stop_38 : decode cX12_stop 38 = .ok (.iload_n 3, 1) := by decide +kernel
theorem dX12_stop_39 : decode cX12_stop 39 = .ok (.invokestatic 454, 3) := by decide +kernel
theorem dX12_stop_42 : decode cX12_stop 42 = .ok (.iload_n 2, 1) := by decide +kernel
theorem dX12_stop_43 : decode cX12_stop 43 = .ok (.invokestatic 454, 3) := by decide +kernel
theorem dX12_stop_46 : decode cX12_stop 46 = .ok (.if_icmp .lt 6, 3) := by decide +kernel
theorem dX12_stop_49 : decode cX12_stop 49 = .ok (.goto 20, 3) := by decide +kernel
theorem dX12_stop_52 : decode cX12_stop 52 = .ok (.aload_n 0, 1) := by decide +kernel
theorem dX12_stop_53 : decode cX12_stop 53 = .ok (.getfield 137, 3) := by decide +kernel
theorem dX12_stop_56 : decode cX12_stop 56 = .ok (.bipush 64, 2) := by decide +kernel
theorem dX12_stop_58 : decode cX12_stop 58 = .ok (.iload_n 3, 1) := by decide +kernel
theorem dX12_stop_59 : decode cX12_stop 59 = .ok (.iastore, 1) := by decide +kernel
theorem dX12_stop_60 : decode cX12_stop 60 = .ok (.aload_n 0, 1) := by decide +kernel
theorem dX12_stop_61 : decode cX12_stop 61 = .ok (.invokevirtual 463, 3) := by decide +kernel
theorem dX12_stop_64 : decode cX12_stop 64 = .ok (.ifCond .ne 5, 3) := by decide +kernel
theorem dX12_stop_67 : decode cX12_stop 67 = .ok (.iload_n 3, 1) := by decide +kernel
theorem dX12_stop_68 : decode cX12_stop 68 = .ok (.istore_n 2, 1) := by decide +kernel
theorem dX12_stop_69 : decode cX12_stop 69 = .ok (.iinc 3 1, 3) := by decide +kernel
theorem dX12_stop_72 : decode cX12_stop 72 = .ok (.goto (-53), 3) := by decide +kernel
theorem dX12_stop_75 : decode cX12_stop 75 = .ok (.iload_n 1, 1) := by decide +kernel
theorem dX12_stop_76 : decode cX12_stop 76 = .ok (.ifCond .ne 10, 3) := by decide +kernel
theorem dX12_stop_79 : decode cX12_stop 79 = .ok (.iload_n 2, 1) := by decide +kernel
theorem dX12_stop_80 : decode cX12_stop 80 = .ok (.invokestatic 454, 3) := by decide +kernel
theorem dX12_stop_83 : decode cX12_stop 83 = .ok (.goto 4, 3) := by decide +kernel
theorem dX12_stop_86 : decode cX12_stop 86 = .ok (.iload_n 2, 1) := by decide +kernel
theorem dX12_stop_87 : decode cX12_stop 87 = .ok (.ireturn, 1) := by decide +kernel
theorem dX12_saves_0 : decode cX12_saves 0 = .ok (.aload_n 0, 1) := by decide +kernel
theorem dX12_saves_1 : decode cX12_saves 1 = .ok (.iload_n 1, 1) := by decide +kernel
theorem dX12_saves_2 : decode cX12_saves 2 = .ok (.invokevirtual 433, 3) := by decide +kernel
theorem dX12_saves_5 : decode cX12_saves 5 = .ok (.ifCond .ne 5, 3) := by decide +kernel
theorem dX12_saves_8 : decode cX12_saves 8 = .ok (.iconst (-1), 1) := by decide +kernel
theorem dX12_saves_9 : decode cX12_saves 9 = .ok (.ireturn, 1) := by decide +kernel
theorem dX12_saves_10 : decode cX12_saves 10 = .ok (.aload_n 0, 1) := by decide +kernel
theorem dX12_saves_11 : decode cX12_saves 11 = .ok (.invokevirtual 430, 3) := by decide +kernel
theorem dX12_saves_14 : decode cX12_saves 14 = .ok (.aload_n 0, 1) := by decide +kernel
theorem dX12_saves_15 : decode cX12_saves 15 = .ok (.iload_n 1, 1) := by decide +kernel
theorem dX12_saves_16 : decode cX12_saves 16 = .ok (.invokevirtual 418, 3) := by decide +kernel
theorem dX12_saves_19 : decode cX12_saves 19 = .ok (.ifCond .ne 6, 3) := by decide +kernel
theorem dX12_saves_22 : decode cX12_saves 22 = .ok (.bipush (-2), 2) := by decide +kernel
theorem dX12_saves_24 : decode cX12_saves 24 = .ok (.ireturn, 1) := by decide +kernel
theorem dX12_saves_25 : decode cX12_saves 25 = .ok (.aload_n 0, 1) := by decide +kernel
theorem dX12_saves_26 : decode cX12_saves 26 = .ok (.getfield 140, 3) := by decide +kernel
theorem dX12_saves_29 : decode cX12_saves 29 = .ok (.aload_n 0, 1) := by decide +kernel
theorem dX12_saves_30 : decode cX12_saves 30 = .ok (.getfield 71, 3) := by decide +kernel
theorem dX12_saves_33 : decode cX12_saves 33 = .ok (.bipush 7, 2) := by decide +kernel
theorem dX12_saves_35 : decode cX12_saves 35 = .ok (.aload_n 0, 1) := by decide +kernel
theorem dX12_saves_36 : decode cX12_saves 36 = .ok (.getfield 263, 3) := by decide +kernel
theorem dX12_saves_39 : decode cX12_saves 39 = .ok (.imul, 1) := by decide +kernel
theorem dX12_saves_40 : decode cX12_saves 40 = .ok (.iload_n 1, 1) := by decide +kernel
theorem dX12_saves_41 : decode cX12_saves 41 = .ok (.iadd, 1) := by decide +kernel
theorem dX12_saves_42 : decode cX12_saves 42 = .ok (.iaload, 1) := by decide +kernel
theorem dX12_saves_43 : decode cX12_saves 43 = .ok (.iaload, 1) := by decide +kernel
theorem dX12_saves_44 : decode cX12_saves 44 = .ok (.istore_n 2, 1) := by decide +kernel
theorem dX12_saves_45 : decode cX12_saves 45 = .ok (.aload_n 0, 1) := by decide +kernel
theorem dX12_saves_46 : decode cX12_saves 46 = .ok (.getfield 137, 3) := by decide +kernel
theorem dX12_saves_49 : decode cX12_saves 49 = .ok (.bipush 64, 2) := by decide +kernel
theorem dX12_saves_51 : decode cX12_saves 51 = .ok (.iconst 0, 1) := by decide +kernel
theorem dX12_saves_52 : decode cX12_saves 52 = .ok (.iastore, 1) := by decide +kernel
theorem dX12_saves_53 : decode cX12_saves 53 = .ok (.aload_n 0, 1) := by decide +kernel
theorem dX12_saves_54 : decode cX12_saves 54 = .ok (.iload_n 1, 1) := by decide +kernel
theorem dX12_saves_55 : decode cX12_saves 55 = .ok (.invokevirtual 418, 3) := by decide +kernel
theorem dX12_saves_58 : decode cX12_saves 58 = .ok (.pop, 1) := by decide +kernel
theorem dX12_saves_59 : decode cX12_saves 59 = .ok (.iload_n 2, 1) := by decide +kernel
theorem dX12_saves_60 : decode cX12_saves 60 = .ok (.aload_n 0, 1) := by decide +kernel
theorem dX12_saves_61 : decode cX12_saves 61 = .ok (.getfield 140, 3) := by decide +kernel
theorem dX12_saves_64 : decode cX12_saves 64 = .ok (.aload_n 0, 1) := by decide +kernel
theorem dX12_saves_65 : decode cX12_saves 65 = .ok (.getfield 71, 3) := by decide +kernel
theorem dX12_saves_68 : decode cX12_saves 68 = .ok (.bipush 7, 2) := by decide +kernel
theorem dX12_saves_70 : decode cX12_saves 70 = .ok (.aload_n 0, 1) := by decide +kernel
theorem dX12_saves_71 : decode cX12_saves 71 = .ok (.getfield 263, 3) := by decide +kernel
theorem dX12_saves_74 : decode cX12_saves 74 = .ok (.imul, 1) := by decide +kernel
theorem dX12_saves_75 : decode cX12_saves 75 = .ok (.iload_n 1, 1) := by decide +kernel
theorem dX12_saves_76 : decode cX12_saves 76 = .ok (.iadd, 1) := by decide +kernel
theorem dX12_saves_77 : decode cX12_saves 77 = .ok (.iaload, 1) := by decide +kernel
theorem dX12_saves_78 : decode cX12_saves 78 = .ok (.iaload, 1) := by decide +kernel
theorem dX12_saves_79 : decode cX12_saves 79 = .ok (.isub, 1) := by decide +kernel
theorem dX12_saves_80 : decode cX12_saves 80 = .ok (.ireturn, 1) := by decide +kernel
theorem dX12_isLong_0 : decode cX12_isLong 0 = .ok (.iload_n 0, 1) := by decide +kernel
theorem dX12_isLong_1 : decode cX12_isLong 1 = .ok (.iconst 0, 1) := by decide +kernel
theorem dX12_isLong_2 : decode cX12_isLong 2 = .ok (.bipush 60, 2) := by decide +kernel
theorem dX12_isLong_4 : decode cX12_isLong 4 = .ok (.invokestatic 349, 3) := by decide +kernel
theorem dX12_isLong_7 : decode cX12_isLong 7 = .ok (.ireturn, 1) := by decide +kernel
theorem dX12_pays_0 : decode cX12_pays 0 = .ok (.aload_n 0, 1) := by decide +kernel
theorem dX12_pays_1 : decode cX12_pays 1 = .ok (.iload_n 1, 1) := by decide +kernel
theorem dX12_pays_2 : decode cX12_pays 2 = .ok (.invokevirtual 433, 3) := by decide +kernel
theorem dX12_pays_5 : decode cX12_pays 5 = .ok (.ifCond .eq 10, 3) := by decide +kernel
theorem dX12_pays_8 : decode cX12_pays 8 = .ok (.iload_n 2, 1) := by decide +kernel
theorem dX12_pays_9 : decode cX12_pays 9 = .ok (.invokestatic 466, 3) := by decide +kernel
theorem dX12_pays_12 : decode cX12_pays 12 = .ok (.ifCond .ne 5, 3) := by decide +kernel
theorem dX12_pays_15 : decode cX12_pays 15 = .ok (.iconst (-1), 1) := by decide +kernel
theorem dX12_pays_16 : decode cX12_pays 16 = .ok (.ireturn, 1) := by decide +kernel
theorem dX12_pays_17 : decode cX12_pays 17 = .ok (.aload_n 0, 1) := by decide +kernel
theorem dX12_pays_18 : decode cX12_pays 18 = .ok (.invokevirtual 430, 3) := by decide +kernel
theorem dX12_pays_21 : decode cX12_pays 21 = .ok (.aload_n 0, 1) := by decide +kernel
theorem dX12_pays_22 : decode cX12_pays 22 = .ok (.iload_n 2, 1) := by decide +kernel
theorem dX12_pays_23 : decode cX12_pays 23 = .ok (.invokevirtual 442, 3) := by decide +kernel
theorem dX12_pays_26 : decode cX12_pays 26 = .ok (.aload_n 0, 1) := by decide +kernel
theorem dX12_pays_27 : decode cX12_pays 27 = .ok (.getfield 137, 3) := by decide +kernel
theorem dX12_pays_30 : decode cX12_pays 30 = .ok (.bipush 36, 2) := by decide +kernel
theorem dX12_pays_32 : decode cX12_pays 32 = .ok (.iload_n 1, 1) := by decide +kernel
theorem dX12_pays_33 : decode cX12_pays 33 = .ok (.iadd, 1) := by decide +kernel
theorem dX12_pays_34 : decode cX12_pays 34 = .ok (.iaload, 1) := by decide +kernel
theorem dX12_pays_35 : decode cX12_pays 35 = .ok (.aload_n 0, 1) := by decide +kernel
theorem dX12_pays_36 : decode cX12_pays 36 = .ok (.getfield 134, 3) := by decide +kernel
theorem dX12_pays_39 : decode cX12_pays 39 = .ok (.bipush 36, 2) := by decide +kernel
theorem dX12_pays_41 : decode cX12_pays 41 = .ok (.iload_n 1, 1) := by decide +kernel
theorem dX12_pays_42 : decode cX12_pays 42 = .ok (.iadd, 1) := by decide +kernel
theorem dX12_pays_43 : decode cX12_pays 43 = .ok (.iaload, 1) := by decide +kernel
theorem dX12_pays_44 : decode cX12_pays 44 = .ok (.isub, 1) := by decide +kernel
theorem dX12_pays_45 : decode cX12_pays 45 = .ok (.ireturn, 1) := by decide +kernel
theorem dX12_seen_0 : decode cX12_seen 0 = .ok (.aload_n 0, 1) := by decide +kernel
theorem dX12_seen_1 : decode cX12_seen 1 = .ok (.iload_n 1, 1) := by decide +kernel
theorem dX12_seen_2 : decode cX12_seen 2 = .ok (.invokevirtual 427, 3) := by decide +kernel
theorem dX12_seen_5 : decode cX12_seen 5 = .ok (.ifCond .eq 10, 3) := by decide +kernel
theorem dX12_seen_8 : decode cX12_seen 8 = .ok (.iload_n 2, 1) := by decide +kernel
theorem dX12_seen_9 : decode cX12_seen 9 = .ok (.invokestatic 466, 3) := by decide +kernel
theorem dX12_seen_12 : decode cX12_seen 12 = .ok (.ifCond .ne 5, 3) := by decide +kernel
theorem dX12_seen_15 : decode cX12_seen 15 = .ok (.iconst (-1), 1) := by decide +kernel
theorem dX12_seen_16 : decode cX12_seen 16 = .ok (.ireturn, 1) := by decide +kernel
theorem dX12_seen_17 : decode cX12_seen 17 = .ok (.aload_n 0, 1) := by decide +kernel
theorem dX12_seen_18 : decode cX12_seen 18 = .ok (.invokevirtual 430, 3) := by decide +kernel
theorem dX12_seen_21 : decode cX12_seen 21 = .ok (.aload_n 0, 1) := by decide +kernel
theorem dX12_seen_22 : decode cX12_seen 22 = .ok (.iload_n 2, 1) := by decide +kernel
theorem dX12_seen_23 : decode cX12_seen 23 = .ok (.invokevirtual 442, 3) := by decide +kernel
theorem dX12_seen_26 : decode cX12_seen 26 = .ok (.aload_n 0, 1) := by decide +kernel
theorem dX12_seen_27 : decode cX12_seen 27 = .ok (.getfield 137, 3) := by decide +kernel
theorem dX12_seen_30 : decode cX12_seen 30 = .ok (.bipush 12, 2) := by decide +kernel
theorem dX12_seen_32 : decode cX12_seen 32 = .ok (.iload_n 1, 1) := by decide +kernel
theorem dX12_seen_33 : decode cX12_seen 33 = .ok (.iadd, 1) := by decide +kernel
theorem dX12_seen_34 : decode cX12_seen 34 = .ok (.iaload, 1) := by decide +kernel
theorem dX12_seen_35 : decode cX12_seen 35 = .ok (.aload_n 0, 1) := by decide +kernel
theorem dX12_seen_36 : decode cX12_seen 36 = .ok (.getfield 134, 3) := by decide +kernel
theorem dX12_seen_39 : decode cX12_seen 39 = .ok (.bipush 12, 2) := by decide +kernel
theorem dX12_seen_41 : decode cX12_seen 41 = .ok (.iload_n 1, 1) := by decide +kernel
theorem dX12_seen_42 : decode cX12_seen 42 = .ok (.iadd, 1) := by decide +kernel
theorem dX12_seen_43 : decode cX12_seen 43 = .ok (.iaload, 1) := by decide +kernel
theorem dX12_seen_44 : decode cX12_seen 44 = .ok (.isub, 1) := by decide +kernel
theorem dX12_seen_45 : decode cX12_seen 45 = .ok (.ireturn, 1) := by decide +kernel
theorem dX12_busiest_0 : decode cX12_busiest 0 = .ok (.iload_n 1, 1) := by decide +kernel
theorem dX12_busiest_1 : decode cX12_busiest 1 = .ok (.invokestatic 466, 3) := by decide +kernel
theorem dX12_busiest_4 : decode cX12_busiest 4 = .ok (.ifCond .eq 12, 3) := by decide +kernel
theorem dX12_busiest_7 : decode cX12_busiest 7 = .ok (.iload_n 2, 1) := by decide +kernel
theorem dX12_busiest_8 : decode cX12_busiest 8 = .ok (.iconst 0, 1) := by decide +kernel
theorem dX12_busiest_9 : decode cX12_busiest 9 = .ok (.iconst 1, 1) := by decide +kernel
theorem dX12_busiest_10 : decode cX12_busiest 10 = .ok (.invokestatic 349, 3) := by decide +kernel
theorem dX12_busiest_13 : decode cX12_busiest 13 = .ok (.ifCond .ne 5, 3) := by decide +kernel
theorem dX12_busiest_16 : decode cX12_busiest 16 = .ok (.iconst (-1), 1) := by decide +kernel
theorem dX12_busiest_17 : decode cX12_busiest 17 = .ok (.ireturn, 1) := by decide +kernel
theorem dX12_busiest_18 : decode cX12_busiest 18 = .ok (.aload_n 0, 1) := by decide +kernel
theorem dX12_busiest_19 : decode cX12_busiest 19 = .ok (.getfield 49, 3) := by decide +kernel
theorem dX12_busiest_22 : decode cX12_busiest 22 = .ok (.aload_n 0, 1) := by decide +kernel
theorem dX12_busiest_23 : decode cX12_busiest 23 = .ok (.getfield 263, 3) := by decide +kernel
theorem dX12_busiest_26 : decode cX12_busiest 26 = .ok (.iaload, 1) := by decide +kernel
theorem dX12_busiest_27 : decode cX12_busiest 27 = .ok (.ifCond .ne 6, 3) := by decide +kernel
theorem dX12_busiest_30 : decode cX12_busiest 30 = .ok (.bipush (-2), 2) := by decide +kernel
theorem dX12_busiest_32 : decode cX12_busiest 32 = .ok (.ireturn, 1) := by decide +kernel
theorem dX12_busiest_33 : decode cX12_busiest 33 = .ok (.aload_n 0, 1) := by decide +kernel
theorem dX12_busiest_34 : decode cX12_busiest 34 = .ok (.invokevirtual 430, 3) := by decide +kernel
theorem dX12_busiest_37 : decode cX12_busiest 37 = .ok (.aload_n 0, 1) := by decide +kernel
theorem dX12_busiest_38 : decode cX12_busiest 38 = .ok (.iload_n 1, 1) := by decide +kernel
theorem dX12_busiest_39 : decode cX12_busiest 39 = .ok (.invokevirtual 442, 3) := by decide +kernel
theorem dX12_busiest_42 : decode cX12_busiest 42 = .ok (.iconst 0, 1) := by decide +kernel
theorem dX12_busiest_43 : decode cX12_busiest 43 = .ok (.istore_n 3, 1) := by decide +kernel
theorem dX12_busiest_44 : decode cX12_busiest 44 = .ok (.iconst 1, 1) := by decide +kernel
theorem dX12_busiest_45 : decode cX12_busiest 45 = .ok (.istore 4, 2) := by decide +kernel
theorem dX12_busiest_47 : decode cX12_busiest 47 = .ok (.iload 4, 2) := by decide +kernel
theorem dX12_busiest_49 : decode cX12_busiest 49 = .ok (.aload_n 0, 1) := by decide +kernel
theorem dX12_busiest_50 : decode cX12_busiest 50 = .ok (.getfield 49, 3) := by decide +kernel
theorem dX12_busiest_53 : decode cX12_busiest 53 = .ok (.aload_n 0, 1) := by decide +kernel
theorem dX12_busiest_54 : decode cX12_busiest 54 = .ok (.getfield 263, 3) := by decide +kernel
theorem dX12_busiest_57 : decode cX12_busiest 57 = .ok (.iaload, 1) := by decide +kernel
theorem dX12_busiest_58 : decode cX12_busiest 58 = .ok (.if_icmp .ge 43, 3) := by decide +kernel
theorem dX12_busiest_61 : decode cX12_busiest 61 = .ok (.aload_n 0, 1) := by decide +kernel
theorem dX12_busiest_62 : decode cX12_busiest 62 = .ok (.getfield 137, 3) := by decide +kernel
theorem dX12_busiest_65 : decode cX12_busiest 65 = .ok (.iload 4, 2) := by decide +kernel
theorem dX12_busiest_67 : decode cX12_busiest 67 = .ok (.iaload, 1) := by decide +kernel
theorem dX12_busiest_68 : decode cX12_busiest 68 = .ok (.aload_n 0, 1) := by decide +kernel
theorem dX12_busiest_69 : decode cX12_busiest 69 = .ok (.getfield 134, 3) := by decide +kernel
theorem dX12_busiest_72 : decode cX12_busiest 72 = .ok (.iload 4, 2) := by decide +kernel
theorem dX12_busiest_74 : decode cX12_busiest 74 = .ok (.iaload, 1) := by decide +kernel
theorem dX12_busiest_75 : decode cX12_busiest 75 = .ok (.isub, 1) := by decide +kernel
theorem dX12_busiest_76 : decode cX12_busiest 76 = .ok (.aload_n 0, 1) := by decide +kernel
theorem dX12_busiest_77 : decode cX12_busiest 77 = .ok (.getfield 137, 3) := by decide +kernel
theorem dX12_busiest_80 : decode cX12_busiest 80 = .ok (.iload_n 3, 1) := by decide +kernel
theorem dX12_busiest_81 : decode cX12_busiest 81 = .ok (.iaload, 1) := by decide +kernel
theorem dX12_busiest_82 : decode cX12_busiest 82 = .ok (.aload_n 0, 1) := by decide +kernel
theorem dX12_busiest_83 : decode cX12_busiest 83 = .ok (.getfield 134, 3) := by decide +kernel
theorem dX12_busiest_86 : decode cX12_busiest 86 = .ok (.iload_n 3, 1) := by decide +kernel
theorem dX12_busiest_87 : decode cX12_busiest 87 = .ok (.iaload, 1) := by decide +kernel
theorem dX12_busiest_88 : decode cX12_busiest 88 = .ok (.isub, 1) := by decide +kernel
theorem dX12_busiest_89 : decode cX12_busiest 89 = .ok (.if_icmp .le 6, 3) := by decide +kernel
theorem dX12_busiest_92 : decode cX12_busiest 92 = .ok (.iload 4, 2) := by decide +kernel
theorem dX12_busiest_94 : decode cX12_busiest 94 = .ok (.istore_n 3, 1) := by decide +kernel
theorem dX12_busiest_95 : decode cX12_busiest 95 = .ok (.iinc 4 1, 3) := by decide +kernel
theorem dX12_busiest_98 : decode cX12_busiest 98 = .ok (.goto (-51), 3) := by decide +kernel
theorem dX12_busiest_101 : decode cX12_busiest 101 = .ok (.iload_n 2, 1) := by decide +kernel
theorem dX12_busiest_102 : decode cX12_busiest 102 = .ok (.ifCond .ne 7, 3) := by decide +kernel
theorem dX12_busiest_105 : decode cX12_busiest 105 = .ok (.iload_n 3, 1) := by decide +kernel
theorem dX12_busiest_106 : decode cX12_busiest 106 = .ok (.goto 16, 3) := by decide +kernel
theorem dX12_busiest_109 : decode cX12_busiest 109 = .ok (.aload_n 0, 1) := by decide +kernel
theorem dX12_busiest_110 : decode cX12_busiest 110 = .ok (.getfield 137, 3) := by decide +kernel
theorem dX12_busiest_113 : decode cX12_busiest 113 = .ok (.iload_n 3, 1) := by decide +kernel
theorem dX12_busiest_114 : decode cX12_busiest 114 = .ok (.iaload, 1) := by decide +kernel
theorem dX12_busiest_115 : decode cX12_busiest 115 = .ok (.aload_n 0, 1) := by decide +kernel
theorem dX12_busiest_116 : decode cX12_busiest 116 = .ok (.getfield 134, 3) := by decide +kernel
theorem dX12_busiest_119 : decode cX12_busiest 119 = .ok (.iload_n 3, 1) := by decide +kernel
theorem dX12_busiest_120 : decode cX12_busiest 120 = .ok (.iaload, 1) := by decide +kernel
theorem dX12_busiest_121 : decode cX12_busiest 121 = .ok (.isub, 1) := by decide +kernel
theorem dX12_busiest_122 : decode cX12_busiest 122 = .ok (.ireturn, 1) := by decide +kernel
theorem dX12_best_0 : decode cX12_best 0 = .ok (.iload_n 1, 1) := by decide +kernel
theorem dX12_best_1 : decode cX12_best 1 = .ok (.iconst 1, 1) := by decide +kernel
theorem dX12_best_2 : decode cX12_best 2 = .ok (.bipush 30, 2) := by decide +kernel
theorem dX12_best_4 : decode cX12_best 4 = .ok (.invokestatic 349, 3) := by decide +kernel
theorem dX12_best_7 : decode cX12_best 7 = .ok (.ifCond .eq 12, 3) := by decide +kernel
theorem dX12_best_10 : decode cX12_best 10 = .ok (.iload_n 2, 1) := by decide +kernel
theorem dX12_best_11 : decode cX12_best 11 = .ok (.iconst 0, 1) := by decide +kernel
theorem dX12_best_12 : decode cX12_best 12 = .ok (.iconst 1, 1) := by decide +kernel
theorem dX12_best_13 : decode cX12_best 13 = .ok (.invokestatic 349, 3) := by decide +kernel
theorem dX12_best_16 : decode cX12_best 16 = .ok (.ifCond .ne 5, 3) := by decide +kernel
theorem dX12_best_19 : decode cX12_best 19 = .ok (.iconst (-1), 1) := by decide +kernel
theorem dX12_best_20 : decode cX12_best 20 = .ok (.ireturn, 1) := by decide +kernel
theorem dX12_best_21 : decode cX12_best 21 = .ok (.iconst 0, 1) := by decide +kernel
theorem dX12_best_22 : decode cX12_best 22 = .ok (.istore_n 3, 1) := by decide +kernel
theorem dX12_best_23 : decode cX12_best 23 = .ok (.iconst (-1), 1) := by decide +kernel
theorem dX12_best_24 : decode cX12_best 24 = .ok (.istore 4, 2) := by decide +kernel
theorem dX12_best_26 : decode cX12_best 26 = .ok (.iconst 0, 1) := by decide +kernel
theorem dX12_best_27 : decode cX12_best 27 = .ok (.istore 5, 2) := by decide +kernel
theorem dX12_best_29 : decode cX12_best 29 = .ok (.iload 5, 2) := by decide +kernel
theorem dX12_best_31 : decode cX12_best 31 = .ok (.bipush 9, 2) := by decide +kernel
theorem dX12_best_33 : decode cX12_best 33 = .ok (.if_icmp .gt 70, 3) := by decide +kernel
theorem dX12_best_36 : decode cX12_best 36 = .ok (.aload_n 0, 1) := by decide +kernel
theorem dX12_best_37 : decode cX12_best 37 = .ok (.invokevirtual 430, 3) := by decide +kernel
theorem dX12_best_40 : decode cX12_best 40 = .ok (.aload_n 0, 1) := by decide +kernel
theorem dX12_best_41 : decode cX12_best 41 = .ok (.getfield 137, 3) := by decide +kernel
theorem dX12_best_44 : decode cX12_best 44 = .ok (.bipush 65, 2) := by decide +kernel
theorem dX12_best_46 : decode cX12_best 46 = .ok (.iload 5, 2) := by decide +kernel
theorem dX12_best_48 : decode cX12_best 48 = .ok (.iastore, 1) := by decide +kernel
theorem dX12_best_49 : decode cX12_best 49 = .ok (.aload_n 0, 1) := by decide +kernel
theorem dX12_best_50 : decode cX12_best 50 = .ok (.iload_n 1, 1) := by decide +kernel
theorem dX12_best_51 : decode cX12_best 51 = .ok (.invokevirtual 442, 3) := by decide +kernel
theorem dX12_best_54 : decode cX12_best 54 = .ok (.aload_n 0, 1) := by decide +kernel
theorem dX12_best_55 : decode cX12_best 55 = .ok (.getfield 137, 3) := by decide +kernel
theorem dX12_best_58 : decode cX12_best 58 = .ok (.bipush 66, 2) := by decide +kernel
theorem dX12_best_60 : decode cX12_best 60 = .ok (.iaload, 1) := by decide +kernel
theorem dX12_best_61 : decode cX12_best 61 = .ok (.aload_n 0, 1) := by decide +kernel
theorem dX12_best_62 : decode cX12_best 62 = .ok (.getfield 134, 3) := by decide +kernel
theorem dX12_best_65 : decode cX12_best 65 = .ok (.bipush 66, 2) := by decide +kernel
theorem dX12_best_67 : decode cX12_best 67 = .ok (.iaload, 1) := by decide +kernel
theorem dX12_best_68 : decode cX12_best 68 = .ok (.isub, 1) := by decide +kernel
theorem dX12_best_69 : decode cX12_best 69 = .ok (.iload 4, 2) := by decide +kernel
theorem dX12_best_71 : decode cX12_best 71 = .ok (.if_icmp .gt 6, 3) := by decide +kernel
theorem dX12_best_74 : decode cX12_best 74 = .ok (.goto 23, 3) := by decide +kernel
theorem dX12_best_77 : decode cX12_best 77 = .ok (.aload_n 0, 1) := by decide +kernel
theorem dX12_best_78 : decode cX12_best 78 = .ok (.getfield 137, 3) := by decide +kernel
theorem dX12_best_81 : decode cX12_best 81 = .ok (.bipush 66, 2) := by decide +kernel
theorem dX12_best_83 : decode cX12_best 83 = .ok (.iaload, 1) := by decide +kernel
theorem dX12_best_84 : decode cX12_best 84 = .ok (.aload_n 0, 1) := by decide +kernel
theorem dX12_best_85 : decode cX12_best 85 = .ok (.getfield 134, 3) := by decide +kernel
theorem dX12_best_88 : decode cX12_best 88 = .ok (.bipush 66, 2) := by decide +kernel
theorem dX12_best_90 : decode cX12_best 90 = .ok (.iaload, 1) := by decide +kernel
theorem dX12_best_91 : decode cX12_best 91 = .ok (.isub, 1) := by decide +kernel
theorem dX12_best_92 : decode cX12_best 92 = .ok (.istore 4, 2) := by decide +kernel
theorem dX12_best_94 : decode cX12_best 94 = .ok (.iload 5, 2) := by decide +kernel
theorem dX12_best_96 : decode cX12_best 96 = .ok (.istore_n 3, 1) := by decide +kernel
theorem dX12_best_97 : decode cX12_best 97 = .ok (.iinc 5 1, 3) := by decide +kernel
theorem dX12_best_100 : decode cX12_best 100 = .ok (.goto (-71), 3) := by decide +kernel
theorem dX12_best_103 : decode cX12_best 103 = .ok (.iload_n 2, 1) := by decide +kernel
theorem dX12_best_104 : decode cX12_best 104 = .ok (.ifCond .ne 7, 3) := by decide +kernel
theorem dX12_best_107 : decode cX12_best 107 = .ok (.iload_n 3, 1) := by decide +kernel
theorem dX12_best_108 : decode cX12_best 108 = .ok (.goto 5, 3) := by decide +kernel
theorem dX12_best_111 : decode cX12_best 111 = .ok (.iload 4, 2) := by decide +kernel
theorem dX12_best_113 : decode cX12_best 113 = .ok (.ireturn, 1) := by decide +kernel
theorem dX12_fillsTaken_0 : decode cX12_fillsTaken 0 = .ok (.iconst 0, 1) := by decide +kernel
theorem dX12_fillsTaken_1 : decode cX12_fillsTaken 1 = .ok (.istore_n 2, 1) := by decide +kernel
theorem dX12_fillsTaken_2 : decode cX12_fillsTaken 2 = .ok (.iload_n 2, 1) := by decide +kernel
theorem dX12_fillsTaken_3 : decode cX12_fillsTaken 3 = .ok (.bipush 16, 2) := by decide +kernel
theorem dX12_fillsTaken_5 : decode cX12_fillsTaken 5 = .ok (.if_icmp .ge 110, 3) := by decide +kernel
theorem dX12_fillsTaken_8 : decode cX12_fillsTaken 8 = .ok (.aload_n 0, 1) := by decide +kernel
theorem dX12_fillsTaken_9 : decode cX12_fillsTaken 9 = .ok (.invokevirtual 430, 3) := by decide +kernel
theorem dX12_fillsTaken_12 : decode cX12_fillsTaken 12 = .ok (.aload_n 0, 1) := by decide +kernel
theorem dX12_fillsTaken_13 : decode cX12_fillsTaken 13 = .ok (.getfield 137, 3) := by decide +kernel
theorem dX12_fillsTaken_16 : decode cX12_fillsTaken 16 = .ok (.bipush 65, 2) := by decide +kernel
theorem dX12_fillsTaken_18 : decode cX12_fillsTaken 18 = .ok (.iload_n 2, 1) := by decide +kernel
theorem dX12_fillsTaken_19 : decode cX12_fillsTaken 19 = .ok (.iconst 4, 1) := by decide +kernel
theorem dX12_fillsTaken_20 : decode cX12_fillsTaken 20 = .ok (.idiv, 1) := by decide +kernel
theorem dX12_fillsTaken_21 : decode cX12_fillsTaken 21 = .ok (.iastore, 1) := by decide +kernel
theorem dX12_fillsTaken_22 : decode cX12_fillsTaken 22 = .ok (.aload_n 0, 1) := by decide +kernel
theorem dX12_fillsTaken_23 : decode cX12_fillsTaken 23 = .ok (.iload_n 2, 1) := by decide +kernel
theorem dX12_fillsTaken_24 : decode cX12_fillsTaken 24 = .ok (.iconst 4, 1) := by decide +kernel
theorem dX12_fillsTaken_25 : decode cX12_fillsTaken 25 = .ok (.irem, 1) := by decide +kernel
theorem dX12_fillsTaken_26 : decode cX12_fillsTaken 26 = .ok (.putfield 359, 3) := by decide +kernel
theorem dX12_fillsTaken_29 : decode cX12_fillsTaken 29 = .ok (.aload_n 0, 1) := by decide +kernel
theorem dX12_fillsTaken_30 : decode cX12_fillsTaken 30 = .ok (.iload_n 1, 1) := by decide +kernel
theorem dX12_fillsTaken_31 : decode cX12_fillsTaken 31 = .ok (.invokevirtual 442, 3) := by decide +kernel
theorem dX12_fillsTaken_34 : decode cX12_fillsTaken 34 = .ok (.aload_n 0, 1) := by decide +kernel
theorem dX12_fillsTaken_35 : decode cX12_fillsTaken 35 = .ok (.getfield 155, 3) := by decide +kernel
theorem dX12_fillsTaken_38 : decode cX12_fillsTaken 38 = .ok (.iconst 2, 1) := by decide +kernel
theorem dX12_fillsTaken_39 : decode cX12_fillsTaken 39 = .ok (.iload_n 2, 1) := by decide +kernel
theorem dX12_fillsTaken_40 : decode cX12_fillsTaken 40 = .ok (.imul, 1) := by decide +kernel
theorem dX12_fillsTaken_41 : decode cX12_fillsTaken 41 = .ok (.iconst 0, 1) := by decide +kernel
theorem dX12_fillsTaken_42 : decode cX12_fillsTaken 42 = .ok (.iastore, 1) := by decide +kernel
theorem dX12_fillsTaken_43 : decode cX12_fillsTaken 43 = .ok (.aload_n 0, 1) := by decide +kernel
theorem dX12_fillsTaken_44 : decode cX12_fillsTaken 44 = .ok (.getfield 155, 3) := by decide +kernel
theorem dX12_fillsTaken_47 : decode cX12_fillsTaken 47 = .ok (.iconst 2, 1) := by decide +kernel
theorem dX12_fillsTaken_48 : decode cX12_fillsTaken 48 = .ok (.iload_n 2, 1) := by decide +kernel
theorem dX12_fillsTaken_49 : decode cX12_fillsTaken 49 = .ok (.imul, 1) := by decide +kernel
theorem dX12_fillsTaken_50 : decode cX12_fillsTaken 50 = .ok (.iconst 1, 1) := by decide +kernel
theorem dX12_fillsTaken_51 : decode cX12_fillsTaken 51 = .ok (.iadd, 1) := by decide +kernel
theorem dX12_fillsTaken_52 : decode cX12_fillsTaken 52 = .ok (.iconst 0, 1) := by decide +kernel
theorem dX12_fillsTaken_53 : decode cX12_fillsTaken 53 = .ok (.iastore, 1) := by decide +kernel
theorem dX12_fillsTaken_54 : decode cX12_fillsTaken 54 = .ok (.iconst 0, 1) := by decide +kernel
theorem dX12_fillsTaken_55 : decode cX12_fillsTaken 55 = .ok (.istore_n 3, 1) := by decide +kernel
theorem dX12_fillsTaken_56 : decode cX12_fillsTaken 56 = .ok (.iload_n 3, 1) := by decide +kernel
theorem dX12_fillsTaken_57 : decode cX12_fillsTaken 57 = .ok (.aload_n 0, 1) := by decide +kernel
theorem dX12_fillsTaken_58 : decode cX12_fillsTaken 58 = .ok (.getfield 49, 3) := by decide +kernel
theorem dX12_fillsTaken_61 : decode cX12_fillsTaken 61 = .ok (.aload_n 0, 1) := by decide +kernel
theorem dX12_fillsTaken_62 : decode cX12_fillsTaken 62 = .ok (.getfield 263, 3) := by decide +kernel
theorem dX12_fillsTaken_65 : decode cX12_fillsTaken 65 = .ok (.iaload, 1) := by decide +kernel
theorem dX12_fillsTaken_66 : decode cX12_fillsTaken 66 = .ok (.if_icmp .ge 43, 3) := by decide +kernel
theorem dX12_fillsTaken_69 : decode cX12_fillsTaken 69 = .ok (.aload_n 0, 1) := by decide +kernel
theorem dX12_fillsTaken_70 : decode cX12_fillsTaken 70 = .ok (.getfield 155, 3) := by decide +kernel
theorem dX12_fillsTaken_73 : decode cX12_fillsTaken 73 = .ok (.iconst 2, 1) := by decide +kernel
theorem dX12_fillsTaken_74 : decode cX12_fillsTaken 74 = .ok (.iload_n 2, 1) := by decide +kernel
theorem dX12_fillsTaken_75 : decode cX12_fillsTaken 75 = .ok (.imul, 1) := by decide +kernel
theorem dX12_fillsTaken_76 : decode cX12_fillsTaken 76 = .ok (.iload_n 3, 1) := by decide +kernel
theorem dX12_fillsTaken_77 : decode cX12_fillsTaken 77 = .ok (.iconst 2, 1) := by decide +kernel
theorem dX12_fillsTaken_78 : decode cX12_fillsTaken 78 = .ok (.irem, 1) := by decide +kernel
theorem dX12_fillsTaken_79 : decode cX12_fillsTaken 79 = .ok (.iadd, 1) := by decide +kernel
theorem dX12_fillsTaken_80 : decode cX12_fillsTaken 80 = .ok (.dup2, 1) := by decide +kernel
theorem dX12_fillsTaken_81 : decode cX12_fillsTaken 81 = .ok (.iaload, 1) := by decide +kernel
theorem dX12_fillsTaken_82 : decode cX12_fillsTaken 82 = .ok (.aload_n 0, 1) := by decide +kernel
theorem dX12_fillsTaken_83 : decode cX12_fillsTaken 83 = .ok (.getfield 137, 3) := by decide +kernel
theorem dX12_fillsTaken_86 : decode cX12_fillsTaken 86 = .ok (.bipush 24, 2) := by decide +kernel
theorem dX12_fillsTaken_88 : decode cX12_fillsTaken 88 = .ok (.iload_n 3, 1) := by decide +kernel
theorem dX12_fillsTaken_89 : decode cX12_fillsTaken 89 = .ok (.iadd, 1) := by decide +kernel
theorem dX12_fillsTaken_90 : decode cX12_fillsTaken 90 = .ok (.iaload, 1) := by decide +kernel
theorem dX12_fillsTaken_91 : decode cX12_fillsTaken 91 = .ok (.aload_n 0, 1) := by decide +kernel
theorem dX12_fillsTaken_92 : decode cX12_fillsTaken 92 = .ok (.getfield 134, 3) := by decide +kernel
theorem dX12_fillsTaken_95 : decode cX12_fillsTaken 95 = .ok (.bipush 24, 2) := by decide +kernel
theorem dX12_fillsTaken_97 : decode cX12_fillsTaken 97 = .ok (.iload_n 3, 1) := by decide +kernel
theorem dX12_fillsTaken_98 : decode cX12_fillsTaken 98 = .ok (.iadd, 1) := by decide +kernel
theorem dX12_fillsTaken_99 : decode cX12_fillsTaken 99 = .ok (.iaload, 1) := by decide +kernel
theorem dX12_fillsTaken_100 : decode cX12_fillsTaken 100 = .ok (.isub, 1) := by decide +kernel
theorem dX12_fillsTaken_101 : decode cX12_fillsTaken 101 = .ok (.iadd, 1) := by decide +kernel
theorem dX12_fillsTaken_102 : decode cX12_fillsTaken 102 = .ok (.iastore, 1) := by decide +kernel
theorem dX12_fillsTaken_103 : decode cX12_fillsTaken 103 = .ok (.iinc 3 1, 3) := by decide +kernel
theorem dX12_fillsTaken_106 : decode cX12_fillsTaken 106 = .ok (.goto (-50), 3) := by decide +kernel
theorem dX12_fillsTaken_109 : decode cX12_fillsTaken 109 = .ok (.iinc 2 1, 3) := by decide +kernel
theorem dX12_fillsTaken_112 : decode cX12_fillsTaken 112 = .ok (.goto (-110), 3) := by decide +kernel
theorem dX12_fillsTaken_115 : decode cX12_fillsTaken 115 = .ok (.return_, 1) := by decide +kernel
theorem dX12_isResting_0 : decode cX12_isResting 0 = .ok (.iconst 0, 1) := by decide +kernel
theorem dX12_isResting_1 : decode cX12_isResting 1 = .ok (.istore_n 2, 1) := by decide +kernel
theorem dX12_isResting_2 : decode cX12_isResting 2 = .ok (.iload_n 2, 1) := by decide +kernel
theorem dX12_isResting_3 : decode cX12_isResting 3 = .ok (.iconst 4, 1) := by decide +kernel
theorem dX12_isResting_4 : decode cX12_isResting 4 = .ok (.if_icmp .ge 65, 3) := by decide +kernel
theorem dX12_isResting_7 : decode cX12_isResting 7 = .ok (.aload_n 0, 1) := by decide +kernel
theorem dX12_isResting_8 : decode cX12_isResting 8 = .ok (.getfield 155, 3) := by decide +kernel
theorem dX12_isResting_11 : decode cX12_isResting 11 = .ok (.iconst 2, 1) := by decide +kernel
theorem dX12_isResting_12 : decode cX12_isResting 12 = .ok (.iconst 4, 1) := by decide +kernel
theorem dX12_isResting_13 : decode cX12_isResting 13 = .ok (.iload_n 2, 1) := by decide +kernel
theorem dX12_isResting_14 : decode cX12_isResting 14 = .ok (.imul, 1) := by decide +kernel
theorem dX12_isResting_15 : decode cX12_isResting 15 = .ok (.iload_n 1, 1) := by decide +kernel
theorem dX12_isResting_16 : decode cX12_isResting 16 = .ok (.iconst 4, 1) := by decide +kernel
theorem dX12_isResting_17 : decode cX12_isResting 17 = .ok (.irem, 1) := by decide +kernel
theorem dX12_isResting_18 : decode cX12_isResting 18 = .ok (.iadd, 1) := by decide +kernel
theorem dX12_isResting_19 : decode cX12_isResting 19 = .ok (.imul, 1) := by decide +kernel
theorem dX12_isResting_20 : decode cX12_isResting 20 = .ok (.iaload, 1) := by decide +kernel
theorem dX12_isResting_21 : decode cX12_isResting 21 = .ok (.aload_n 0, 1) := by decide +kernel
theorem dX12_isResting_22 : decode cX12_isResting 22 = .ok (.getfield 155, 3) := by decide +kernel
theorem dX12_isResting_25 : decode cX12_isResting 25 = .ok (.iconst 2, 1) := by decide +kernel
theorem dX12_isResting_26 : decode cX12_isResting 26 = .ok (.iload_n 1, 1) := by decide +kernel
theorem dX12_isResting_27 : decode cX12_isResting 27 = .ok (.imul, 1) := by decide +kernel
theorem dX12_isResting_28 : decode cX12_isResting 28 = .ok (.iaload, 1) := by decide +kernel
theorem dX12_isResting_29 : decode cX12_isResting 29 = .ok (.if_icmp .gt 32, 3) := by decide +kernel
theorem dX12_isResting_32 : decode cX12_isResting 32 = .ok (.aload_n 0, 1) := by decide +kernel
theorem dX12_isResting_33 : decode cX12_isResting 33 = .ok (.getfield 155, 3) := by decide +kernel
theorem dX12_isResting_36 : decode cX12_isResting 36 = .ok (.iconst 2, 1) := by decide +kernel
theorem dX12_isResting_37 : decode cX12_isResting 37 = .ok (.iload_n 1, 1) := by decide +kernel
theorem dX12_isResting_38 : decode cX12_isResting 38 = .ok (.iconst 4, 1) := by decide +kernel
theorem dX12_isResting_39 : decode cX12_isResting 39 = .ok (.idiv, 1) := by decide +kernel
theorem dX12_isResting_40 : decode cX12_isResting 40 = .ok (.iconst 4, 1) := by decide +kernel
theorem dX12_isResting_41 : decode cX12_isResting 41 = .ok (.imul, 1) := by decide +kernel
theorem dX12_isResting_42 : decode cX12_isResting 42 = .ok (.iload_n 2, 1) := by decide +kernel
theorem dX12_isResting_43 : decode cX12_isResting 43 = .ok (.iadd, 1) := by decide +kernel
theorem dX12_isResting_44 : decode cX12_isResting 44 = .ok (.imul, 1) := by decide +kernel
theorem dX12_isResting_45 : decode cX12_isResting 45 = .ok (.iconst 1, 1) := by decide +kernel
theorem dX12_isResting_46 : decode cX12_isResting 46 = .ok (.iadd, 1) := by decide +kernel
theorem dX12_isResting_47 : decode cX12_isResting 47 = .ok (.iaload, 1) := by decide +kernel
theorem dX12_isResting_48 : decode cX12_isResting 48 = .ok (.aload_n 0, 1) := by decide +kernel
theorem dX12_isResting_49 : decode cX12_isResting 49 = .ok (.getfield 155, 3) := by decide +kernel
theorem dX12_isResting_52 : decode cX12_isResting 52 = .ok (.iconst 2, 1) := by decide +kernel
theorem dX12_isResting_53 : decode cX12_isResting 53 = .ok (.iload_n 1, 1) := by decide +kernel
theorem dX12_isResting_54 : decode cX12_isResting 54 = .ok (.imul, 1) := by decide +kernel
theorem dX12_isResting_55 : decode cX12_isResting 55 = .ok (.iconst 1, 1) := by decide +kernel
theorem dX12_isResting_56 : decode cX12_isResting 56 = .ok (.iadd, 1) := by decide +kernel
theorem dX12_isResting_57 : decode cX12_isResting 57 = .ok (.iaload, 1) := by decide +kernel
theorem dX12_isResting_58 : decode cX12_isResting 58 = .ok (.if_icmp .le 5, 3) := by decide +kernel
theorem dX12_isResting_61 : decode cX12_isResting 61 = .ok (.iconst 0, 1) := by decide +kernel
theorem dX12_isResting_62 : decode cX12_isResting 62 = .ok (.ireturn, 1) := by decide +kernel
theorem dX12_isResting_63 : decode cX12_isResting 63 = .ok (.iinc 2 1, 3) := by decide +kernel
theorem dX12_isResting_66 : decode cX12_isResting 66 = .ok (.goto (-64), 3) := by decide +kernel
theorem dX12_isResting_69 : decode cX12_isResting 69 = .ok (.iconst 1, 1) := by decide +kernel
theorem dX12_isResting_70 : decode cX12_isResting 70 = .ok (.ireturn, 1) := by decide +kernel
theorem dX12_keepers_0 : decode cX12_keepers 0 = .ok (.iload_n 1, 1) := by decide +kernel
theorem dX12_keepers_1 : decode cX12_keepers 1 = .ok (.iconst 1, 1) := by decide +kernel
theorem dX12_keepers_2 : decode cX12_keepers 2 = .ok (.bipush 9, 2) := by decide +kernel
theorem dX12_keepers_4 : decode cX12_keepers 4 = .ok (.invokestatic 349, 3) := by decide +kernel
theorem dX12_keepers_7 : decode cX12_keepers 7 = .ok (.ifCond .eq 8, 3) := by decide +kernel
theorem dX12_keepers_10 : decode cX12_keepers 10 = .ok (.iload_n 2, 1) := by decide +kernel
theorem dX12_keepers_11 : decode cX12_keepers 11 = .ok (.iconst (-1), 1) := by decide +kernel
theorem dX12_keepers_12 : decode cX12_keepers 12 = .ok (.if_icmp .ge 5, 3) := by decide +kernel
theorem dX12_keepers_15 : decode cX12_keepers 15 = .ok (.iconst (-1), 1) := by decide +kernel
theorem dX12_keepers_16 : decode cX12_keepers 16 = .ok (.ireturn, 1) := by decide +kernel
theorem dX12_keepers_17 : decode cX12_keepers 17 = .ok (.aload_n 0, 1) := by decide +kernel
theorem dX12_keepers_18 : decode cX12_keepers 18 = .ok (.iload_n 1, 1) := by decide +kernel
theorem dX12_keepers_19 : decode cX12_keepers 19 = .ok (.invokevirtual 469, 3) := by decide +kernel
theorem dX12_keepers_22 : decode cX12_keepers 22 = .ok (.iconst 0, 1) := by decide +kernel
theorem dX12_keepers_23 : decode cX12_keepers 23 = .ok (.istore_n 3, 1) := by decide +kernel
theorem dX12_keepers_24 : decode cX12_keepers 24 = .ok (.iconst 0, 1) := by decide +kernel
theorem dX12_keepers_25 : decode cX12_keepers 25 = .ok (.istore 4, 2) := by decide +kernel
theorem dX12_keepers_27 : decode cX12_keepers 27 = .ok (.iload 4, 2) := by decide +kernel
theorem dX12_keepers_29 : decode cX12_keepers 29 = .ok (.bipush 16, 2) := by decide +kernel
theorem dX12_keepers_31 : decode cX12_keepers 31 = .ok (.if_icmp .ge 42, 3) := by decide +kernel
theorem dX12_keepers_34 : decode cX12_keepers 34 = .ok (.aload_n 0, 1) := by decide +kernel
theorem dX12_keepers_35 : decode cX12_keepers 35 = .ok (.iload 4, 2) := by decide +kernel
theorem dX12_keepers_37 : decode cX12_keepers 37 = .ok (.invokevirtual 472, 3) := by decide +kernel
theorem dX12_keepers_40 : decode cX12_keepers 40 = .ok (.ifCond .ne 6, 3) := by decide +kernel
theorem dX12_keepers_43 : decode cX12_keepers 43 = .ok (.goto 24, 3) := by decide +kernel
theorem dX12_keepers_46 : decode cX12_keepers 46 = .ok (.iload_n 3, 1) := by decide +kernel
theorem dX12_keepers_47 : decode cX12_keepers 47 = .ok (.iload_n 2, 1) := by decide +kernel
theorem dX12_keepers_48 : decode cX12_keepers 48 = .ok (.if_icmp .ne 16, 3) := by decide +kernel
theorem dX12_keepers_51 : decode cX12_keepers 51 = .ok (.iload 4, 2) := by decide +kernel
theorem dX12_keepers_53 : decode cX12_keepers 53 = .ok (.iconst 4, 1) := by decide +kernel
theorem dX12_keepers_54 : decode cX12_keepers 54 = .ok (.idiv, 1) := by decide +kernel
theorem dX12_keepers_55 : decode cX12_keepers 55 = .ok (.bipush 10, 2) := by decide +kernel
theorem dX12_keepers_57 : decode cX12_keepers 57 = .ok (.imul, 1) := by decide +kernel
theorem dX12_keepers_58 : decode cX12_keepers 58 = .ok (.iload 4, 2) := by decide +kernel
theorem dX12_keepers_60 : decode cX12_keepers 60 = .ok (.iconst 4, 1) := by decide +kernel
theorem dX12_keepers_61 : decode cX12_keepers 61 = .ok (.irem, 1) := by decide +kernel
theorem dX12_keepers_62 : decode cX12_keepers 62 = .ok (.iadd, 1) := by decide +kernel
theorem dX12_keepers_63 : decode cX12_keepers 63 = .ok (.ireturn, 1) := by decide +kernel
theorem dX12_keepers_64 : decode cX12_keepers 64 = .ok (.iinc 3 1, 3) := by decide +kernel
theorem dX12_keepers_67 : decode cX12_keepers 67 = .ok (.iinc 4 1, 3) := by decide +kernel
theorem dX12_keepers_70 : decode cX12_keepers 70 = .ok (.goto (-43), 3) := by decide +kernel
theorem dX12_keepers_73 : decode cX12_keepers 73 = .ok (.iload_n 2, 1) := by decide +kernel
theorem dX12_keepers_74 : decode cX12_keepers 74 = .ok (.iconst (-1), 1) := by decide +kernel
theorem dX12_keepers_75 : decode cX12_keepers 75 = .ok (.if_icmp .ne 7, 3) := by decide +kernel
theorem dX12_keepers_78 : decode cX12_keepers 78 = .ok (.iload_n 3, 1) := by decide +kernel
theorem dX12_keepers_79 : decode cX12_keepers 79 = .ok (.goto 4, 3) := by decide +kernel
theorem dX12_keepers_82 : decode cX12_keepers 82 = .ok (.iconst (-1), 1) := by decide +kernel
theorem dX12_keepers_83 : decode cX12_keepers 83 = .ok (.ireturn, 1) := by decide +kernel
theorem dX12_breaks_0 : decode cX12_breaks 0 = .ok (.aload_n 0, 1) := by decide +kernel
theorem dX12_breaks_1 : decode cX12_breaks 1 = .ok (.iload_n 1, 1) := by decide +kernel
theorem dX12_breaks_2 : decode cX12_breaks 2 = .ok (.invokevirtual 427, 3) := by decide +kernel
theorem dX12_breaks_5 : decode cX12_breaks 5 = .ok (.ifCond .ne 5, 3) := by decide +kernel
theorem dX12_breaks_8 : decode cX12_breaks 8 = .ok (.iconst (-1), 1) := by decide +kernel
theorem dX12_breaks_9 : decode cX12_breaks 9 = .ok (.ireturn, 1) := by decide +kernel
theorem dX12_breaks_10 : decode cX12_breaks 10 = .ok (.aload_n 0, 1) := by decide +kernel
theorem dX12_breaks_11 : decode cX12_breaks 11 = .ok (.invokevirtual 430, 3) := by decide +kernel
theorem dX12_breaks_14 : decode cX12_breaks 14 = .ok (.iconst 0, 1) := by decide +kernel
theorem dX12_breaks_15 : decode cX12_breaks 15 = .ok (.istore_n 2, 1) := by decide +kernel
theorem dX12_breaks_16 : decode cX12_breaks 16 = .ok (.iload_n 2, 1) := by decide +kernel
theorem dX12_breaks_17 : decode cX12_breaks 17 = .ok (.sipush 200, 3) := by decide +kernel
theorem dX12_breaks_20 : decode cX12_breaks 20 = .ok (.if_icmp .gt 23, 3) := by decide +kernel
theorem dX12_breaks_23 : decode cX12_breaks 23 = .ok (.aload_n 0, 1) := by decide +kernel
theorem dX12_breaks_24 : decode cX12_breaks 24 = .ok (.iload_n 1, 1) := by decide +kernel
theorem dX12_breaks_25 : decode cX12_breaks 25 = .ok (.invokevirtual 394, 3) := by decide +kernel
theorem dX12_breaks_28 : decode cX12_breaks 28 = .ok (.ifCond .eq 5, 3) := by decide +kernel
theorem dX12_breaks_31 : decode cX12_breaks 31 = .ok (.iload_n 2, 1) := by decide +kernel
theorem dX12_breaks_32 : decode cX12_breaks 32 = .ok (.ireturn, 1) := by decide +kernel
theorem dX12_breaks_33 : decode cX12_breaks 33 = .ok (.aload_n 0, 1) := by decide +kernel
theorem dX12_breaks_34 : decode cX12_breaks 34 = .ok (.invokevirtual 424, 3) := by decide +kernel
theorem dX12_breaks_37 : decode cX12_breaks 37 = .ok (.iinc 2 1, 3) := by decide +kernel
theorem dX12_breaks_40 : decode cX12_breaks 40 = .ok (.goto (-24), 3) := by decide +kernel
theorem dX12_breaks_43 : decode cX12_breaks 43 = .ok (.bipush (-2), 2) := by decide +kernel
theorem dX12_breaks_45 : decode cX12_breaks 45 = .ok (.ireturn, 1) := by decide +kernel
theorem dX12_downNow_0 : decode cX12_downNow 0 = .ok (.iconst 0, 1) := by decide +kernel
theorem dX12_downNow_1 : decode cX12_downNow 1 = .ok (.istore_n 1, 1) := by decide +kernel
theorem dX12_downNow_2 : decode cX12_downNow 2 = .ok (.iconst 0, 1) := by decide +kernel
theorem dX12_downNow_3 : decode cX12_downNow 3 = .ok (.istore_n 2, 1) := by decide +kernel
theorem dX12_downNow_4 : decode cX12_downNow 4 = .ok (.iload_n 2, 1) := by decide +kernel
theorem dX12_downNow_5 : decode cX12_downNow 5 = .ok (.aload_n 0, 1) := by decide +kernel
theorem dX12_downNow_6 : decode cX12_downNow 6 = .ok (.getfield 49, 3) := by decide +kernel
theorem dX12_downNow_9 : decode cX12_downNow 9 = .ok (.aload_n 0, 1) := by decide +kernel
theorem dX12_downNow_10 : decode cX12_downNow 10 = .ok (.getfield 263, 3) := by decide +kernel
theorem dX12_downNow_13 : decode cX12_downNow 13 = .ok (.iaload, 1) := by decide +kernel
theorem dX12_downNow_14 : decode cX12_downNow 14 = .ok (.if_icmp .ge 23, 3) := by decide +kernel
theorem dX12_downNow_17 : decode cX12_downNow 17 = .ok (.aload_n 0, 1) := by decide +kernel
theorem dX12_downNow_18 : decode cX12_downNow 18 = .ok (.iload_n 2, 1) := by decide +kernel
theorem dX12_downNow_19 : decode cX12_downNow 19 = .ok (.invokevirtual 394, 3) := by decide +kernel
theorem dX12_downNow_22 : decode cX12_downNow 22 = .ok (.ifCond .eq 9, 3) := by decide +kernel
theorem dX12_downNow_25 : decode cX12_downNow 25 = .ok (.iload_n 1, 1) := by decide +kernel
theorem dX12_downNow_26 : decode cX12_downNow 26 = .ok (.iconst 1, 1) := by decide +kernel
theorem dX12_downNow_27 : decode cX12_downNow 27 = .ok (.iload_n 2, 1) := by decide +kernel
theorem dX12_downNow_28 : decode cX12_downNow 28 = .ok (.ishl, 1) := by decide +kernel
theorem dX12_downNow_29 : decode cX12_downNow 29 = .ok (.ior, 1) := by decide +kernel
theorem dX12_downNow_30 : decode cX12_downNow 30 = .ok (.istore_n 1, 1) := by decide +kernel
theorem dX12_downNow_31 : decode cX12_downNow 31 = .ok (.iinc 2 1, 3) := by decide +kernel
theorem dX12_downNow_34 : decode cX12_downNow 34 = .ok (.goto (-30), 3) := by decide +kernel
theorem dX12_downNow_37 : decode cX12_downNow 37 = .ok (.iload_n 1, 1) := by decide +kernel
theorem dX12_downNow_38 : decode cX12_downNow 38 = .ok (.ireturn, 1) := by decide +kernel
theorem dX12_first_0 : decode cX12_first 0 = .ok (.iload_n 1, 1) := by decide +kernel
theorem dX12_first_1 : decode cX12_first 1 = .ok (.iconst 0, 1) := by decide +kernel
theorem dX12_first_2 : decode cX12_first 2 = .ok (.iconst 1, 1) := by decide +kernel
theorem dX12_first_3 : decode cX12_first 3 = .ok (.invokestatic 349, 3) := by decide +kernel
theorem dX12_first_6 : decode cX12_first 6 = .ok (.ifCond .ne 5, 3) := by decide +kernel
theorem dX12_first_9 : decode cX12_first 9 = .ok (.iconst (-1), 1) := by decide +kernel
theorem dX12_first_10 : decode cX12_first 10 = .ok (.ireturn, 1) := by decide +kernel
theorem dX12_first_11 : decode cX12_first 11 = .ok (.aload_n 0, 1) := by decide +kernel
theorem dX12_first_12 : decode cX12_first 12 = .ok (.invokevirtual 430, 3) := by decide +kernel
theorem dX12_first_15 : decode cX12_first 15 = .ok (.aload_n 0, 1) := by decide +kernel
theorem dX12_first_16 : decode cX12_first 16 = .ok (.invokevirtual 475, 3) := by decide +kernel
theorem dX12_first_19 : decode cX12_first 19 = .ok (.istore_n 2, 1) := by decide +kernel
theorem dX12_first_20 : decode cX12_first 20 = .ok (.iconst 1, 1) := by decide +kernel
theorem dX12_first_21 : decode cX12_first 21 = .ok (.istore_n 3, 1) := by decide +kernel
theorem dX12_first_22 : decode cX12_first 22 = .ok (.iload_n 3, 1) := by decide +kernel
theorem dX12_first_23 : decode cX12_first 23 = .ok (.sipush 200, 3) := by decide +kernel
theorem dX12_first_26 : decode cX12_first 26 = .ok (.if_icmp .gt 68, 3) := by decide +kernel
theorem dX12_first_29 : decode cX12_first 29 = .ok (.aload_n 0, 1) := by decide +kernel
theorem dX12_first_30 : decode cX12_first 30 = .ok (.invokevirtual 424, 3) := by decide +kernel
theorem dX12_first_33 : decode cX12_first 33 = .ok (.aload_n 0, 1) := by decide +kernel
theorem dX12_first_34 : decode cX12_first 34 = .ok (.invokevirtual 475, 3) := by decide +kernel
theorem dX12_first_37 : decode cX12_first 37 = .ok (.iload_n 2, 1) := by decide +kernel
theorem dX12_first_38 : decode cX12_first 38 = .ok (.iconst (-1), 1) := by decide +kernel
theorem dX12_first_39 : decode cX12_first 39 = .ok (.ixor, 1) := by decide +kernel
theorem dX12_first_40 : decode cX12_first 40 = .ok (.iand, 1) := by decide +kernel
theorem dX12_first_41 : decode cX12_first 41 = .ok (.istore 4, 2) := by decide +kernel
theorem dX12_first_43 : decode cX12_first 43 = .ok (.iconst 0, 1) := by decide +kernel
theorem dX12_first_44 : decode cX12_first 44 = .ok (.istore 5, 2) := by decide +kernel
theorem dX12_first_46 : decode cX12_first 46 = .ok (.iload 5, 2) := by decide +kernel
theorem dX12_first_48 : decode cX12_first 48 = .ok (.aload_n 0, 1) := by decide +kernel
theorem dX12_first_49 : decode cX12_first 49 = .ok (.getfield 49, 3) := by decide +kernel
theorem dX12_first_52 : decode cX12_first 52 = .ok (.aload_n 0, 1) := by decide +kernel
theorem dX12_first_53 : decode cX12_first 53 = .ok (.getfield 263, 3) := by decide +kernel
theorem dX12_first_56 : decode cX12_first 56 = .ok (.iaload, 1) := by decide +kernel
theorem dX12_first_57 : decode cX12_first 57 = .ok (.if_icmp .ge 31, 3) := by decide +kernel
theorem dX12_first_60 : decode cX12_first 60 = .ok (.iload 4, 2) := by decide +kernel
theorem dX12_first_62 : decode cX12_first 62 = .ok (.iload 5, 2) := by decide +kernel
theorem dX12_first_64 : decode cX12_first 64 = .ok (.ishr, 1) := by decide +kernel
theorem dX12_first_65 : decode cX12_first 65 = .ok (.iconst 1, 1) := by decide +kernel
theorem dX12_first_66 : decode cX12_first 66 = .ok (.iand, 1) := by decide +kernel
theorem dX12_first_67 : decode cX12_first 67 = .ok (.iconst 1, 1) := by decide +kernel
theorem dX12_first_68 : decode cX12_first 68 = .ok (.if_icmp .ne 14, 3) := by decide +kernel
theorem dX12_first_71 : decode cX12_first 71 = .ok (.iload_n 1, 1) := by decide +kernel
theorem dX12_first_72 : decode cX12_first 72 = .ok (.ifCond .ne 8, 3) := by decide +kernel
theorem dX12_first_75 : decode cX12_first 75 = .ok (.iload 5, 2) := by decide +kernel
theorem dX12_first_77 : decode cX12_first 77 = .ok (.goto 4, 3) := by decide +kernel
theorem dX12_first_80 : decode cX12_first 80 = .ok (.iload_n 3, 1) := by decide +kernel
theorem dX12_first_81 : decode cX12_first 81 = .ok (.ireturn, 1) := by decide +kernel
theorem dX12_first_82 : decode cX12_first 82 = .ok (.iinc 5 1, 3) := by decide +kernel
theorem dX12_first_85 : decode cX12_first 85 = .ok (.goto (-39), 3) := by decide +kernel
theorem dX12_first_88 : decode cX12_first 88 = .ok (.iinc 3 1, 3) := by decide +kernel
theorem dX12_first_91 : decode cX12_first 91 = .ok (.goto (-69), 3) := by decide +kernel
theorem dX12_first_94 : decode cX12_first 94 = .ok (.bipush (-2), 2) := by decide +kernel
theorem dX12_first_96 : decode cX12_first 96 = .ok (.ireturn, 1) := by decide +kernel
theorem dX12_meets_0 : decode cX12_meets 0 = .ok (.aload_n 0, 1) := by decide +kernel
theorem dX12_meets_1 : decode cX12_meets 1 = .ok (.iload_n 1, 1) := by decide +kernel
theorem dX12_meets_2 : decode cX12_meets 2 = .ok (.invokevirtual 433, 3) := by decide +kernel
theorem dX12_meets_5 : decode cX12_meets 5 = .ok (.ifCond .eq 16, 3) := by decide +kernel
theorem dX12_meets_8 : decode cX12_meets 8 = .ok (.aload_n 0, 1) := by decide +kernel
theorem dX12_meets_9 : decode cX12_meets 9 = .ok (.iload_n 2, 1) := by decide +kernel
theorem dX12_meets_10 : decode cX12_meets 10 = .ok (.invokevirtual 433, 3) := by decide +kernel
theorem dX12_meets_13 : decode cX12_meets 13 = .ok (.ifCond .eq 8, 3) := by decide +kernel
theorem dX12_meets_16 : decode cX12_meets 16 = .ok (.iload_n 1, 1) := by decide +kernel
theorem dX12_meets_17 : decode cX12_meets 17 = .ok (.iload_n 2, 1) := by decide +kernel
theorem dX12_meets_18 : decode cX12_meets 18 = .ok (.if_icmp .ne 5, 3) := by decide +kernel
theorem dX12_meets_21 : decode cX12_meets 21 = .ok (.iconst (-1), 1) := by decide +kernel
theorem dX12_meets_22 : decode cX12_meets 22 = .ok (.ireturn, 1) := by decide +kernel
theorem dX12_meets_23 : decode cX12_meets 23 = .ok (.aload_n 0, 1) := by decide +kernel
theorem dX12_meets_24 : decode cX12_meets 24 = .ok (.getfield 134, 3) := by decide +kernel
theorem dX12_meets_27 : decode cX12_meets 27 = .ok (.bipush 67, 2) := by decide +kernel
theorem dX12_meets_29 : decode cX12_meets 29 = .ok (.iaload, 1) := by decide +kernel
theorem dX12_meets_30 : decode cX12_meets 30 = .ok (.istore_n 3, 1) := by decide +kernel
theorem dX12_meets_31 : decode cX12_meets 31 = .ok (.iload_n 3, 1) := by decide +kernel
theorem dX12_meets_32 : decode cX12_meets 32 = .ok (.bipush 99, 2) := by decide +kernel
theorem dX12_meets_34 : decode cX12_meets 34 = .ok (.if_icmp .gt 49, 3) := by decide +kernel
theorem dX12_meets_37 : decode cX12_meets 37 = .ok (.iload_n 3, 1) := by decide +kernel
theorem dX12_meets_38 : decode cX12_meets 38 = .ok (.aload_n 0, 1) := by decide +kernel
theorem dX12_meets_39 : decode cX12_meets 39 = .ok (.getfield 83, 3) := by decide +kernel
theorem dX12_meets_42 : decode cX12_meets 42 = .ok (.bipush 7, 2) := by decide +kernel
theorem dX12_meets_44 : decode cX12_meets 44 = .ok (.aload_n 0, 1) := by decide +kernel
theorem dX12_meets_45 : decode cX12_meets 45 = .ok (.getfield 263, 3) := by decide +kernel
theorem dX12_meets_48 : decode cX12_meets 48 = .ok (.imul, 1) := by decide +kernel
theorem dX12_meets_49 : decode cX12_meets 49 = .ok (.iload_n 1, 1) := by decide +kernel
theorem dX12_meets_50 : decode cX12_meets 50 = .ok (.iadd, 1) := by decide +kernel
theorem dX12_meets_51 : decode cX12_meets 51 = .ok (.iaload, 1) := by decide +kernel
theorem dX12_meets_52 : decode cX12_meets 52 = .ok (.irem, 1) := by decide +kernel
theorem dX12_meets_53 : decode cX12_meets 53 = .ok (.ifCond .ne 24, 3) := by decide +kernel
theorem dX12_meets_56 : decode cX12_meets 56 = .ok (.iload_n 3, 1) := by decide +kernel
theorem dX12_meets_57 : decode cX12_meets 57 = .ok (.aload_n 0, 1) := by decide +kernel
theorem dX12_meets_58 : decode cX12_meets 58 = .ok (.getfield 83, 3) := by decide +kernel
theorem dX12_meets_61 : decode cX12_meets 61 = .ok (.bipush 7, 2) := by decide +kernel
theorem dX12_meets_63 : decode cX12_meets 63 = .ok (.aload_n 0, 1) := by decide +kernel
theorem dX12_meets_64 : decode cX12_meets 64 = .ok (.getfield 263, 3) := by decide +kernel
theorem dX12_meets_67 : decode cX12_meets 67 = .ok (.imul, 1) := by decide +kernel
theorem dX12_meets_68 : decode cX12_meets 68 = .ok (.iload_n 2, 1) := by decide +kernel
theorem dX12_meets_69 : decode cX12_meets 69 = .ok (.iadd, 1) := by decide +kernel
theorem dX12_meets_70 : decode cX12_meets 70 = .ok (.iaload, 1) := by decide +kernel
theorem dX12_meets_71 : decode cX12_meets 71 = .ok (.irem, 1) := by decide +kernel
theorem dX12_meets_72 : decode cX12_meets 72 = .ok (.ifCond .ne 5, 3) := by decide +kernel
theorem dX12_meets_75 : decode cX12_meets 75 = .ok (.iload_n 3, 1) := by decide +kernel
theorem dX12_meets_76 : decode cX12_meets 76 = .ok (.ireturn, 1) := by decide +kernel
theorem dX12_meets_77 : decode cX12_meets 77 = .ok (.iinc 3 1, 3) := by decide +kernel
theorem dX12_meets_80 : decode cX12_meets 80 = .ok (.goto (-49), 3) := by decide +kernel
theorem dX12_meets_83 : decode cX12_meets 83 = .ok (.bipush (-2), 2) := by decide +kernel
theorem dX12_meets_85 : decode cX12_meets 85 = .ok (.ireturn, 1) := by decide +kernel
theorem dX12_cutOff_0 : decode cX12_cutOff 0 = .ok (.aload_n 0, 1) := by decide +kernel
theorem dX12_cutOff_1 : decode cX12_cutOff 1 = .ok (.iload_n 1, 1) := by decide +kernel
theorem dX12_cutOff_2 : decode cX12_cutOff 2 = .ok (.invokevirtual 433, 3) := by decide +kernel
theorem dX12_cutOff_5 : decode cX12_cutOff 5 = .ok (.ifCond .ne 5, 3) := by decide +kernel
theorem dX12_cutOff_8 : decode cX12_cutOff 8 = .ok (.iconst (-1), 1) := by decide +kernel
theorem dX12_cutOff_9 : decode cX12_cutOff 9 = .ok (.ireturn, 1) := by decide +kernel
theorem dX12_cutOff_10 : decode cX12_cutOff 10 = .ok (.aload_n 0, 1) := by decide +kernel
theorem dX12_cutOff_11 : decode cX12_cutOff 11 = .ok (.invokevirtual 430, 3) := by decide +kernel
theorem dX12_cutOff_14 : decode cX12_cutOff 14 = .ok (.iconst 0, 1) := by decide +kernel
theorem dX12_cutOff_15 : decode cX12_cutOff 15 = .ok (.istore_n 2, 1) := by decide +kernel
theorem dX12_cutOff_16 : decode cX12_cutOff 16 = .ok (.iload_n 2, 1) := by decide +kernel
theorem dX12_cutOff_17 : decode cX12_cutOff 17 = .ok (.sipush 200, 3) := by decide +kernel
theorem dX12_cutOff_20 : decode cX12_cutOff 20 = .ok (.if_icmp .gt 23, 3) := by decide +kernel
theorem dX12_cutOff_23 : decode cX12_cutOff 23 = .ok (.aload_n 0, 1) := by decide +kernel
theorem dX12_cutOff_24 : decode cX12_cutOff 24 = .ok (.iload_n 1, 1) := by decide +kernel
theorem dX12_cutOff_25 : decode cX12_cutOff 25 = .ok (.invokevirtual 418, 3) := by decide +kernel
theorem dX12_cutOff_28 : decode cX12_cutOff 28 = .ok (.ifCond .ne 5, 3) := by decide +kernel
theorem dX12_cutOff_31 : decode cX12_cutOff 31 = .ok (.iload_n 2, 1) := by decide +kernel
theorem dX12_cutOff_32 : decode cX12_cutOff 32 = .ok (.ireturn, 1) := by decide +kernel
theorem dX12_cutOff_33 : decode cX12_cutOff 33 = .ok (.aload_n 0, 1) := by decide +kernel
theorem dX12_cutOff_34 : decode cX12_cutOff 34 = .ok (.invokevirtual 424, 3) := by decide +kernel
theorem dX12_cutOff_37 : decode cX12_cutOff 37 = .ok (.iinc 2 1, 3) := by decide +kernel
theorem dX12_cutOff_40 : decode cX12_cutOff 40 = .ok (.goto (-24), 3) := by decide +kernel
theorem dX12_cutOff_43 : decode cX12_cutOff 43 = .ok (.bipush (-2), 2) := by decide +kernel
theorem dX12_cutOff_45 : decode cX12_cutOff 45 = .ok (.ireturn, 1) := by decide +kernel
theorem dX12_year_0 : decode cX12_year 0 = .ok (.iload_n 1, 1) := by decide +kernel
theorem dX12_year_1 : decode cX12_year 1 = .ok (.invokestatic 466, 3) := by decide +kernel
theorem dX12_year_4 : decode cX12_year 4 = .ok (.ifCond .eq 13, 3) := by decide +kernel
theorem dX12_year_7 : decode cX12_year 7 = .ok (.iload_n 2, 1) := by decide +kernel
theorem dX12_year_8 : decode cX12_year 8 = .ok (.iconst 1, 1) := by decide +kernel
theorem dX12_year_9 : decode cX12_year 9 = .ok (.bipush 20, 2) := by decide +kernel
theorem dX12_year_11 : decode cX12_year 11 = .ok (.invokestatic 349, 3) := by decide +kernel
theorem dX12_year_14 : decode cX12_year 14 = .ok (.ifCond .ne 5, 3) := by decide +kernel
theorem dX12_year_17 : decode cX12_year 17 = .ok (.iconst (-1), 1) := by decide +kernel
theorem dX12_year_18 : decode cX12_year 18 = .ok (.ireturn, 1) := by decide +kernel
theorem dX12_year_19 : decode cX12_year 19 = .ok (.iconst 0, 1) := by decide +kernel
theorem dX12_year_20 : decode cX12_year 20 = .ok (.istore_n 3, 1) := by decide +kernel
theorem dX12_year_21 : decode cX12_year 21 = .ok (.iconst 0, 1) := by decide +kernel
theorem dX12_year_22 : decode cX12_year 22 = .ok (.istore 4, 2) := by decide +kernel
theorem dX12_year_24 : decode cX12_year 24 = .ok (.iload 4, 2) := by decide +kernel
theorem dX12_year_26 : decode cX12_year 26 = .ok (.iload_n 2, 1) := by decide +kernel
theorem dX12_year_27 : decode cX12_year 27 = .ok (.if_icmp .ge 47, 3) := by decide +kernel
theorem dX12_year_30 : decode cX12_year 30 = .ok (.aload_n 0, 1) := by decide +kernel
theorem dX12_year_31 : decode cX12_year 31 = .ok (.invokevirtual 430, 3) := by decide +kernel
theorem dX12_year_34 : decode cX12_year 34 = .ok (.aload_n 0, 1) := by decide +kernel
theorem dX12_year_35 : decode cX12_year 35 = .ok (.dup, 1) := by decide +kernel
theorem dX12_year_36 : decode cX12_year 36 = .ok (.getfield 353, 3) := by decide +kernel
theorem dX12_year_39 : decode cX12_year 39 = .ok (.iload 4, 2) := by decide +kernel
theorem dX12_year_41 : decode cX12_year 41 = .ok (.iadd, 1) := by decide +kernel
theorem dX12_year_42 : decode cX12_year 42 = .ok (.putfield 353, 3) := by decide +kernel
theorem dX12_year_45 : decode cX12_year 45 = .ok (.aload_n 0, 1) := by decide +kernel
theorem dX12_year_46 : decode cX12_year 46 = .ok (.iload_n 1, 1) := by decide +kernel
theorem dX12_year_47 : decode cX12_year 47 = .ok (.invokevirtual 442, 3) := by decide +kernel
theorem dX12_year_50 : decode cX12_year 50 = .ok (.iload_n 3, 1) := by decide +kernel
theorem dX12_year_51 : decode cX12_year 51 = .ok (.aload_n 0, 1) := by decide +kernel
theorem dX12_year_52 : decode cX12_year 52 = .ok (.getfield 137, 3) := by decide +kernel
theorem dX12_year_55 : decode cX12_year 55 = .ok (.bipush 66, 2) := by decide +kernel
theorem dX12_year_57 : decode cX12_year 57 = .ok (.iaload, 1) := by decide +kernel
theorem dX12_year_58 : decode cX12_year 58 = .ok (.aload_n 0, 1) := by decide +kernel
theorem dX12_year_59 : decode cX12_year 59 = .ok (.getfield 134, 3) := by decide +kernel
theorem dX12_year_62 : decode cX12_year 62 = .ok (.bipush 66, 2) := by decide +kernel
theorem dX12_year_64 : decode cX12_year 64 = .ok (.iaload, 1) := by decide +kernel
theorem dX12_year_65 : decode cX12_year 65 = .ok (.isub, 1) := by decide +kernel
theorem dX12_year_66 : decode cX12_year 66 = .ok (.iadd, 1) := by decide +kernel
theorem dX12_year_67 : decode cX12_year 67 = .ok (.istore_n 3, 1) := by decide +kernel
theorem dX12_year_68 : decode cX12_year 68 = .ok (.iinc 4 1, 3) := by decide +kernel
theorem dX12_year_71 : decode cX12_year 71 = .ok (.goto (-47), 3) := by decide +kernel
theorem dX12_year_74 : decode cX12_year 74 = .ok (.iload_n 3, 1) := by decide +kernel
theorem dX12_year_75 : decode cX12_year 75 = .ok (.ireturn, 1) := by decide +kernel
theorem dX12_common_0 : decode cX12_common 0 = .ok (.iload_n 0, 1) := by decide +kernel
theorem dX12_common_1 : decode cX12_common 1 = .ok (.istore_n 2, 1) := by decide +kernel
theorem dX12_common_2 : decode cX12_common 2 = .ok (.iload_n 1, 1) := by decide +kernel
theorem dX12_common_3 : decode cX12_common 3 = .ok (.istore_n 3, 1) := by decide +kernel
theorem dX12_common_4 : decode cX12_common 4 = .ok (.iload_n 3, 1) := by decide +kernel
theorem dX12_common_5 : decode cX12_common 5 = .ok (.ifCond .eq 16, 3) := by decide +kernel
theorem dX12_common_8 : decode cX12_common 8 = .ok (.iload_n 2, 1) := by decide +kernel
theorem dX12_common_9 : decode cX12_common 9 = .ok (.iload_n 3, 1) := by decide +kernel
theorem dX12_common_10 : decode cX12_common 10 = .ok (.irem, 1) := by decide +kernel
theorem dX12_common_11 : decode cX12_common 11 = .ok (.istore 4, 2) := by decide +kernel
theorem dX12_common_13 : decode cX12_common 13 = .ok (.iload_n 3, 1) := by decide +kernel
theorem dX12_common_14 : decode cX12_common 14 = .ok (.istore_n 2, 1) := by decide +kernel
theorem dX12_common_15 : decode cX12_common 15 = .ok (.iload 4, 2) := by decide +kernel
theorem dX12_common_17 : decode cX12_common 17 = .ok (.istore_n 3, 1) := by decide +kernel
theorem dX12_common_18 : decode cX12_common 18 = .ok (.goto (-14), 3) := by decide +kernel
theorem dX12_common_21 : decode cX12_common 21 = .ok (.iload_n 2, 1) := by decide +kernel
theorem dX12_common_22 : decode cX12_common 22 = .ok (.ireturn, 1) := by decide +kernel
theorem dX12_sheet_0 : decode cX12_sheet 0 = .ok (.iload_n 1, 1) := by decide +kernel
theorem dX12_sheet_1 : decode cX12_sheet 1 = .ok (.ifCond .eq 15, 3) := by decide +kernel
theorem dX12_sheet_4 : decode cX12_sheet 4 = .ok (.aload_n 0, 1) := by decide +kernel
theorem dX12_sheet_5 : decode cX12_sheet 5 = .ok (.getfield 92, 3) := by decide +kernel
theorem dX12_sheet_8 : decode cX12_sheet 8 = .ok (.aload_n 0, 1) := by decide +kernel
theorem dX12_sheet_9 : decode cX12_sheet 9 = .ok (.getfield 263, 3) := by decide +kernel
theorem dX12_sheet_12 : decode cX12_sheet 12 = .ok (.iaload, 1) := by decide +kernel
theorem dX12_sheet_13 : decode cX12_sheet 13 = .ok (.goto 15, 3) := by decide +kernel
theorem dX12_sheet_16 : decode cX12_sheet 16 = .ok (.bipush 100, 2) := by decide +kernel
theorem dX12_sheet_18 : decode cX12_sheet 18 = .ok (.aload_n 0, 1) := by decide +kernel
theorem dX12_sheet_19 : decode cX12_sheet 19 = .ok (.getfield 92, 3) := by decide +kernel
theorem dX12_sheet_22 : decode cX12_sheet 22 = .ok (.aload_n 0, 1) := by decide +kernel
theorem dX12_sheet_23 : decode cX12_sheet 23 = .ok (.getfield 263, 3) := by decide +kernel
theorem dX12_sheet_26 : decode cX12_sheet 26 = .ok (.iaload, 1) := by decide +kernel
theorem dX12_sheet_27 : decode cX12_sheet 27 = .ok (.isub, 1) := by decide +kernel
theorem dX12_sheet_28 : decode cX12_sheet 28 = .ok (.istore_n 3, 1) := by decide +kernel
theorem dX12_sheet_29 : decode cX12_sheet 29 = .ok (.aload_n 0, 1) := by decide +kernel
theorem dX12_sheet_30 : decode cX12_sheet 30 = .ok (.getfield 89, 3) := by decide +kernel
theorem dX12_sheet_33 : decode cX12_sheet 33 = .ok (.aload_n 0, 1) := by decide +kernel
theorem dX12_sheet_34 : decode cX12_sheet 34 = .ok (.getfield 263, 3) := by decide +kernel
theorem dX12_sheet_37 : decode cX12_sheet 37 = .ok (.iaload, 1) := by decide +kernel
theorem dX12_sheet_38 : decode cX12_sheet 38 = .ok (.iload_n 3, 1) := by decide +kernel
theorem dX12_sheet_39 : decode cX12_sheet 39 = .ok (.imul, 1) := by decide +kernel
theorem dX12_sheet_40 : decode cX12_sheet 40 = .ok (.istore 4, 2) := by decide +kernel
theorem dX12_sheet_42 : decode cX12_sheet 42 = .ok (.iload 4, 2) := by decide +kernel
theorem dX12_sheet_44 : decode cX12_sheet 44 = .ok (.bipush 100, 2) := by decide +kernel
theorem dX12_sheet_46 : decode cX12_sheet 46 = .ok (.aload_n 0, 1) := by decide +kernel
theorem dX12_sheet_47 : decode cX12_sheet 47 = .ok (.getfield 89, 3) := by decide +kernel
theorem dX12_sheet_50 : decode cX12_sheet 50 = .ok (.aload_n 0, 1) := by decide +kernel
theorem dX12_sheet_51 : decode cX12_sheet 51 = .ok (.getfield 263, 3) := by decide +kernel
theorem dX12_sheet_54 : decode cX12_sheet 54 = .ok (.iaload, 1) := by decide +kernel
theorem dX12_sheet_55 : decode cX12_sheet 55 = .ok (.isub, 1) := by decide +kernel
theorem dX12_sheet_56 : decode cX12_sheet 56 = .ok (.bipush 100, 2) := by decide +kernel
theorem dX12_sheet_58 : decode cX12_sheet 58 = .ok (.iload_n 3, 1) := by decide +kernel
theorem dX12_sheet_59 : decode cX12_sheet 59 = .ok (.isub, 1) := by decide +kernel
theorem dX12_sheet_60 : decode cX12_sheet 60 = .ok (.imul, 1) := by decide +kernel
theorem dX12_sheet_61 : decode cX12_sheet 61 = .ok (.iadd, 1) := by decide +kernel
theorem dX12_sheet_62 : decode cX12_sheet 62 = .ok (.istore 5, 2) := by decide +kernel
theorem dX12_sheet_64 : decode cX12_sheet 64 = .ok (.iload 5, 2) := by decide +kernel
theorem dX12_sheet_66 : decode cX12_sheet 66 = .ok (.ifCond .ne 13, 3) := by decide +kernel
theorem dX12_sheet_69 : decode cX12_sheet 69 = .ok (.iload_n 2, 1) := by decide +kernel
theorem dX12_sheet_70 : decode cX12_sheet 70 = .ok (.ifCond .eq 7, 3) := by decide +kernel
theorem dX12_sheet_73 : decode cX12_sheet 73 = .ok (.iconst 1, 1) := by decide +kernel
theorem dX12_sheet_74 : decode cX12_sheet 74 = .ok (.goto 4, 3) := by decide +kernel
theorem dX12_sheet_77 : decode cX12_sheet 77 = .ok (.iconst 0, 1) := by decide +kernel
theorem dX12_sheet_78 : decode cX12_sheet 78 = .ok (.ireturn, 1) := by decide +kernel
theorem dX12_sheet_79 : decode cX12_sheet 79 = .ok (.iload 4, 2) := by decide +kernel
theorem dX12_sheet_81 : decode cX12_sheet 81 = .ok (.iload 5, 2) := by decide +kernel
theorem dX12_sheet_83 : decode cX12_sheet 83 = .ok (.invokestatic 478, 3) := by decide +kernel
theorem dX12_sheet_86 : decode cX12_sheet 86 = .ok (.istore 6, 2) := by decide +kernel
theorem dX12_sheet_88 : decode cX12_sheet 88 = .ok (.iload_n 2, 1) := by decide +kernel
theorem dX12_sheet_89 : decode cX12_sheet 89 = .ok (.ifCond .eq 8, 3) := by decide +kernel
theorem dX12_sheet_92 : decode cX12_sheet 92 = .ok (.iload 5, 2) := by decide +kernel
theorem dX12_sheet_94 : decode cX12_sheet 94 = .ok (.goto 5, 3) := by decide +kernel
theorem dX12_sheet_97 : decode cX12_sheet 97 = .ok (.iload 4, 2) := by decide +kernel
theorem dX12_sheet_99 : decode cX12_sheet 99 = .ok (.iload 6, 2) := by decide +kernel
theorem dX12_sheet_101 : decode cX12_sheet 101 = .ok (.idiv, 1) := by decide +kernel
theorem dX12_sheet_102 : decode cX12_sheet 102 = .ok (.ireturn, 1) := by decide +kernel
theorem dX12_tell_0 : decode cX12_tell 0 = .ok (.aload_n 0, 1) := by decide +kernel
theorem dX12_tell_1 : decode cX12_tell 1 = .ok (.getfield 284, 3) := by decide +kernel
theorem dX12_tell_4 : decode cX12_tell 4 = .ok (.bipush 20, 2) := by decide +kernel
theorem dX12_tell_6 : decode cX12_tell 6 = .ok (.if_icmp .eq 29, 3) := by decide +kernel
theorem dX12_tell_9 : decode cX12_tell 9 = .ok (.aload_n 0, 1) := by decide +kernel
theorem dX12_tell_10 : decode cX12_tell 10 = .ok (.iload_n 1, 1) := by decide +kernel
theorem dX12_tell_11 : decode cX12_tell 11 = .ok (.invokevirtual 427, 3) := by decide +kernel
theorem dX12_tell_14 : decode cX12_tell 14 = .ok (.ifCond .eq 21, 3) := by decide +kernel
theorem dX12_tell_17 : decode cX12_tell 17 = .ok (.aload_n 0, 1) := by decide +kernel
theorem dX12_tell_18 : decode cX12_tell 18 = .ok (.iload_n 1, 1) := by decide +kernel
theorem dX12_tell_19 : decode cX12_tell 19 = .ok (.invokevirtual 391, 3) := by decide +kernel
theorem dX12_tell_22 : decode cX12_tell 22 = .ok (.ifCond .eq 13, 3) := by decide +kernel
theorem dX12_tell_25 : decode cX12_tell 25 = .ok (.iload_n 2, 1) := by decide +kernel
theorem dX12_tell_26 : decode cX12_tell 26 = .ok (.iconst 0, 1) := by decide +kernel
theorem dX12_tell_27 : decode cX12_tell 27 = .ok (.bipush 30, 2) := by decide +kernel
theorem dX12_tell_29 : decode cX12_tell 29 = .ok (.invokestatic 349, 3) := by decide +kernel
theorem dX12_tell_32 : decode cX12_tell 32 = .ok (.ifCond .ne 5, 3) := by decide +kernel
theorem dX12_tell_35 : decode cX12_tell 35 = .ok (.iconst (-1), 1) := by decide +kernel
theorem dX12_tell_36 : decode cX12_tell 36 = .ok (.ireturn, 1) := by decide +kernel
theorem dX12_tell_37 : decode cX12_tell 37 = .ok (.aload_n 0, 1) := by decide +kernel
theorem dX12_tell_38 : decode cX12_tell 38 = .ok (.getfield 158, 3) := by decide +kernel
theorem dX12_tell_41 : decode cX12_tell 41 = .ok (.aload_n 0, 1) := by decide +kernel
theorem dX12_tell_42 : decode cX12_tell 42 = .ok (.getfield 284, 3) := by decide +kernel
theorem dX12_tell_45 : decode cX12_tell 45 = .ok (.iload_n 1, 1) := by decide +kernel
theorem dX12_tell_46 : decode cX12_tell 46 = .ok (.iastore, 1) := by decide +kernel
theorem dX12_tell_47 : decode cX12_tell 47 = .ok (.aload_n 0, 1) := by decide +kernel
theorem dX12_tell_48 : decode cX12_tell 48 = .ok (.getfield 161, 3) := by decide +kernel
theorem dX12_tell_51 : decode cX12_tell 51 = .ok (.aload_n 0, 1) := by decide +kernel
theorem dX12_tell_52 : decode cX12_tell 52 = .ok (.getfield 284, 3) := by decide +kernel
theorem dX12_tell_55 : decode cX12_tell 55 = .ok (.iload_n 2, 1) := by decide +kernel
theorem dX12_tell_56 : decode cX12_tell 56 = .ok (.iastore, 1) := by decide +kernel
theorem dX12_tell_57 : decode cX12_tell 57 = .ok (.aload_n 0, 1) := by decide +kernel
theorem dX12_tell_58 : decode cX12_tell 58 = .ok (.getfield 164, 3) := by decide +kernel
theorem dX12_tell_61 : decode cX12_tell 61 = .ok (.aload_n 0, 1) := by decide +kernel
theorem dX12_tell_62 : decode cX12_tell 62 = .ok (.getfield 284, 3) := by decide +kernel
theorem dX12_tell_65 : decode cX12_tell 65 = .ok (.iload_n 3, 1) := by decide +kernel
theorem dX12_tell_66 : decode cX12_tell 66 = .ok (.bastore, 1) := by decide +kernel
theorem dX12_tell_67 : decode cX12_tell 67 = .ok (.aload_n 0, 1) := by decide +kernel
theorem dX12_tell_68 : decode cX12_tell 68 = .ok (.dup, 1) := by decide +kernel
theorem dX12_tell_69 : decode cX12_tell 69 = .ok (.getfield 284, 3) := by decide +kernel
theorem dX12_tell_72 : decode cX12_tell 72 = .ok (.iconst 1, 1) := by decide +kernel
theorem dX12_tell_73 : decode cX12_tell 73 = .ok (.iadd, 1) := by decide +kernel
theorem dX12_tell_74 : decode cX12_tell 74 = .ok (.putfield 284, 3) := by decide +kernel
theorem dX12_tell_77 : decode cX12_tell 77 = .ok (.aload_n 0, 1) := by decide +kernel
theorem dX12_tell_78 : decode cX12_tell 78 = .ok (.getfield 284, 3) := by decide +kernel
theorem dX12_tell_81 : decode cX12_tell 81 = .ok (.iconst 1, 1) := by decide +kernel
theorem dX12_tell_82 : decode cX12_tell 82 = .ok (.isub, 1) := by decide +kernel
theorem dX12_tell_83 : decode cX12_tell 83 = .ok (.ireturn, 1) := by decide +kernel
theorem dX12_forget_0 : decode cX12_forget 0 = .ok (.aload_n 0, 1) := by decide +kernel
theorem dX12_forget_1 : decode cX12_forget 1 = .ok (.getfield 284, 3) := by decide +kernel
theorem dX12_forget_4 : decode cX12_forget 4 = .ok (.istore_n 1, 1) := by decide +kernel
theorem dX12_forget_5 : decode cX12_forget 5 = .ok (.aload_n 0, 1) := by decide +kernel
theorem dX12_forget_6 : decode cX12_forget 6 = .ok (.iconst 0, 1) := by decide +kernel
theorem dX12_forget_7 : decode cX12_forget 7 = .ok (.putfield 284, 3) := by decide +kernel
theorem dX12_forget_10 : decode cX12_forget 10 = .ok (.iload_n 1, 1) := by decide +kernel
theorem dX12_forget_11 : decode cX12_forget 11 = .ok (.ireturn, 1) := by decide +kernel
theorem dX12_fillsSeen_0 : decode cX12_fillsSeen 0 = .ok (.aload_n 0, 1) := by decide +kernel
theorem dX12_fillsSeen_1 : decode cX12_fillsSeen 1 = .ok (.invokevirtual 190, 3) := by decide +kernel
theorem dX12_fillsSeen_4 : decode cX12_fillsSeen 4 = .ok (.aload_n 0, 1) := by decide +kernel
theorem dX12_fillsSeen_5 : decode cX12_fillsSeen 5 = .ok (.iload_n 1, 1) := by decide +kernel
theorem dX12_fillsSeen_6 : decode cX12_fillsSeen 6 = .ok (.putfield 356, 3) := by decide +kernel
theorem dX12_fillsSeen_9 : decode cX12_fillsSeen 9 = .ok (.iconst 0, 1) := by decide +kernel
theorem dX12_fillsSeen_10 : decode cX12_fillsSeen 10 = .ok (.istore_n 3, 1) := by decide +kernel
theorem dX12_fillsSeen_11 : decode cX12_fillsSeen 11 = .ok (.iload_n 3, 1) := by decide +kernel
theorem dX12_fillsSeen_12 : decode cX12_fillsSeen 12 = .ok (.iload_n 2, 1) := by decide +kernel
theorem dX12_fillsSeen_13 : decode cX12_fillsSeen 13 = .ok (.if_icmp .gt 142, 3) := by decide +kernel
theorem dX12_fillsSeen_16 : decode cX12_fillsSeen 16 = .ok (.iconst 0, 1) := by decide +kernel
theorem dX12_fillsSeen_17 : decode cX12_fillsSeen 17 = .ok (.istore 4, 2) := by decide +kernel
theorem dX12_fillsSeen_19 : decode cX12_fillsSeen 19 = .ok (.iload 4, 2) := by decide +kernel
theorem dX12_fillsSeen_21 : decode cX12_fillsSeen 21 = .ok (.bipush 12, 2) := by decide +kernel
theorem dX12_fillsSeen_23 : decode cX12_fillsSeen 23 = .ok (.if_icmp .ge 22, 3) := by decide +kernel
theorem dX12_fillsSeen_26 : decode cX12_fillsSeen 26 = .ok (.aload_n 0, 1) := by decide +kernel
theorem dX12_fillsSeen_27 : decode cX12_fillsSeen 27 = .ok (.getfield 167, 3) := by decide +kernel
theorem dX12_fillsSeen_30 : decode cX12_fillsSeen 30 = .ok (.bipush 12, 2) := by decide +kernel
theorem dX12_fillsSeen_32 : decode cX12_fillsSeen 32 = .ok (.iload_n 3, 1) := by decide +kernel
theorem dX12_fillsSeen_33 : decode cX12_fillsSeen 33 = .ok (.imul, 1) := by decide +kernel
theorem dX12_fillsSeen_34 : decode cX12_fillsSeen 34 = .ok (.iload 4, 2) := by decide +kernel
theorem dX12_fillsSeen_36 : decode cX12_fillsSeen 36 = .ok (.iadd, 1) := by decide +kernel
theorem dX12_fillsSeen_37 : decode cX12_fillsSeen 37 = .ok (.iconst 0, 1) := by decide +kernel
theorem dX12_fillsSeen_38 : decode cX12_fillsSeen 38 = .ok (.bastore, 1) := by decide +kernel
theorem dX12_fillsSeen_39 : decode cX12_fillsSeen 39 = .ok (.iinc 4 1, 3) := by decide +kernel
theorem dX12_fillsSeen_42 : decode cX12_fillsSeen 42 = .ok (.goto (-23), 3) := by decide +kernel
theorem dX12_fillsSeen_45 : decode cX12_fillsSeen 45 = .ok (.iconst 0, 1) := by decide +kernel
theorem dX12_fillsSeen_46 : decode cX12_fillsSeen 46 = .ok (.istore 4, 2) := by decide +kernel
theorem dX12_fillsSeen_48 : decode cX12_fillsSeen 48 = .ok (.iload 4, 2) := by decide +kernel
theorem dX12_fillsSeen_50 : decode cX12_fillsSeen 50 = .ok (.aload_n 0, 1) := by decide +kernel
theorem dX12_fillsSeen_51 : decode cX12_fillsSeen 51 = .ok (.getfield 49, 3) := by decide +kernel
theorem dX12_fillsSeen_54 : decode cX12_fillsSeen 54 = .ok (.aload_n 0, 1) := by decide +kernel
theorem dX12_fillsSeen_55 : decode cX12_fillsSeen 55 = .ok (.getfield 263, 3) := by decide +kernel
theorem dX12_fillsSeen_58 : decode cX12_fillsSeen 58 = .ok (.iaload, 1) := by decide +kernel
theorem dX12_fillsSeen_59 : decode cX12_fillsSeen 59 = .ok (.if_icmp .ge 26, 3) := by decide +kernel
theorem dX12_fillsSeen_62 : decode cX12_fillsSeen 62 = .ok (.aload_n 0, 1) := by decide +kernel
theorem dX12_fillsSeen_63 : decode cX12_fillsSeen 63 = .ok (.getfield 170, 3) := by decide +kernel
theorem dX12_fillsSeen_66 : decode cX12_fillsSeen 66 = .ok (.iload 4, 2) := by decide +kernel
theorem dX12_fillsSeen_68 : decode cX12_fillsSeen 68 = .ok (.aload_n 0, 1) := by decide +kernel
theorem dX12_fillsSeen_69 : decode cX12_fillsSeen 69 = .ok (.getfield 137, 3) := by decide +kernel
theorem dX12_fillsSeen_72 : decode cX12_fillsSeen 72 = .ok (.bipush 12, 2) := by decide +kernel
theorem dX12_fillsSeen_74 : decode cX12_fillsSeen 74 = .ok (.iload 4, 2) := by decide +kernel
theorem dX12_fillsSeen_76 : decode cX12_fillsSeen 76 = .ok (.iadd, 1) := by decide +kernel
theorem dX12_fillsSeen_77 : decode cX12_fillsSeen 77 = .ok (.iaload, 1) := by decide +kernel
theorem dX12_fillsSeen_78 : decode cX12_fillsSeen 78 = .ok (.iastore, 1) := by decide +kernel
theorem dX12_fillsSeen_79 : decode cX12_fillsSeen 79 = .ok (.iinc 4 1, 3) := by decide +kernel
theorem dX12_fillsSeen_82 : decode cX12_fillsSeen 82 = .ok (.goto (-34), 3) := by decide +kernel
theorem dX12_fillsSeen_85 : decode cX12_fillsSeen 85 = .ok (.aload_n 0, 1) := by decide +kernel
theorem dX12_fillsSeen_86 : decode cX12_fillsSeen 86 = .ok (.invokevirtual 424, 3) := by decide +kernel
theorem dX12_fillsSeen_89 : decode cX12_fillsSeen 89 = .ok (.iconst 0, 1) := by decide +kernel
theorem dX12_fillsSeen_90 : decode cX12_fillsSeen 90 = .ok (.istore 4, 2) := by decide +kernel
theorem dX12_fillsSeen_92 : decode cX12_fillsSeen 92 = .ok (.iload 4, 2) := by decide +kernel
theorem dX12_fillsSeen_94 : decode cX12_fillsSeen 94 = .ok (.aload_n 0, 1) := by decide +kernel
theorem dX12_fillsSeen_95 : decode cX12_fillsSeen 95 = .ok (.getfield 49, 3) := by decide +kernel
theorem dX12_fillsSeen_98 : decode cX12_fillsSeen 98 = .ok (.aload_n 0, 1) := by decide +kernel
theorem dX12_fillsSeen_99 : decode cX12_fillsSeen 99 = .ok (.getfield 263, 3) := by decide +kernel
theorem dX12_fillsSeen_102 : decode cX12_fillsSeen 102 = .ok (.iaload, 1) := by decide +kernel
theorem dX12_fillsSeen_103 : decode cX12_fillsSeen 103 = .ok (.if_icmp .ge 46, 3) := by decide +kernel
theorem dX12_fillsSeen_106 : decode cX12_fillsSeen 106 = .ok (.aload_n 0, 1) := by decide +kernel
theorem dX12_fillsSeen_107 : decode cX12_fillsSeen 107 = .ok (.getfield 167, 3) := by decide +kernel
theorem dX12_fillsSeen_110 : decode cX12_fillsSeen 110 = .ok (.bipush 12, 2) := by decide +kernel
theorem dX12_fillsSeen_112 : decode cX12_fillsSeen 112 = .ok (.iload_n 3, 1) := by decide +kernel
theorem dX12_fillsSeen_113 : decode cX12_fillsSeen 113 = .ok (.imul, 1) := by decide +kernel
theorem dX12_fillsSeen_114 : decode cX12_fillsSeen 114 = .ok (.iload 4, 2) := by decide +kernel
theorem dX12_fillsSeen_116 : decode cX12_fillsSeen 116 = .ok (.iadd, 1) := by decide +kernel
theorem dX12_fillsSeen_117 : decode cX12_fillsSeen 117 = .ok (.aload_n 0, 1) := by decide +kernel
theorem dX12_fillsSeen_118 : decode cX12_fillsSeen 118 = .ok (.getfield 137, 3) := by decide +kernel
theorem dX12_fillsSeen_121 : decode cX12_fillsSeen 121 = .ok (.bipush 12, 2) := by decide +kernel
theorem dX12_fillsSeen_123 : decode cX12_fillsSeen 123 = .ok (.iload 4, 2) := by decide +kernel
theorem dX12_fillsSeen_125 : decode cX12_fillsSeen 125 = .ok (.iadd, 1) := by decide +kernel
theorem dX12_fillsSeen_126 : decode cX12_fillsSeen 126 = .ok (.iaload, 1) := by decide +kernel
theorem dX12_fillsSeen_127 : decode cX12_fillsSeen 127 = .ok (.aload_n 0, 1) := by decide +kernel
theorem dX12_fillsSeen_128 : decode cX12_fillsSeen 128 = .ok (.getfield 170, 3) := by decide +kernel
theorem dX12_fillsSeen_131 : decode cX12_fillsSeen 131 = .ok (.iload 4, 2) := by decide +kernel
theorem dX12_fillsSeen_133 : decode cX12_fillsSeen 133 = .ok (.iaload, 1) := by decide +kernel
theorem dX12_fillsSeen_134 : decode cX12_fillsSeen 134 = .ok (.if_icmp .le 7, 3) := by decide +kernel
theorem dX12_fillsSeen_137 : decode cX12_fillsSeen 137 = .ok (.iconst 1, 1) := by decide +kernel
theorem dX12_fillsSeen_138 : decode cX12_fillsSeen 138 = .ok (.goto 4, 3) := by decide +kernel
theorem dX12_fillsSeen_141 : decode cX12_fillsSeen 141 = .ok (.iconst 0, 1) := by decide +kernel
theorem dX12_fillsSeen_142 : decode cX12_fillsSeen 142 = .ok (.bastore, 1) := by decide +kernel
theorem dX12_fillsSeen_143 : decode cX12_fillsSeen 143 = .ok (.iinc 4 1, 3) := by decide +kernel
theorem dX12_fillsSeen_146 : decode cX12_fillsSeen 146 = .ok (.goto (-54), 3) := by decide +kernel
theorem dX12_fillsSeen_149 : decode cX12_fillsSeen 149 = .ok (.iinc 3 1, 3) := by decide +kernel
theorem dX12_fillsSeen_152 : decode cX12_fillsSeen 152 = .ok (.goto (-141), 3) := by decide +kernel
theorem dX12_fillsSeen_155 : decode cX12_fillsSeen 155 = .ok (.return_, 1) := by decide +kernel
theorem dX12_lastTold_0 : decode cX12_lastTold 0 = .ok (.iconst (-1), 1) := by decide +kernel
theorem dX12_lastTold_1 : decode cX12_lastTold 1 = .ok (.istore_n 2, 1) := by decide +kernel
theorem dX12_lastTold_2 : decode cX12_lastTold 2 = .ok (.iconst 0, 1) := by decide +kernel
theorem dX12_lastTold_3 : decode cX12_lastTold 3 = .ok (.istore_n 3, 1) := by decide +kernel
theorem dX12_lastTold_4 : decode cX12_lastTold 4 = .ok (.iload_n 3, 1) := by decide +kernel
theorem dX12_lastTold_5 : decode cX12_lastTold 5 = .ok (.iload_n 1, 1) := by decide +kernel
theorem dX12_lastTold_6 : decode cX12_lastTold 6 = .ok (.if_icmp .ge 26, 3) := by decide +kernel
theorem dX12_lastTold_9 : decode cX12_lastTold 9 = .ok (.aload_n 0, 1) := by decide +kernel
theorem dX12_lastTold_10 : decode cX12_lastTold 10 = .ok (.getfield 161, 3) := by decide +kernel
theorem dX12_lastTold_13 : decode cX12_lastTold 13 = .ok (.iload_n 3, 1) := by decide +kernel
theorem dX12_lastTold_14 : decode cX12_lastTold 14 = .ok (.iaload, 1) := by decide +kernel
theorem dX12_lastTold_15 : decode cX12_lastTold 15 = .ok (.iload_n 2, 1) := by decide +kernel
theorem dX12_lastTold_16 : decode cX12_lastTold 16 = .ok (.if_icmp .le 10, 3) := by decide +kernel
theorem dX12_lastTold_19 : decode cX12_lastTold 19 = .ok (.aload_n 0, 1) := by decide +kernel
theorem dX12_lastTold_20 : decode cX12_lastTold 20 = .ok (.getfield 161, 3) := by decide +kernel
theorem dX12_lastTold_23 : decode cX12_lastTold 23 = .ok (.iload_n 3, 1) := by decide +kernel
theorem dX12_lastTold_24 : decode cX12_lastTold 24 = .ok (.iaload, 1) := by decide +kernel
theorem dX12_lastTold_25 : decode cX12_lastTold 25 = .ok (.istore_n 2, 1) := by decide +kernel
theorem dX12_lastTold_26 : decode cX12_lastTold 26 = .ok (.iinc 3 1, 3) := by decide +kernel
theorem dX12_lastTold_29 : decode cX12_lastTold 29 = .ok (.goto (-25), 3) := by decide +kernel
theorem dX12_lastTold_32 : decode cX12_lastTold 32 = .ok (.iload_n 2, 1) := by decide +kernel
theorem dX12_lastTold_33 : decode cX12_lastTold 33 = .ok (.ireturn, 1) := by decide +kernel
theorem dX12_isSo_0 : decode cX12_isSo 0 = .ok (.iconst 0, 1) := by decide +kernel
theorem dX12_isSo_1 : decode cX12_isSo 1 = .ok (.istore_n 2, 1) := by decide +kernel
theorem dX12_isSo_2 : decode cX12_isSo 2 = .ok (.iload_n 2, 1) := by decide +kernel
theorem dX12_isSo_3 : decode cX12_isSo 3 = .ok (.iload_n 1, 1) := by decide +kernel
theorem dX12_isSo_4 : decode cX12_isSo 4 = .ok (.if_icmp .ge 41, 3) := by decide +kernel
theorem dX12_isSo_7 : decode cX12_isSo 7 = .ok (.aload_n 0, 1) := by decide +kernel
theorem dX12_isSo_8 : decode cX12_isSo 8 = .ok (.getfield 167, 3) := by decide +kernel
theorem dX12_isSo_11 : decode cX12_isSo 11 = .ok (.bipush 12, 2) := by decide +kernel
theorem dX12_isSo_13 : decode cX12_isSo 13 = .ok (.aload_n 0, 1) := by decide +kernel
theorem dX12_isSo_14 : decode cX12_isSo 14 = .ok (.getfield 161, 3) := by decide +kernel
theorem dX12_isSo_17 : decode cX12_isSo 17 = .ok (.iload_n 2, 1) := by decide +kernel
theorem dX12_isSo_18 : decode cX12_isSo 18 = .ok (.iaload, 1) := by decide +kernel
theorem dX12_isSo_19 : decode cX12_isSo 19 = .ok (.imul, 1) := by decide +kernel
theorem dX12_isSo_20 : decode cX12_isSo 20 = .ok (.aload_n 0, 1) := by decide +kernel
theorem dX12_isSo_21 : decode cX12_isSo 21 = .ok (.getfield 158, 3) := by decide +kernel
theorem dX12_isSo_24 : decode cX12_isSo 24 = .ok (.iload_n 2, 1) := by decide +kernel
theorem dX12_isSo_25 : decode cX12_isSo 25 = .ok (.iaload, 1) := by decide +kernel
theorem dX12_isSo_26 : decode cX12_isSo 26 = .ok (.iadd, 1) := by decide +kernel
theorem dX12_isSo_27 : decode cX12_isSo 27 = .ok (.baload, 1) := by decide +kernel
theorem dX12_isSo_28 : decode cX12_isSo 28 = .ok (.aload_n 0, 1) := by decide +kernel
theorem dX12_isSo_29 : decode cX12_isSo 29 = .ok (.getfield 164, 3) := by decide +kernel
theorem dX12_isSo_32 : decode cX12_isSo 32 = .ok (.iload_n 2, 1) := by decide +kernel
theorem dX12_isSo_33 : decode cX12_isSo 33 = .ok (.baload, 1) := by decide +kernel
theorem dX12_isSo_34 : decode cX12_isSo 34 = .ok (.if_icmp .eq 5, 3) := by decide +kernel
theorem dX12_isSo_37 : decode cX12_isSo 37 = .ok (.iconst 0, 1) := by decide +kernel
theorem dX12_isSo_38 : decode cX12_isSo 38 = .ok (.ireturn, 1) := by decide +kernel
theorem dX12_isSo_39 : decode cX12_isSo 39 = .ok (.iinc 2 1, 3) := by decide +kernel
theorem dX12_isSo_42 : decode cX12_isSo 42 = .ok (.goto (-40), 3) := by decide +kernel
theorem dX12_isSo_45 : decode cX12_isSo 45 = .ok (.iconst 1, 1) := by decide +kernel
theorem dX12_isSo_46 : decode cX12_isSo 46 = .ok (.ireturn, 1) := by decide +kernel
theorem dX12_who_0 : decode cX12_who 0 = .ok (.iload_n 1, 1) := by decide +kernel
theorem dX12_who_1 : decode cX12_who 1 = .ok (.iconst 0, 1) := by decide +kernel
theorem dX12_who_2 : decode cX12_who 2 = .ok (.aload_n 0, 1) := by decide +kernel
theorem dX12_who_3 : decode cX12_who 3 = .ok (.getfield 284, 3) := by decide +kernel
theorem dX12_who_6 : decode cX12_who 6 = .ok (.invokestatic 349, 3) := by decide +kernel
theorem dX12_who_9 : decode cX12_who 9 = .ok (.ifCond .eq 8, 3) := by decide +kernel
theorem dX12_who_12 : decode cX12_who 12 = .ok (.iload_n 2, 1) := by decide +kernel
theorem dX12_who_13 : decode cX12_who 13 = .ok (.iconst (-1), 1) := by decide +kernel
theorem dX12_who_14 : decode cX12_who 14 = .ok (.if_icmp .ge 5, 3) := by decide +kernel
theorem dX12_who_17 : decode cX12_who 17 = .ok (.iconst (-1), 1) := by decide +kernel
theorem dX12_who_18 : decode cX12_who 18 = .ok (.ireturn, 1) := by decide +kernel
theorem dX12_who_19 : decode cX12_who 19 = .ok (.aload_n 0, 1) := by decide +kernel
theorem dX12_who_20 : decode cX12_who 20 = .ok (.iload_n 1, 1) := by decide +kernel
theorem dX12_who_21 : decode cX12_who 21 = .ok (.invokevirtual 481, 3) := by decide +kernel
theorem dX12_who_24 : decode cX12_who 24 = .ok (.istore_n 3, 1) := by decide +kernel
theorem dX12_who_25 : decode cX12_who 25 = .ok (.iconst 0, 1) := by decide +kernel
theorem dX12_who_26 : decode cX12_who 26 = .ok (.istore 4, 2) := by decide +kernel
theorem dX12_who_28 : decode cX12_who 28 = .ok (.iconst 0, 1) := by decide +kernel
theorem dX12_who_29 : decode cX12_who 29 = .ok (.istore 5, 2) := by decide +kernel
theorem dX12_who_31 : decode cX12_who 31 = .ok (.iload 5, 2) := by decide +kernel
theorem dX12_who_33 : decode cX12_who 33 = .ok (.iconst 1, 1) := by decide +kernel
theorem dX12_who_34 : decode cX12_who 34 = .ok (.aload_n 0, 1) := by decide +kernel
theorem dX12_who_35 : decode cX12_who 35 = .ok (.getfield 68, 3) := by decide +kernel
theorem dX12_who_38 : decode cX12_who 38 = .ok (.aload_n 0, 1) := by decide +kernel
theorem dX12_who_39 : decode cX12_who 39 = .ok (.getfield 263, 3) := by decide +kernel
theorem dX12_who_42 : decode cX12_who 42 = .ok (.iaload, 1) := by decide +kernel
theorem dX12_who_43 : decode cX12_who 43 = .ok (.ishl, 1) := by decide +kernel
theorem dX12_who_44 : decode cX12_who 44 = .ok (.if_icmp .ge 39, 3) := by decide +kernel
theorem dX12_who_47 : decode cX12_who 47 = .ok (.aload_n 0, 1) := by decide +kernel
theorem dX12_who_48 : decode cX12_who 48 = .ok (.iload 5, 2) := by decide +kernel
theorem dX12_who_50 : decode cX12_who 50 = .ok (.iload_n 3, 1) := by decide +kernel
theorem dX12_who_51 : decode cX12_who 51 = .ok (.invokevirtual 484, 3) := by decide +kernel
theorem dX12_who_54 : decode cX12_who 54 = .ok (.aload_n 0, 1) := by decide +kernel
theorem dX12_who_55 : decode cX12_who 55 = .ok (.iload_n 1, 1) := by decide +kernel
theorem dX12_who_56 : decode cX12_who 56 = .ok (.invokevirtual 487, 3) := by decide +kernel
theorem dX12_who_59 : decode cX12_who 59 = .ok (.ifCond .ne 6, 3) := by decide +kernel
theorem dX12_who_62 : decode cX12_who 62 = .ok (.goto 15, 3) := by decide +kernel
theorem dX12_who_65 : decode cX12_who 65 = .ok (.iload 4, 2) := by decide +kernel
theorem dX12_who_67 : decode cX12_who 67 = .ok (.iload_n 2, 1) := by decide +kernel
theorem dX12_who_68 : decode cX12_who 68 = .ok (.if_icmp .ne 6, 3) := by decide +kernel
theorem dX12_who_71 : decode cX12_who 71 = .ok (.iload 5, 2) := by decide +kernel
theorem dX12_who_73 : decode cX12_who 73 = .ok (.ireturn, 1) := by decide +kernel
theorem dX12_who_74 : decode cX12_who 74 = .ok (.iinc 4 1, 3) := by decide +kernel
theorem dX12_who_77 : decode cX12_who 77 = .ok (.iinc 5 1, 3) := by decide +kernel
theorem dX12_who_80 : decode cX12_who 80 = .ok (.goto (-49), 3) := by decide +kernel
theorem dX12_who_83 : decode cX12_who 83 = .ok (.iload_n 2, 1) := by decide +kernel
theorem dX12_who_84 : decode cX12_who 84 = .ok (.iconst (-1), 1) := by decide +kernel
theorem dX12_who_85 : decode cX12_who 85 = .ok (.if_icmp .ne 8, 3) := by decide +kernel
theorem dX12_who_88 : decode cX12_who 88 = .ok (.iload 4, 2) := by decide +kernel
theorem dX12_who_90 : decode cX12_who 90 = .ok (.goto 4, 3) := by decide +kernel
theorem dX12_who_93 : decode cX12_who 93 = .ok (.iconst (-1), 1) := by decide +kernel
theorem dX12_who_94 : decode cX12_who 94 = .ok (.ireturn, 1) := by decide +kernel
theorem dX12_watch_0 : decode cX12_watch 0 = .ok (.iload_n 1, 1) := by decide +kernel
theorem dX12_watch_1 : decode cX12_watch 1 = .ok (.iconst 0, 1) := by decide +kernel
theorem dX12_watch_2 : decode cX12_watch 2 = .ok (.aload_n 0, 1) := by decide +kernel
theorem dX12_watch_3 : decode cX12_watch 3 = .ok (.getfield 284, 3) := by decide +kernel
theorem dX12_watch_6 : decode cX12_watch 6 = .ok (.invokestatic 349, 3) := by decide +kernel
theorem dX12_watch_9 : decode cX12_watch 9 = .ok (.ifCond .eq 13, 3) := by decide +kernel
theorem dX12_watch_12 : decode cX12_watch 12 = .ok (.iload_n 2, 1) := by decide +kernel
theorem dX12_watch_13 : decode cX12_watch 13 = .ok (.iconst 0, 1) := by decide +kernel
theorem dX12_watch_14 : decode cX12_watch 14 = .ok (.bipush 30, 2) := by decide +kernel
theorem dX12_watch_16 : decode cX12_watch 16 = .ok (.invokestatic 349, 3) := by decide +kernel
theorem dX12_watch_19 : decode cX12_watch 19 = .ok (.ifCond .ne 5, 3) := by decide +kernel
theorem dX12_watch_22 : decode cX12_watch 22 = .ok (.iconst (-1), 1) := by decide +kernel
theorem dX12_watch_23 : decode cX12_watch 23 = .ok (.ireturn, 1) := by decide +kernel
theorem dX12_watch_24 : decode cX12_watch 24 = .ok (.iconst 0, 1) := by decide +kernel
theorem dX12_watch_25 : decode cX12_watch 25 = .ok (.istore_n 3, 1) := by decide +kernel
theorem dX12_watch_26 : decode cX12_watch 26 = .ok (.iload_n 3, 1) := by decide +kernel
theorem dX12_watch_27 : decode cX12_watch 27 = .ok (.bipush 12, 2) := by decide +kernel
theorem dX12_watch_29 : decode cX12_watch 29 = .ok (.if_icmp .ge 16, 3) := by decide +kernel
theorem dX12_watch_32 : decode cX12_watch 32 = .ok (.aload_n 0, 1) := by decide +kernel
theorem dX12_watch_33 : decode cX12_watch 33 = .ok (.getfield 173, 3) := by decide +kernel
theorem dX12_watch_36 : decode cX12_watch 36 = .ok (.iload_n 3, 1) := by decide +kernel
theorem dX12_watch_37 : decode cX12_watch 37 = .ok (.iconst 0, 1) := by decide +kernel
theorem dX12_watch_38 : decode cX12_watch 38 = .ok (.iastore, 1) := by decide +kernel
theorem dX12_watch_39 : decode cX12_watch 39 = .ok (.iinc 3 1, 3) := by decide +kernel
theorem dX12_watch_42 : decode cX12_watch 42 = .ok (.goto (-16), 3) := by decide +kernel
theorem dX12_watch_45 : decode cX12_watch 45 = .ok (.aload_n 0, 1) := by decide +kernel
theorem dX12_watch_46 : decode cX12_watch 46 = .ok (.iload_n 1, 1) := by decide +kernel
theorem dX12_watch_47 : decode cX12_watch 47 = .ok (.invokevirtual 481, 3) := by decide +kernel
theorem dX12_watch_50 : decode cX12_watch 50 = .ok (.iload_n 2, 1) := by decide +kernel
theorem dX12_watch_51 : decode cX12_watch 51 = .ok (.if_icmp .le 11, 3) := by decide +kernel
theorem dX12_watch_54 : decode cX12_watch 54 = .ok (.aload_n 0, 1) := by decide +kernel
theorem dX12_watch_55 : decode cX12_watch 55 = .ok (.iload_n 1, 1) := by decide +kernel
theorem dX12_watch_56 : decode cX12_watch 56 = .ok (.invokevirtual 481, 3) := by decide +kernel
theorem dX12_watch_59 : decode cX12_watch 59 = .ok (.goto 4, 3) := by decide +kernel
theorem dX12_watch_62 : decode cX12_watch 62 = .ok (.iload_n 2, 1) := by decide +kernel
theorem dX12_watch_63 : decode cX12_watch 63 = .ok (.istore_n 3, 1) := by decide +kernel
theorem dX12_watch_64 : decode cX12_watch 64 = .ok (.iconst 0, 1) := by decide +kernel
theorem dX12_watch_65 : decode cX12_watch 65 = .ok (.istore 4, 2) := by decide +kernel
theorem dX12_watch_67 : decode cX12_watch 67 = .ok (.iconst 0, 1) := by decide +kernel
theorem dX12_watch_68 : decode cX12_watch 68 = .ok (.istore 5, 2) := by decide +kernel
theorem dX12_watch_70 : decode cX12_watch 70 = .ok (.iload 5, 2) := by decide +kernel
theorem dX12_watch_72 : decode cX12_watch 72 = .ok (.iconst 1, 1) := by decide +kernel
theorem dX12_watch_73 : decode cX12_watch 73 = .ok (.aload_n 0, 1) := by decide +kernel
theorem dX12_watch_74 : decode cX12_watch 74 = .ok (.getfield 68, 3) := by decide +kernel
theorem dX12_watch_77 : decode cX12_watch 77 = .ok (.aload_n 0, 1) := by decide +kernel
theorem dX12_watch_78 : decode cX12_watch 78 = .ok (.getfield 263, 3) := by decide +kernel
theorem dX12_watch_81 : decode cX12_watch 81 = .ok (.iaload, 1) := by decide +kernel
theorem dX12_watch_82 : decode cX12_watch 82 = .ok (.ishl, 1) := by decide +kernel
theorem dX12_watch_83 : decode cX12_watch 83 = .ok (.if_icmp .ge 79, 3) := by decide +kernel
theorem dX12_watch_86 : decode cX12_watch 86 = .ok (.aload_n 0, 1) := by decide +kernel
theorem dX12_watch_87 : decode cX12_watch 87 = .ok (.iload 5, 2) := by decide +kernel
theorem dX12_watch_89 : decode cX12_watch 89 = .ok (.iload_n 3, 1) := by decide +kernel
theorem dX12_watch_90 : decode cX12_watch 90 = .ok (.invokevirtual 484, 3) := by decide +kernel
theorem dX12_watch_93 : decode cX12_watch 93 = .ok (.aload_n 0, 1) := by decide +kernel
theorem dX12_watch_94 : decode cX12_watch 94 = .ok (.iload_n 1, 1) := by decide +kernel
theorem dX12_watch_95 : decode cX12_watch 95 = .ok (.invokevirtual 487, 3) := by decide +kernel
theorem dX12_watch_98 : decode cX12_watch 98 = .ok (.ifCond .ne 6, 3) := by decide +kernel
theorem dX12_watch_101 : decode cX12_watch 101 = .ok (.goto 55, 3) := by decide +kernel
theorem dX12_watch_104 : decode cX12_watch 104 = .ok (.iinc 4 1, 3) := by decide +kernel
theorem dX12_watch_107 : decode cX12_watch 107 = .ok (.iconst 0, 1) := by decide +kernel
theorem dX12_watch_108 : decode cX12_watch 108 = .ok (.istore 6, 2) := by decide +kernel
theorem dX12_watch_110 : decode cX12_watch 110 = .ok (.iload 6, 2) := by decide +kernel
theorem dX12_watch_112 : decode cX12_watch 112 = .ok (.aload_n 0, 1) := by decide +kernel
theorem dX12_watch_113 : decode cX12_watch 113 = .ok (.getfield 49, 3) := by decide +kernel
theorem dX12_watch_116 : decode cX12_watch 116 = .ok (.aload_n 0, 1) := by decide +kernel
theorem dX12_watch_117 : decode cX12_watch 117 = .ok (.getfield 263, 3) := by decide +kernel
theorem dX12_watch_120 : decode cX12_watch 120 = .ok (.iaload, 1) := by decide +kernel
theorem dX12_watch_121 : decode cX12_watch 121 = .ok (.if_icmp .ge 35, 3) := by decide +kernel
theorem dX12_watch_124 : decode cX12_watch 124 = .ok (.aload_n 0, 1) := by decide +kernel
theorem dX12_watch_125 : decode cX12_watch 125 = .ok (.getfield 167, 3) := by decide +kernel
theorem dX12_watch_128 : decode cX12_watch 128 = .ok (.bipush 12, 2) := by decide +kernel
theorem dX12_watch_130 : decode cX12_watch 130 = .ok (.iload_n 2, 1) := by decide +kernel
theorem dX12_watch_131 : decode cX12_watch 131 = .ok (.imul, 1) := by decide +kernel
theorem dX12_watch_132 : decode cX12_watch 132 = .ok (.iload 6, 2) := by decide +kernel
theorem dX12_watch_134 : decode cX12_watch 134 = .ok (.iadd, 1) := by decide +kernel
theorem dX12_watch_135 : decode cX12_watch 135 = .ok (.baload, 1) := by decide +kernel
theorem dX12_watch_136 : decode cX12_watch 136 = .ok (.ifCond .eq 14, 3) := by decide +kernel
theorem dX12_watch_139 : decode cX12_watch 139 = .ok (.aload_n 0, 1) := by decide +kernel
theorem dX12_watch_140 : decode cX12_watch 140 = .ok (.getfield 173, 3) := by decide +kernel
theorem dX12_watch_143 : decode cX12_watch 143 = .ok (.iload 6, 2) := by decide +kernel
theorem dX12_watch_145 : decode cX12_watch 145 = .ok (.dup2, 1) := by decide +kernel
theorem dX12_watch_146 : decode cX12_watch 146 = .ok (.iaload, 1) := by decide +kernel
theorem dX12_watch_147 : decode cX12_watch 147 = .ok (.iconst 1, 1) := by decide +kernel
theorem dX12_watch_148 : decode cX12_watch 148 = .ok (.iadd, 1) := by decide +kernel
theorem dX12_watch_149 : decode cX12_watch 149 = .ok (.iastore, 1) := by decide +kernel
theorem dX12_watch_150 : decode cX12_watch 150 = .ok (.iinc 6 1, 3) := by decide +kernel
theorem dX12_watch_153 : decode cX12_watch 153 = .ok (.goto (-43), 3) := by decide +kernel
theorem dX12_watch_156 : decode cX12_watch 156 = .ok (.iinc 5 1, 3) := by decide +kernel
theorem dX12_watch_159 : decode cX12_watch 159 = .ok (.goto (-89), 3) := by decide +kernel
theorem dX12_watch_162 : decode cX12_watch 162 = .ok (.bipush (-2), 2) := by decide +kernel
theorem dX12_watch_164 : decode cX12_watch 164 = .ok (.istore 5, 2) := by decide +kernel
theorem dX12_watch_166 : decode cX12_watch 166 = .ok (.iconst 0, 1) := by decide +kernel
theorem dX12_watch_167 : decode cX12_watch 167 = .ok (.istore 6, 2) := by decide +kernel
theorem dX12_watch_169 : decode cX12_watch 169 = .ok (.iconst 0, 1) := by decide +kernel
theorem dX12_watch_170 : decode cX12_watch 170 = .ok (.istore 7, 2) := by decide +kernel
theorem dX12_watch_172 : decode cX12_watch 172 = .ok (.iload 7, 2) := by decide +kernel
theorem dX12_watch_174 : decode cX12_watch 174 = .ok (.aload_n 0, 1) := by decide +kernel
theorem dX12_watch_175 : decode cX12_watch 175 = .ok (.getfield 49, 3) := by decide +kernel
theorem dX12_watch_178 : decode cX12_watch 178 = .ok (.aload_n 0, 1) := by decide +kernel
theorem dX12_watch_179 : decode cX12_watch 179 = .ok (.getfield 263, 3) := by decide +kernel
theorem dX12_watch_182 : decode cX12_watch 182 = .ok (.iaload, 1) := by decide +kernel
theorem dX12_watch_183 : decode cX12_watch 183 = .ok (.if_icmp .ge 86, 3) := by decide +kernel
theorem dX12_watch_186 : decode cX12_watch 186 = .ok (.aload_n 0, 1) := by decide +kernel
theorem dX12_watch_187 : decode cX12_watch 187 = .ok (.iload 7, 2) := by decide +kernel
theorem dX12_watch_189 : decode cX12_watch 189 = .ok (.invokevirtual 391, 3) := by decide +kernel
theorem dX12_watch_192 : decode cX12_watch 192 = .ok (.ifCond .ne 6, 3) := by decide +kernel
theorem dX12_watch_195 : decode cX12_watch 195 = .ok (.goto 68, 3) := by decide +kernel
theorem dX12_watch_198 : decode cX12_watch 198 = .ok (.aload_n 0, 1) := by decide +kernel
theorem dX12_watch_199 : decode cX12_watch 199 = .ok (.getfield 173, 3) := by decide +kernel
theorem dX12_watch_202 : decode cX12_watch 202 = .ok (.iload 7, 2) := by decide +kernel
theorem dX12_watch_204 : decode cX12_watch 204 = .ok (.iaload, 1) := by decide +kernel
theorem dX12_watch_205 : decode cX12_watch 205 = .ok (.iload 4, 2) := by decide +kernel
theorem dX12_watch_207 : decode cX12_watch 207 = .ok (.aload_n 0, 1) := by decide +kernel
theorem dX12_watch_208 : decode cX12_watch 208 = .ok (.getfield 173, 3) := by decide +kernel
theorem dX12_watch_211 : decode cX12_watch 211 = .ok (.iload 7, 2) := by decide +kernel
theorem dX12_watch_213 : decode cX12_watch 213 = .ok (.iaload, 1) := by decide +kernel
theorem dX12_watch_214 : decode cX12_watch 214 = .ok (.isub, 1) := by decide +kernel
theorem dX12_watch_215 : decode cX12_watch 215 = .ok (.if_icmp .le 13, 3) := by decide +kernel
theorem dX12_watch_218 : decode cX12_watch 218 = .ok (.aload_n 0, 1) := by decide +kernel
theorem dX12_watch_219 : decode cX12_watch 219 = .ok (.getfield 173, 3) := by decide +kernel
theorem dX12_watch_222 : decode cX12_watch 222 = .ok (.iload 7, 2) := by decide +kernel
theorem dX12_watch_224 : decode cX12_watch 224 = .ok (.iaload, 1) := by decide +kernel
theorem dX12_watch_225 : decode cX12_watch 225 = .ok (.goto 13, 3) := by decide +kernel
theorem dX12_watch_228 : decode cX12_watch 228 = .ok (.iload 4, 2) := by decide +kernel
theorem dX12_watch_230 : decode cX12_watch 230 = .ok (.aload_n 0, 1) := by decide +kernel
theorem dX12_watch_231 : decode cX12_watch 231 = .ok (.getfield 173, 3) := by decide +kernel
theorem dX12_watch_234 : decode cX12_watch 234 = .ok (.iload 7, 2) := by decide +kernel
theorem dX12_watch_236 : decode cX12_watch 236 = .ok (.iaload, 1) := by decide +kernel
theorem dX12_watch_237 : decode cX12_watch 237 = .ok (.isub, 1) := by decide +kernel
theorem dX12_watch_238 : decode cX12_watch 238 = .ok (.istore 8, 2) := by decide +kernel
theorem dX12_watch_240 : decode cX12_watch 240 = .ok (.iload 5, 2) := by decide +kernel
theorem dX12_watch_242 : decode cX12_watch 242 = .ok (.ifCond .lt 13, 3) := by decide +kernel
theorem dX12_watch_245 : decode cX12_watch 245 = .ok (.iload 8, 2) := by decide +kernel
theorem dX12_watch_247 : decode cX12_watch 247 = .ok (.iload 6, 2) := by decide +kernel
theorem dX12_watch_249 : decode cX12_watch 249 = .ok (.if_icmp .lt 6, 3) := by decide +kernel
theorem dX12_watch_252 : decode cX12_watch 252 = .ok (.goto 11, 3) := by decide +kernel
theorem dX12_watch_255 : decode cX12_watch 255 = .ok (.iload 7, 2) := by decide +kernel
theorem dX12_watch_257 : decode cX12_watch 257 = .ok (.istore 5, 2) := by decide +kernel
theorem dX12_watch_259 : decode cX12_watch 259 = .ok (.iload 8, 2) := by decide +kernel
theorem dX12_watch_261 : decode cX12_watch 261 = .ok (.istore 6, 2) := by decide +kernel
theorem dX12_watch_263 : decode cX12_watch 263 = .ok (.iinc 7 1, 3) := by decide +kernel
theorem dX12_watch_266 : decode cX12_watch 266 = .ok (.goto (-94), 3) := by decide +kernel
theorem dX12_watch_269 : decode cX12_watch 269 = .ok (.iload 5, 2) := by decide +kernel
theorem dX12_watch_271 : decode cX12_watch 271 = .ok (.ireturn, 1) := by decide +kernel
theorem dX12_hold_0 : decode cX12_hold 0 = .ok (.iload_n 1, 1) := by decide +kernel
theorem dX12_hold_1 : decode cX12_hold 1 = .ok (.iconst 0, 1) := by decide +kernel
theorem dX12_hold_2 : decode cX12_hold 2 = .ok (.iconst 2, 1) := by decide +kernel
theorem dX12_hold_3 : decode cX12_hold 3 = .ok (.invokestatic 349, 3) := by decide +kernel
theorem dX12_hold_6 : decode cX12_hold 6 = .ok (.ifCond .ne 5, 3) := by decide +kernel
theorem dX12_hold_9 : decode cX12_hold 9 = .ok (.iconst 0, 1) := by decide +kernel
theorem dX12_hold_10 : decode cX12_hold 10 = .ok (.ireturn, 1) := by decide +kernel
theorem dX12_hold_11 : decode cX12_hold 11 = .ok (.aload_n 0, 1) := by decide +kernel
theorem dX12_hold_12 : decode cX12_hold 12 = .ok (.getfield 176, 3) := by decide +kernel
theorem dX12_hold_15 : decode cX12_hold 15 = .ok (.iload_n 1, 1) := by decide +kernel
theorem dX12_hold_16 : decode cX12_hold 16 = .ok (.iconst 1, 1) := by decide +kernel
theorem dX12_hold_17 : decode cX12_hold 17 = .ok (.bastore, 1) := by decide +kernel
theorem dX12_hold_18 : decode cX12_hold 18 = .ok (.iconst 0, 1) := by decide +kernel
theorem dX12_hold_19 : decode cX12_hold 19 = .ok (.istore_n 2, 1) := by decide +kernel
theorem dX12_hold_20 : decode cX12_hold 20 = .ok (.iload_n 2, 1) := by decide +kernel
theorem dX12_hold_21 : decode cX12_hold 21 = .ok (.bipush 68, 2) := by decide +kernel
theorem dX12_hold_23 : decode cX12_hold 23 = .ok (.if_icmp .ge 26, 3) := by decide +kernel
theorem dX12_hold_26 : decode cX12_hold 26 = .ok (.aload_n 0, 1) := by decide +kernel
theorem dX12_hold_27 : decode cX12_hold 27 = .ok (.getfield 179, 3) := by decide +kernel
theorem dX12_hold_30 : decode cX12_hold 30 = .ok (.bipush 68, 2) := by decide +kernel
theorem dX12_hold_32 : decode cX12_hold 32 = .ok (.iload_n 1, 1) := by decide +kernel
theorem dX12_hold_33 : decode cX12_hold 33 = .ok (.imul, 1) := by decide +kernel
theorem dX12_hold_34 : decode cX12_hold 34 = .ok (.iload_n 2, 1) := by decide +kernel
theorem dX12_hold_35 : decode cX12_hold 35 = .ok (.iadd, 1) := by decide +kernel
theorem dX12_hold_36 : decode cX12_hold 36 = .ok (.aload_n 0, 1) := by decide +kernel
theorem dX12_hold_37 : decode cX12_hold 37 = .ok (.getfield 134, 3) := by decide +kernel
theorem dX12_hold_40 : decode cX12_hold 40 = .ok (.iload_n 2, 1) := by decide +kernel
theorem dX12_hold_41 : decode cX12_hold 41 = .ok (.iaload, 1) := by decide +kernel
theorem dX12_hold_42 : decode cX12_hold 42 = .ok (.iastore, 1) := by decide +kernel
theorem dX12_hold_43 : decode cX12_hold 43 = .ok (.iinc 2 1, 3) := by decide +kernel
theorem dX12_hold_46 : decode cX12_hold 46 = .ok (.goto (-26), 3) := by decide +kernel
theorem dX12_hold_49 : decode cX12_hold 49 = .ok (.iconst 1, 1) := by decide +kernel
theorem dX12_hold_50 : decode cX12_hold 50 = .ok (.ireturn, 1) := by decide +kernel
theorem dX12_restore_0 : decode cX12_restore 0 = .ok (.iload_n 1, 1) := by decide +kernel
theorem dX12_restore_1 : decode cX12_restore 1 = .ok (.iconst 0, 1) := by decide +kernel
theorem dX12_restore_2 : decode cX12_restore 2 = .ok (.iconst 2, 1) := by decide +kernel
theorem dX12_restore_3 : decode cX12_restore 3 = .ok (.invokestatic 349, 3) := by decide +kernel
theorem dX12_restore_6 : decode cX12_restore 6 = .ok (.ifCond .eq 12, 3) := by decide +kernel
theorem dX12_restore_9 : decode cX12_restore 9 = .ok (.aload_n 0, 1) := by decide +kernel
theorem dX12_restore_10 : decode cX12_restore 10 = .ok (.getfield 176, 3) := by decide +kernel
theorem dX12_restore_13 : decode cX12_restore 13 = .ok (.iload_n 1, 1) := by decide +kernel
theorem dX12_restore_14 : decode cX12_restore 14 = .ok (.baload, 1) := by decide +kernel
theorem dX12_restore_15 : decode cX12_restore 15 = .ok (.ifCond .ne 5, 3) := by decide +kernel
theorem dX12_restore_18 : decode cX12_restore 18 = .ok (.iconst 0, 1) := by decide +kernel
theorem dX12_restore_19 : decode cX12_restore 19 = .ok (.ireturn, 1) := by decide +kernel
theorem dX12_restore_20 : decode cX12_restore 20 = .ok (.iconst 0, 1) := by decide +kernel
theorem dX12_restore_21 : decode cX12_restore 21 = .ok (.istore_n 2, 1) := by decide +kernel
theorem dX12_restore_22 : decode cX12_restore 22 = .ok (.iload_n 2, 1) := by decide +kernel
theorem dX12_restore_23 : decode cX12_restore 23 = .ok (.bipush 68, 2) := by decide +kernel
theorem dX12_restore_25 : decode cX12_restore 25 = .ok (.if_icmp .ge 26, 3) := by decide +kernel
theorem dX12_restore_28 : decode cX12_restore 28 = .ok (.aload_n 0, 1) := by decide +kernel
theorem dX12_restore_29 : decode cX12_restore 29 = .ok (.getfield 134, 3) := by decide +kernel
theorem dX12_restore_32 : decode cX12_restore 32 = .ok (.iload_n 2, 1) := by decide +kernel
theorem dX12_restore_33 : decode cX12_restore 33 = .ok (.aload_n 0, 1) := by decide +kernel
theorem dX12_restore_34 : decode cX12_restore 34 = .ok (.getfield 179, 3) := by decide +kernel
theorem dX12_restore_37 : decode cX12_restore 37 = .ok (.bipush 68, 2) := by decide +kernel
theorem dX12_restore_39 : decode cX12_restore 39 = .ok (.iload_n 1, 1) := by decide +kernel
theorem dX12_restore_40 : decode cX12_restore 40 = .ok (.imul, 1) := by decide +kernel
theorem dX12_restore_41 : decode cX12_restore 41 = .ok (.iload_n 2, 1) := by decide +kernel
theorem dX12_restore_42 : decode cX12_restore 42 = .ok (.iadd, 1) := by decide +kernel
theorem dX12_restore_43 : decode cX12_restore 43 = .ok (.iaload, 1) := by decide +kernel
theorem dX12_restore_44 : decode cX12_restore 44 = .ok (.iastore, 1) := by decide +kernel
theorem dX12_restore_45 : decode cX12_restore 45 = .ok (.iinc 2 1, 3) := by decide +kernel
theorem dX12_restore_48 : decode cX12_restore 48 = .ok (.goto (-26), 3) := by decide +kernel
theorem dX12_restore_51 : decode cX12_restore 51 = .ok (.aload_n 0, 1) := by decide +kernel
theorem dX12_restore_52 : decode cX12_restore 52 = .ok (.iconst 0, 1) := by decide +kernel
theorem dX12_restore_53 : decode cX12_restore 53 = .ok (.putfield 281, 3) := by decide +kernel
theorem dX12_restore_56 : decode cX12_restore 56 = .ok (.iconst 1, 1) := by decide +kernel
theorem dX12_restore_57 : decode cX12_restore 57 = .ok (.ireturn, 1) := by decide +kernel
theorem dX12_count_0 : decode cX12_count 0 = .ok (.aload_n 0, 1) := by decide +kernel
theorem dX12_count_1 : decode cX12_count 1 = .ok (.invokevirtual 430, 3) := by decide +kernel
theorem dX12_count_4 : decode cX12_count 4 = .ok (.iload_n 1, 1) := by decide +kernel
theorem dX12_count_5 : decode cX12_count 5 = .ok (.tableswitch 207 0 12 #[67, 77, 87, 97, 105, 113, 121, 129, 142, 147, 152, 157, 202], 67) := by decide +kernel
theorem dX12_count_72 : decode cX12_count 72 = .ok (.aload_n 0, 1) := by decide +kernel
theorem dX12_count_73 : decode cX12_count 73 = .ok (.getfield 46, 3) := by decide +kernel
theorem dX12_count_76 : decode cX12_count 76 = .ok (.aload_n 0, 1) := by decide +kernel
theorem dX12_count_77 : decode cX12_count 77 = .ok (.getfield 263, 3) := by decide +kernel
theorem dX12_count_80 : decode cX12_count 80 = .ok (.iaload, 1) := by decide +kernel
theorem dX12_count_81 : decode cX12_count 81 = .ok (.ireturn, 1) := by decide +kernel
theorem dX12_count_82 : decode cX12_count 82 = .ok (.aload_n 0, 1) := by decide +kernel
theorem dX12_count_83 : decode cX12_count 83 = .ok (.getfield 49, 3) := by decide +kernel
theorem dX12_count_86 : decode cX12_count 86 = .ok (.aload_n 0, 1) := by decide +kernel
theorem dX12_count_87 : decode cX12_count 87 = .ok (.getfield 263, 3) := by decide +kernel
theorem dX12_count_90 : decode cX12_count 90 = .ok (.iaload, 1) := by decide +kernel
theorem dX12_count_91 : decode cX12_count 91 = .ok (.ireturn, 1) := by decide +kernel
theorem dX12_count_92 : decode cX12_count 92 = .ok (.aload_n 0, 1) := by decide +kernel
theorem dX12_count_93 : decode cX12_count 93 = .ok (.getfield 68, 3) := by decide +kernel
theorem dX12_count_96 : decode cX12_count 96 = .ok (.aload_n 0, 1) := by decide +kernel
theorem dX12_count_97 : decode cX12_count 97 = .ok (.getfield 263, 3) := by decide +kernel
theorem dX12_count_100 : decode cX12_count 100 = .ok (.iaload, 1) := by decide +kernel
theorem dX12_count_101 : decode cX12_count 101 = .ok (.ireturn, 1) := by decide +kernel
theorem dX12_count_102 : decode cX12_count 102 = .ok (.aload_n 0, 1) := by decide +kernel
theorem dX12_count_103 : decode cX12_count 103 = .ok (.getfield 137, 3) := by decide +kernel
theorem dX12_count_106 : decode cX12_count 106 = .ok (.bipush 67, 2) := by decide +kernel
theorem dX12_count_108 : decode cX12_count 108 = .ok (.iaload, 1) := by decide +kernel
theorem dX12_count_109 : decode cX12_count 109 = .ok (.ireturn, 1) := by decide +kernel
theorem dX12_count_110 : decode cX12_count 110 = .ok (.aload_n 0, 1) := by decide +kernel
theorem dX12_count_111 : decode cX12_count 111 = .ok (.getfield 137, 3) := by decide +kernel
theorem dX12_count_114 : decode cX12_count 114 = .ok (.bipush 65, 2) := by decide +kernel
theorem dX12_count_116 : decode cX12_count 116 = .ok (.iaload, 1) := by decide +kernel
theorem dX12_count_117 : decode cX12_count 117 = .ok (.ireturn, 1) := by decide +kernel
theorem dX12_count_118 : decode cX12_count 118 = .ok (.aload_n 0, 1) := by decide +kernel
theorem dX12_count_119 : decode cX12_count 119 = .ok (.getfield 137, 3) := by decide +kernel
theorem dX12_count_122 : decode cX12_count 122 = .ok (.bipush 66, 2) := by decide +kernel
theorem dX12_count_124 : decode cX12_count 124 = .ok (.iaload, 1) := by decide +kernel
theorem dX12_count_125 : decode cX12_count 125 = .ok (.ireturn, 1) := by decide +kernel
theorem dX12_count_126 : decode cX12_count 126 = .ok (.aload_n 0, 1) := by decide +kernel
theorem dX12_count_127 : decode cX12_count 127 = .ok (.getfield 137, 3) := by decide +kernel
theorem dX12_count_130 : decode cX12_count 130 = .ok (.bipush 64, 2) := by decide +kernel
theorem dX12_count_132 : decode cX12_count 132 = .ok (.iaload, 1) := by decide +kernel
theorem dX12_count_133 : decode cX12_count 133 = .ok (.ireturn, 1) := by decide +kernel
theorem dX12_count_134 : decode cX12_count 134 = .ok (.aload_n 0, 1) := by decide +kernel
theorem dX12_count_135 : decode cX12_count 135 = .ok (.invokevirtual 372, 3) := by decide +kernel
theorem dX12_count_138 : decode cX12_count 138 = .ok (.ifCond .eq 7, 3) := by decide +kernel
theorem dX12_count_141 : decode cX12_count 141 = .ok (.iconst 1, 1) := by decide +kernel
theorem dX12_count_142 : decode cX12_count 142 = .ok (.goto 4, 3) := by decide +kernel
theorem dX12_count_145 : decode cX12_count 145 = .ok (.iconst 0, 1) := by decide +kernel
theorem dX12_count_146 : decode cX12_count 146 = .ok (.ireturn, 1) := by decide +kernel
theorem dX12_count_147 : decode cX12_count 147 = .ok (.aload_n 0, 1) := by decide +kernel
theorem dX12_count_148 : decode cX12_count 148 = .ok (.getfield 196, 3) := by decide +kernel
theorem dX12_count_151 : decode cX12_count 151 = .ok (.ireturn, 1) := by decide +kernel
theorem dX12_count_152 : decode cX12_count 152 = .ok (.aload_n 0, 1) := by decide +kernel
theorem dX12_count_153 : decode cX12_count 153 = .ok (.getfield 281, 3) := by decide +kernel
theorem dX12_count_156 : decode cX12_count 156 = .ok (.ireturn, 1) := by decide +kernel
theorem dX12_count_157 : decode cX12_count 157 = .ok (.aload_n 0, 1) := by decide +kernel
theorem dX12_count_158 : decode cX12_count 158 = .ok (.getfield 284, 3) := by decide +kernel
theorem dX12_count_161 : decode cX12_count 161 = .ok (.ireturn, 1) := by decide +kernel
theorem dX12_count_162 : decode cX12_count 162 = .ok (.aload_n 0, 1) := by decide +kernel
theorem dX12_count_163 : decode cX12_count 163 = .ok (.getfield 176, 3) := by decide +kernel
theorem dX12_count_166 : decode cX12_count 166 = .ok (.iconst 0, 1) := by decide +kernel
theorem dX12_count_167 : decode cX12_count 167 = .ok (.baload, 1) := by decide +kernel
theorem dX12_count_168 : decode cX12_count 168 = .ok (.ifCond .eq 7, 3) := by decide +kernel
theorem dX12_count_171 : decode cX12_count 171 = .ok (.iconst 1, 1) := by decide +kernel
theorem dX12_count_172 : decode cX12_count 172 = .ok (.goto 4, 3) := by decide +kernel
theorem dX12_count_175 : decode cX12_count 175 = .ok (.iconst 0, 1) := by decide +kernel
theorem dX12_count_176 : decode cX12_count 176 = .ok (.aload_n 0, 1) := by decide +kernel
theorem dX12_count_177 : decode cX12_count 177 = .ok (.getfield 176, 3) := by decide +kernel
theorem dX12_count_180 : decode cX12_count 180 = .ok (.iconst 1, 1) := by decide +kernel
theorem dX12_count_181 : decode cX12_count 181 = .ok (.baload, 1) := by decide +kernel
theorem dX12_count_182 : decode cX12_count 182 = .ok (.ifCond .eq 7, 3) := by decide +kernel
theorem dX12_count_185 : decode cX12_count 185 = .ok (.iconst 1, 1) := by decide +kernel
theorem dX12_count_186 : decode cX12_count 186 = .ok (.goto 4, 3) := by decide +kernel
theorem dX12_count_189 : decode cX12_count 189 = .ok (.iconst 0, 1) := by decide +kernel
theorem dX12_count_190 : decode cX12_count 190 = .ok (.iadd, 1) := by decide +kernel
theorem dX12_count_191 : decode cX12_count 191 = .ok (.aload_n 0, 1) := by decide +kernel
theorem dX12_count_192 : decode cX12_count 192 = .ok (.getfield 176, 3) := by decide +kernel
theorem dX12_count_195 : decode cX12_count 195 = .ok (.iconst 2, 1) := by decide +kernel
theorem dX12_count_196 : decode cX12_count 196 = .ok (.baload, 1) := by decide +kernel
theorem dX12_count_197 : decode cX12_count 197 = .ok (.ifCond .eq 7, 3) := by decide +kernel
theorem dX12_count_200 : decode cX12_count 200 = .ok (.iconst 1, 1) := by decide +kernel
theorem dX12_count_201 : decode cX12_count 201 = .ok (.goto 4, 3) := by decide +kernel
theorem dX12_count_204 : decode cX12_count 204 = .ok (.iconst 0, 1) := by decide +kernel
theorem dX12_count_205 : decode cX12_count 205 = .ok (.iadd, 1) := by decide +kernel
theorem dX12_count_206 : decode cX12_count 206 = .ok (.ireturn, 1) := by decide +kernel
theorem dX12_count_207 : decode cX12_count 207 = .ok (.aload_n 0, 1) := by decide +kernel
theorem dX12_count_208 : decode cX12_count 208 = .ok (.invokevirtual 475, 3) := by decide +kernel
theorem dX12_count_211 : decode cX12_count 211 = .ok (.ireturn, 1) := by decide +kernel
theorem dX12_count_212 : decode cX12_count 212 = .ok (.iconst (-1), 1) := by decide +kernel
theorem dX12_count_213 : decode cX12_count 213 = .ok (.ireturn, 1) := by decide +kernel
