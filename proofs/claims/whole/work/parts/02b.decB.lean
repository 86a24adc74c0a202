theorem dX4_init_0 : decode cX4_init 0 = .ok (.aload_n 0, 1) := by decide +kernel
theorem dX4_init_1 : decode cX4_init 1 = .ok (.invokespecial 3, 3) := by decide +kernel
theorem dX4_init_4 : decode cX4_init 4 = .ok (.aload_n 0, 1) := by decide +kernel
theorem dX4_init_5 : decode cX4_init 5 = .ok (.new 9, 3) := by decide +kernel
theorem dX4_init_8 : decode cX4_init 8 = .ok (.dup, 1) := by decide +kernel
theorem dX4_init_9 : decode cX4_init 9 = .ok (.invokespecial 11, 3) := by decide +kernel
theorem dX4_init_12 : decode cX4_init 12 = .ok (.putfield 12, 3) := by decide +kernel
theorem dX4_init_15 : decode cX4_init 15 = .ok (.aload_n 0, 1) := by decide +kernel
theorem dX4_init_16 : decode cX4_init 16 = .ok (.bipush 8, 2) := by decide +kernel
theorem dX4_init_18 : decode cX4_init 18 = .ok (.newarray .long, 2) := by decide +kernel
theorem dX4_init_20 : decode cX4_init 20 = .ok (.putfield 18, 3) := by decide +kernel
theorem dX4_init_23 : decode cX4_init 23 = .ok (.aload_n 0, 1) := by decide +kernel
theorem dX4_init_24 : decode cX4_init 24 = .ok (.bipush 7, 2) := by decide +kernel
theorem dX4_init_26 : decode cX4_init 26 = .ok (.newarray .long, 2) := by decide +kernel
theorem dX4_init_28 : decode cX4_init 28 = .ok (.putfield 22, 3) := by decide +kernel
theorem dX4_init_31 : decode cX4_init 31 = .ok (.aload_n 0, 1) := by decide +kernel
theorem dX4_init_32 : decode cX4_init 32 = .ok (.bipush 24, 2) := by decide +kernel
theorem dX4_init_34 : decode cX4_init 34 = .ok (.newarray .int, 2) := by decide +kernel
theorem dX4_init_36 : decode cX4_init 36 = .ok (.putfield 25, 3) := by decide +kernel
theorem dX4_init_39 : decode cX4_init 39 = .ok (.return_, 1) := by decide +kernel
theorem dX4_readInto_0 : decode cX4_readInto 0 = .ok (.aload_n 0, 1) := by decide +kernel
theorem dX4_readInto_1 : decode cX4_readInto 1 = .ok (.aload_n 1, 1) := by decide +kernel
theorem dX4_readInto_2 : decode cX4_readInto 2 = .ok (.putfield 29, 3) := by decide +kernel
theorem dX4_readInto_5 : decode cX4_readInto 5 = .ok (.aload_n 0, 1) := by decide +kernel
theorem dX4_readInto_6 : decode cX4_readInto 6 = .ok (.getfield 29, 3) := by decide +kernel
theorem dX4_readInto_9 : decode cX4_readInto 9 = .ok (.invokevirtual 33, 3) := by decide +kernel
theorem dX4_readInto_12 : decode cX4_readInto 12 = .ok (.aload_n 0, 1) := by decide +kernel
theorem dX4_readInto_13 : decode cX4_readInto 13 = .ok (.getfield 12, 3) := by decide +kernel
theorem dX4_readInto_16 : decode cX4_readInto 16 = .ok (.aload_n 2, 1) := by decide +kernel
theorem dX4_readInto_17 : decode cX4_readInto 17 = .ok (.invokevirtual 38, 3) := by decide +kernel
theorem dX4_readInto_20 : decode cX4_readInto 20 = .ok (.aload_n 0, 1) := by decide +kernel
theorem dX4_readInto_21 : decode cX4_readInto 21 = .ok (.iconst 0, 1) := by decide +kernel
theorem dX4_readInto_22 : decode cX4_readInto 22 = .ok (.putfield 42, 3) := by decide +kernel
theorem dX4_readInto_25 : decode cX4_readInto 25 = .ok (.aload_n 0, 1) := by decide +kernel
theorem dX4_readInto_26 : decode cX4_readInto 26 = .ok (.iconst 0, 1) := by decide +kernel
theorem dX4_readInto_27 : decode cX4_readInto 27 = .ok (.putfield 46, 3) := by decide +kernel
theorem dX4_readInto_30 : decode cX4_readInto 30 = .ok (.aload_n 0, 1) := by decide +kernel
theorem dX4_readInto_31 : decode cX4_readInto 31 = .ok (.iconst 0, 1) := by decide +kernel
theorem dX4_readInto_32 : decode cX4_readInto 32 = .ok (.putfield 49, 3) := by decide +kernel
theorem dX4_readInto_35 : decode cX4_readInto 35 = .ok (.iconst 0, 1) := by decide +kernel
theorem dX4_readInto_36 : decode cX4_readInto 36 = .ok (.istore_n 3, 1) := by decide +kernel
theorem dX4_readInto_37 : decode cX4_readInto 37 = .ok (.iload_n 3, 1) := by decide +kernel
theorem dX4_readInto_38 : decode cX4_readInto 38 = .ok (.sipush 400, 3) := by decide +kernel
theorem dX4_readInto_41 : decode cX4_readInto 41 = .ok (.if_icmp .ge 20, 3) := by decide +kernel
theorem dX4_readInto_44 : decode cX4_readInto 44 = .ok (.aload_n 0, 1) := by decide +kernel
theorem dX4_readInto_45 : decode cX4_readInto 45 = .ok (.invokevirtual 52, 3) := by decide +kernel
theorem dX4_readInto_48 : decode cX4_readInto 48 = .ok (.ifCond .le 13, 3) := by decide +kernel
theorem dX4_readInto_51 : decode cX4_readInto 51 = .ok (.aload_n 0, 1) := by decide +kernel
theorem dX4_readInto_52 : decode cX4_readInto 52 = .ok (.invokevirtual 56, 3) := by decide +kernel
theorem dX4_readInto_55 : decode cX4_readInto 55 = .ok (.iinc 3 1, 3) := by decide +kernel
theorem dX4_readInto_58 : decode cX4_readInto 58 = .ok (.goto (-21), 3) := by decide +kernel
theorem dX4_readInto_61 : decode cX4_readInto 61 = .ok (.aload_n 0, 1) := by decide +kernel
theorem dX4_readInto_62 : decode cX4_readInto 62 = .ok (.getfield 46, 3) := by decide +kernel
theorem dX4_readInto_65 : decode cX4_readInto 65 = .ok (.ifCond .eq 16, 3) := by decide +kernel
theorem dX4_readInto_68 : decode cX4_readInto 68 = .ok (.aload_n 0, 1) := by decide +kernel
theorem dX4_readInto_69 : decode cX4_readInto 69 = .ok (.aload_n 0, 1) := by decide +kernel
theorem dX4_readInto_70 : decode cX4_readInto 70 = .ok (.getfield 59, 3) := by decide +kernel
theorem dX4_readInto_73 : decode cX4_readInto 73 = .ok (.putfield 62, 3) := by decide +kernel
theorem dX4_readInto_76 : decode cX4_readInto 76 = .ok (.aload_n 0, 1) := by decide +kernel
theorem dX4_readInto_77 : decode cX4_readInto 77 = .ok (.getfield 46, 3) := by decide +kernel
theorem dX4_readInto_80 : decode cX4_readInto 80 = .ok (.ireturn, 1) := by decide +kernel
theorem dX4_readInto_81 : decode cX4_readInto 81 = .ok (.aload_n 0, 1) := by decide +kernel
theorem dX4_readInto_82 : decode cX4_readInto 82 = .ok (.aload_n 0, 1) := by decide +kernel
theorem dX4_readInto_83 : decode cX4_readInto 83 = .ok (.getfield 49, 3) := by decide +kernel
theorem dX4_readInto_86 : decode cX4_readInto 86 = .ok (.ifCond .eq 10, 3) := by decide +kernel
theorem dX4_readInto_89 : decode cX4_readInto 89 = .ok (.aload_n 0, 1) := by decide +kernel
theorem dX4_readInto_90 : decode cX4_readInto 90 = .ok (.getfield 65, 3) := by decide +kernel
theorem dX4_readInto_93 : decode cX4_readInto 93 = .ok (.goto 4, 3) := by decide +kernel
theorem dX4_readInto_96 : decode cX4_readInto 96 = .ok (.iconst (-1), 1) := by decide +kernel
theorem dX4_readInto_97 : decode cX4_readInto 97 = .ok (.putfield 62, 3) := by decide +kernel
theorem dX4_readInto_100 : decode cX4_readInto 100 = .ok (.aload_n 0, 1) := by decide +kernel
theorem dX4_readInto_101 : decode cX4_readInto 101 = .ok (.getfield 49, 3) := by decide +kernel
theorem dX4_readInto_104 : decode cX4_readInto 104 = .ok (.ireturn, 1) := by decide +kernel
theorem dX4_readTelling_0 : decode cX4_readTelling 0 = .ok (.aload_n 0, 1) := by decide +kernel
theorem dX4_readTelling_1 : decode cX4_readTelling 1 = .ok (.invokevirtual 52, 3) := by decide +kernel
theorem dX4_readTelling_4 : decode cX4_readTelling 4 = .ok (.tableswitch 201 128 138 #[60, 67, 201, 201, 74, 81, 95, 109, 123, 144, 179], 60) := by decide +kernel
theorem dX4_readTelling_64 : decode cX4_readTelling 64 = .ok (.aload_n 0, 1) := by decide +kernel
theorem dX4_readTelling_65 : decode cX4_readTelling 65 = .ok (.invokevirtual 68, 3) := by decide +kernel
theorem dX4_readTelling_68 : decode cX4_readTelling 68 = .ok (.goto 142, 3) := by decide +kernel
theorem dX4_readTelling_71 : decode cX4_readTelling 71 = .ok (.aload_n 0, 1) := by decide +kernel
theorem dX4_readTelling_72 : decode cX4_readTelling 72 = .ok (.invokevirtual 71, 3) := by decide +kernel
theorem dX4_readTelling_75 : decode cX4_readTelling 75 = .ok (.goto 135, 3) := by decide +kernel
theorem dX4_readTelling_78 : decode cX4_readTelling 78 = .ok (.aload_n 0, 1) := by decide +kernel
theorem dX4_readTelling_79 : decode cX4_readTelling 79 = .ok (.invokevirtual 74, 3) := by decide +kernel
theorem dX4_readTelling_82 : decode cX4_readTelling 82 = .ok (.goto 128, 3) := by decide +kernel
theorem dX4_readTelling_85 : decode cX4_readTelling 85 = .ok (.aload_n 0, 1) := by decide +kernel
theorem dX4_readTelling_86 : decode cX4_readTelling 86 = .ok (.aload_n 0, 1) := by decide +kernel
theorem dX4_readTelling_87 : decode cX4_readTelling 87 = .ok (.getfield 29, 3) := by decide +kernel
theorem dX4_readTelling_90 : decode cX4_readTelling 90 = .ok (.getfield 77, 3) := by decide +kernel
theorem dX4_readTelling_93 : decode cX4_readTelling 93 = .ok (.invokevirtual 81, 3) := by decide +kernel
theorem dX4_readTelling_96 : decode cX4_readTelling 96 = .ok (.goto 114, 3) := by decide +kernel
theorem dX4_readTelling_99 : decode cX4_readTelling 99 = .ok (.aload_n 0, 1) := by decide +kernel
theorem dX4_readTelling_100 : decode cX4_readTelling 100 = .ok (.aload_n 0, 1) := by decide +kernel
theorem dX4_readTelling_101 : decode cX4_readTelling 101 = .ok (.getfield 29, 3) := by decide +kernel
theorem dX4_readTelling_104 : decode cX4_readTelling 104 = .ok (.getfield 85, 3) := by decide +kernel
theorem dX4_readTelling_107 : decode cX4_readTelling 107 = .ok (.invokevirtual 81, 3) := by decide +kernel
theorem dX4_readTelling_110 : decode cX4_readTelling 110 = .ok (.goto 100, 3) := by decide +kernel
theorem dX4_readTelling_113 : decode cX4_readTelling 113 = .ok (.aload_n 0, 1) := by decide +kernel
theorem dX4_readTelling_114 : decode cX4_readTelling 114 = .ok (.aload_n 0, 1) := by decide +kernel
theorem dX4_readTelling_115 : decode cX4_readTelling 115 = .ok (.getfield 29, 3) := by decide +kernel
theorem dX4_readTelling_118 : decode cX4_readTelling 118 = .ok (.getfield 88, 3) := by decide +kernel
theorem dX4_readTelling_121 : decode cX4_readTelling 121 = .ok (.invokevirtual 81, 3) := by decide +kernel
theorem dX4_readTelling_124 : decode cX4_readTelling 124 = .ok (.goto 86, 3) := by decide +kernel
theorem dX4_readTelling_127 : decode cX4_readTelling 127 = .ok (.aload_n 0, 1) := by decide +kernel
theorem dX4_readTelling_128 : decode cX4_readTelling 128 = .ok (.invokevirtual 91, 3) := by decide +kernel
theorem dX4_readTelling_131 : decode cX4_readTelling 131 = .ok (.aload_n 0, 1) := by decide +kernel
theorem dX4_readTelling_132 : decode cX4_readTelling 132 = .ok (.getfield 29, 3) := by decide +kernel
theorem dX4_readTelling_135 : decode cX4_readTelling 135 = .ok (.aload_n 0, 1) := by decide +kernel
theorem dX4_readTelling_136 : decode cX4_readTelling 136 = .ok (.iconst 0, 1) := by decide +kernel
theorem dX4_readTelling_137 : decode cX4_readTelling 137 = .ok (.bipush 100, 2) := by decide +kernel
theorem dX4_readTelling_139 : decode cX4_readTelling 139 = .ok (.invokevirtual 94, 3) := by decide +kernel
theorem dX4_readTelling_142 : decode cX4_readTelling 142 = .ok (.putfield 98, 3) := by decide +kernel
theorem dX4_readTelling_145 : decode cX4_readTelling 145 = .ok (.goto 65, 3) := by decide +kernel
theorem dX4_readTelling_148 : decode cX4_readTelling 148 = .ok (.aload_n 0, 1) := by decide +kernel
theorem dX4_readTelling_149 : decode cX4_readTelling 149 = .ok (.invokevirtual 91, 3) := by decide +kernel
theorem dX4_readTelling_152 : decode cX4_readTelling 152 = .ok (.aload_n 0, 1) := by decide +kernel
theorem dX4_readTelling_153 : decode cX4_readTelling 153 = .ok (.getfield 29, 3) := by decide +kernel
theorem dX4_readTelling_156 : decode cX4_readTelling 156 = .ok (.aload_n 0, 1) := by decide +kernel
theorem dX4_readTelling_157 : decode cX4_readTelling 157 = .ok (.iconst 0, 1) := by decide +kernel
theorem dX4_readTelling_158 : decode cX4_readTelling 158 = .ok (.bipush 100, 2) := by decide +kernel
theorem dX4_readTelling_160 : decode cX4_readTelling 160 = .ok (.invokevirtual 94, 3) := by decide +kernel
theorem dX4_readTelling_163 : decode cX4_readTelling 163 = .ok (.putfield 101, 3) := by decide +kernel
theorem dX4_readTelling_166 : decode cX4_readTelling 166 = .ok (.aload_n 0, 1) := by decide +kernel
theorem dX4_readTelling_167 : decode cX4_readTelling 167 = .ok (.getfield 29, 3) := by decide +kernel
theorem dX4_readTelling_170 : decode cX4_readTelling 170 = .ok (.aload_n 0, 1) := by decide +kernel
theorem dX4_readTelling_171 : decode cX4_readTelling 171 = .ok (.iconst 0, 1) := by decide +kernel
theorem dX4_readTelling_172 : decode cX4_readTelling 172 = .ok (.bipush 100, 2) := by decide +kernel
theorem dX4_readTelling_174 : decode cX4_readTelling 174 = .ok (.invokevirtual 94, 3) := by decide +kernel
theorem dX4_readTelling_177 : decode cX4_readTelling 177 = .ok (.putfield 104, 3) := by decide +kernel
theorem dX4_readTelling_180 : decode cX4_readTelling 180 = .ok (.goto 30, 3) := by decide +kernel
theorem dX4_readTelling_183 : decode cX4_readTelling 183 = .ok (.aload_n 0, 1) := by decide +kernel
theorem dX4_readTelling_184 : decode cX4_readTelling 184 = .ok (.invokevirtual 91, 3) := by decide +kernel
theorem dX4_readTelling_187 : decode cX4_readTelling 187 = .ok (.aload_n 0, 1) := by decide +kernel
theorem dX4_readTelling_188 : decode cX4_readTelling 188 = .ok (.getfield 29, 3) := by decide +kernel
theorem dX4_readTelling_191 : decode cX4_readTelling 191 = .ok (.aload_n 0, 1) := by decide +kernel
theorem dX4_readTelling_192 : decode cX4_readTelling 192 = .ok (.iconst 0, 1) := by decide +kernel
theorem dX4_readTelling_193 : decode cX4_readTelling 193 = .ok (.sipush 9999, 3) := by decide +kernel
theorem dX4_readTelling_196 : decode cX4_readTelling 196 = .ok (.invokevirtual 94, 3) := by decide +kernel
theorem dX4_readTelling_199 : decode cX4_readTelling 199 = .ok (.putfield 107, 3) := by decide +kernel
theorem dX4_readTelling_202 : decode cX4_readTelling 202 = .ok (.goto 8, 3) := by decide +kernel
theorem dX4_readTelling_205 : decode cX4_readTelling 205 = .ok (.aload_n 0, 1) := by decide +kernel
theorem dX4_readTelling_206 : decode cX4_readTelling 206 = .ok (.iconst 1, 1) := by decide +kernel
theorem dX4_readTelling_207 : decode cX4_readTelling 207 = .ok (.invokevirtual 110, 3) := by decide +kernel
theorem dX4_readTelling_210 : decode cX4_readTelling 210 = .ok (.aload_n 0, 1) := by decide +kernel
theorem dX4_readTelling_211 : decode cX4_readTelling 211 = .ok (.bipush 59, 2) := by decide +kernel
theorem dX4_readTelling_213 : decode cX4_readTelling 213 = .ok (.invokevirtual 114, 3) := by decide +kernel
theorem dX4_readTelling_216 : decode cX4_readTelling 216 = .ok (.pop, 1) := by decide +kernel
theorem dX4_readTelling_217 : decode cX4_readTelling 217 = .ok (.return_, 1) := by decide +kernel
theorem dX4_readPlace_0 : decode cX4_readPlace 0 = .ok (.aload_n 0, 1) := by decide +kernel
theorem dX4_readPlace_1 : decode cX4_readPlace 1 = .ok (.getfield 29, 3) := by decide +kernel
theorem dX4_readPlace_4 : decode cX4_readPlace 4 = .ok (.getfield 118, 3) := by decide +kernel
theorem dX4_readPlace_7 : decode cX4_readPlace 7 = .ok (.bipush 8, 2) := by decide +kernel
theorem dX4_readPlace_9 : decode cX4_readPlace 9 = .ok (.if_icmp .lt 9, 3) := by decide +kernel
theorem dX4_readPlace_12 : decode cX4_readPlace 12 = .ok (.aload_n 0, 1) := by decide +kernel
theorem dX4_readPlace_13 : decode cX4_readPlace 13 = .ok (.iconst 2, 1) := by decide +kernel
theorem dX4_readPlace_14 : decode cX4_readPlace 14 = .ok (.invokevirtual 110, 3) := by decide +kernel
theorem dX4_readPlace_17 : decode cX4_readPlace 17 = .ok (.return_, 1) := by decide +kernel
theorem dX4_readPlace_18 : decode cX4_readPlace 18 = .ok (.aload_n 0, 1) := by decide +kernel
theorem dX4_readPlace_19 : decode cX4_readPlace 19 = .ok (.invokevirtual 91, 3) := by decide +kernel
theorem dX4_readPlace_22 : decode cX4_readPlace 22 = .ok (.aload_n 0, 1) := by decide +kernel
theorem dX4_readPlace_23 : decode cX4_readPlace 23 = .ok (.aload_n 0, 1) := by decide +kernel
theorem dX4_readPlace_24 : decode cX4_readPlace 24 = .ok (.getfield 18, 3) := by decide +kernel
theorem dX4_readPlace_27 : decode cX4_readPlace 27 = .ok (.aload_n 0, 1) := by decide +kernel
theorem dX4_readPlace_28 : decode cX4_readPlace 28 = .ok (.getfield 29, 3) := by decide +kernel
theorem dX4_readPlace_31 : decode cX4_readPlace 31 = .ok (.getfield 118, 3) := by decide +kernel
theorem dX4_readPlace_34 : decode cX4_readPlace 34 = .ok (.invokevirtual 121, 3) := by decide +kernel
theorem dX4_readPlace_37 : decode cX4_readPlace 37 = .ok (.aload_n 0, 1) := by decide +kernel
theorem dX4_readPlace_38 : decode cX4_readPlace 38 = .ok (.getfield 29, 3) := by decide +kernel
theorem dX4_readPlace_41 : decode cX4_readPlace 41 = .ok (.dup, 1) := by decide +kernel
theorem dX4_readPlace_42 : decode cX4_readPlace 42 = .ok (.getfield 118, 3) := by decide +kernel
theorem dX4_readPlace_45 : decode cX4_readPlace 45 = .ok (.iconst 1, 1) := by decide +kernel
theorem dX4_readPlace_46 : decode cX4_readPlace 46 = .ok (.iadd, 1) := by decide +kernel
theorem dX4_readPlace_47 : decode cX4_readPlace 47 = .ok (.putfield 118, 3) := by decide +kernel
theorem dX4_readPlace_50 : decode cX4_readPlace 50 = .ok (.return_, 1) := by decide +kernel
theorem dX4_readRoad_0 : decode cX4_readRoad 0 = .ok (.aload_n 0, 1) := by decide +kernel
theorem dX4_readRoad_1 : decode cX4_readRoad 1 = .ok (.getfield 29, 3) := by decide +kernel
theorem dX4_readRoad_4 : decode cX4_readRoad 4 = .ok (.getfield 125, 3) := by decide +kernel
theorem dX4_readRoad_7 : decode cX4_readRoad 7 = .ok (.istore_n 1, 1) := by decide +kernel
theorem dX4_readRoad_8 : decode cX4_readRoad 8 = .ok (.iload_n 1, 1) := by decide +kernel
theorem dX4_readRoad_9 : decode cX4_readRoad 9 = .ok (.bipush 12, 2) := by decide +kernel
theorem dX4_readRoad_11 : decode cX4_readRoad 11 = .ok (.if_icmp .lt 9, 3) := by decide +kernel
theorem dX4_readRoad_14 : decode cX4_readRoad 14 = .ok (.aload_n 0, 1) := by decide +kernel
theorem dX4_readRoad_15 : decode cX4_readRoad 15 = .ok (.iconst 2, 1) := by decide +kernel
theorem dX4_readRoad_16 : decode cX4_readRoad 16 = .ok (.invokevirtual 110, 3) := by decide +kernel
theorem dX4_readRoad_19 : decode cX4_readRoad 19 = .ok (.return_, 1) := by decide +kernel
theorem dX4_readRoad_20 : decode cX4_readRoad 20 = .ok (.aload_n 0, 1) := by decide +kernel
theorem dX4_readRoad_21 : decode cX4_readRoad 21 = .ok (.invokevirtual 91, 3) := by decide +kernel
theorem dX4_readRoad_24 : decode cX4_readRoad 24 = .ok (.aload_n 0, 1) := by decide +kernel
theorem dX4_readRoad_25 : decode cX4_readRoad 25 = .ok (.getfield 29, 3) := by decide +kernel
theorem dX4_readRoad_28 : decode cX4_readRoad 28 = .ok (.getfield 128, 3) := by decide +kernel
theorem dX4_readRoad_31 : decode cX4_readRoad 31 = .ok (.iload_n 1, 1) := by decide +kernel
theorem dX4_readRoad_32 : decode cX4_readRoad 32 = .ok (.aload_n 0, 1) := by decide +kernel
theorem dX4_readRoad_33 : decode cX4_readRoad 33 = .ok (.iconst (-1), 1) := by decide +kernel
theorem dX4_readRoad_34 : decode cX4_readRoad 34 = .ok (.invokevirtual 131, 3) := by decide +kernel
theorem dX4_readRoad_37 : decode cX4_readRoad 37 = .ok (.iastore, 1) := by decide +kernel
theorem dX4_readRoad_38 : decode cX4_readRoad 38 = .ok (.aload_n 0, 1) := by decide +kernel
theorem dX4_readRoad_39 : decode cX4_readRoad 39 = .ok (.getfield 29, 3) := by decide +kernel
theorem dX4_readRoad_42 : decode cX4_readRoad 42 = .ok (.getfield 135, 3) := by decide +kernel
theorem dX4_readRoad_45 : decode cX4_readRoad 45 = .ok (.iload_n 1, 1) := by decide +kernel
theorem dX4_readRoad_46 : decode cX4_readRoad 46 = .ok (.aload_n 0, 1) := by decide +kernel
theorem dX4_readRoad_47 : decode cX4_readRoad 47 = .ok (.aload_n 0, 1) := by decide +kernel
theorem dX4_readRoad_48 : decode cX4_readRoad 48 = .ok (.getfield 29, 3) := by decide +kernel
theorem dX4_readRoad_51 : decode cX4_readRoad 51 = .ok (.getfield 128, 3) := by decide +kernel
theorem dX4_readRoad_54 : decode cX4_readRoad 54 = .ok (.iload_n 1, 1) := by decide +kernel
theorem dX4_readRoad_55 : decode cX4_readRoad 55 = .ok (.iaload, 1) := by decide +kernel
theorem dX4_readRoad_56 : decode cX4_readRoad 56 = .ok (.invokevirtual 131, 3) := by decide +kernel
theorem dX4_readRoad_59 : decode cX4_readRoad 59 = .ok (.iastore, 1) := by decide +kernel
theorem dX4_readRoad_60 : decode cX4_readRoad 60 = .ok (.aload_n 0, 1) := by decide +kernel
theorem dX4_readRoad_61 : decode cX4_readRoad 61 = .ok (.getfield 29, 3) := by decide +kernel
theorem dX4_readRoad_64 : decode cX4_readRoad 64 = .ok (.getfield 138, 3) := by decide +kernel
theorem dX4_readRoad_67 : decode cX4_readRoad 67 = .ok (.iload_n 1, 1) := by decide +kernel
theorem dX4_readRoad_68 : decode cX4_readRoad 68 = .ok (.aload_n 0, 1) := by decide +kernel
theorem dX4_readRoad_69 : decode cX4_readRoad 69 = .ok (.iconst 1, 1) := by decide +kernel
theorem dX4_readRoad_70 : decode cX4_readRoad 70 = .ok (.bipush 9, 2) := by decide +kernel
theorem dX4_readRoad_72 : decode cX4_readRoad 72 = .ok (.invokevirtual 94, 3) := by decide +kernel
theorem dX4_readRoad_75 : decode cX4_readRoad 75 = .ok (.iastore, 1) := by decide +kernel
theorem dX4_readRoad_76 : decode cX4_readRoad 76 = .ok (.aload_n 0, 1) := by decide +kernel
theorem dX4_readRoad_77 : decode cX4_readRoad 77 = .ok (.invokevirtual 52, 3) := by decide +kernel
theorem dX4_readRoad_80 : decode cX4_readRoad 80 = .ok (.sipush 130, 3) := by decide +kernel
theorem dX4_readRoad_83 : decode cX4_readRoad 83 = .ok (.if_icmp .ne 22, 3) := by decide +kernel
theorem dX4_readRoad_86 : decode cX4_readRoad 86 = .ok (.aload_n 0, 1) := by decide +kernel
theorem dX4_readRoad_87 : decode cX4_readRoad 87 = .ok (.invokevirtual 91, 3) := by decide +kernel
theorem dX4_readRoad_90 : decode cX4_readRoad 90 = .ok (.aload_n 0, 1) := by decide +kernel
theorem dX4_readRoad_91 : decode cX4_readRoad 91 = .ok (.getfield 29, 3) := by decide +kernel
theorem dX4_readRoad_94 : decode cX4_readRoad 94 = .ok (.dup, 1) := by decide +kernel
theorem dX4_readRoad_95 : decode cX4_readRoad 95 = .ok (.getfield 141, 3) := by decide +kernel
theorem dX4_readRoad_98 : decode cX4_readRoad 98 = .ok (.iconst 1, 1) := by decide +kernel
theorem dX4_readRoad_99 : decode cX4_readRoad 99 = .ok (.iload_n 1, 1) := by decide +kernel
theorem dX4_readRoad_100 : decode cX4_readRoad 100 = .ok (.ishl, 1) := by decide +kernel
theorem dX4_readRoad_101 : decode cX4_readRoad 101 = .ok (.ior, 1) := by decide +kernel
theorem dX4_readRoad_102 : decode cX4_readRoad 102 = .ok (.putfield 141, 3) := by decide +kernel
theorem dX4_readRoad_105 : decode cX4_readRoad 105 = .ok (.aload_n 0, 1) := by decide +kernel
theorem dX4_readRoad_106 : decode cX4_readRoad 106 = .ok (.invokevirtual 52, 3) := by decide +kernel
theorem dX4_readRoad_109 : decode cX4_readRoad 109 = .ok (.sipush 131, 3) := by decide +kernel
theorem dX4_readRoad_112 : decode cX4_readRoad 112 = .ok (.if_icmp .ne 22, 3) := by decide +kernel
theorem dX4_readRoad_115 : decode cX4_readRoad 115 = .ok (.aload_n 0, 1) := by decide +kernel
theorem dX4_readRoad_116 : decode cX4_readRoad 116 = .ok (.invokevirtual 91, 3) := by decide +kernel
theorem dX4_readRoad_119 : decode cX4_readRoad 119 = .ok (.aload_n 0, 1) := by decide +kernel
theorem dX4_readRoad_120 : decode cX4_readRoad 120 = .ok (.getfield 29, 3) := by decide +kernel
theorem dX4_readRoad_123 : decode cX4_readRoad 123 = .ok (.dup, 1) := by decide +kernel
theorem dX4_readRoad_124 : decode cX4_readRoad 124 = .ok (.getfield 144, 3) := by decide +kernel
theorem dX4_readRoad_127 : decode cX4_readRoad 127 = .ok (.iconst 1, 1) := by decide +kernel
theorem dX4_readRoad_128 : decode cX4_readRoad 128 = .ok (.iload_n 1, 1) := by decide +kernel
theorem dX4_readRoad_129 : decode cX4_readRoad 129 = .ok (.ishl, 1) := by decide +kernel
theorem dX4_readRoad_130 : decode cX4_readRoad 130 = .ok (.ior, 1) := by decide +kernel
theorem dX4_readRoad_131 : decode cX4_readRoad 131 = .ok (.putfield 144, 3) := by decide +kernel
theorem dX4_readRoad_134 : decode cX4_readRoad 134 = .ok (.aload_n 0, 1) := by decide +kernel
theorem dX4_readRoad_135 : decode cX4_readRoad 135 = .ok (.getfield 29, 3) := by decide +kernel
theorem dX4_readRoad_138 : decode cX4_readRoad 138 = .ok (.dup, 1) := by decide +kernel
theorem dX4_readRoad_139 : decode cX4_readRoad 139 = .ok (.getfield 125, 3) := by decide +kernel
theorem dX4_readRoad_142 : decode cX4_readRoad 142 = .ok (.iconst 1, 1) := by decide +kernel
theorem dX4_readRoad_143 : decode cX4_readRoad 143 = .ok (.iadd, 1) := by decide +kernel
theorem dX4_readRoad_144 : decode cX4_readRoad 144 = .ok (.putfield 125, 3) := by decide +kernel
theorem dX4_readRoad_147 : decode cX4_readRoad 147 = .ok (.return_, 1) := by decide +kernel
theorem dX4_readGhost_0 : decode cX4_readGhost 0 = .ok (.aload_n 0, 1) := by decide +kernel
theorem dX4_readGhost_1 : decode cX4_readGhost 1 = .ok (.getfield 29, 3) := by decide +kernel
theorem dX4_readGhost_4 : decode cX4_readGhost 4 = .ok (.getfield 147, 3) := by decide +kernel
theorem dX4_readGhost_7 : decode cX4_readGhost 7 = .ok (.istore_n 1, 1) := by decide +kernel
theorem dX4_readGhost_8 : decode cX4_readGhost 8 = .ok (.iload_n 1, 1) := by decide +kernel
theorem dX4_readGhost_9 : decode cX4_readGhost 9 = .ok (.bipush 7, 2) := by decide +kernel
theorem dX4_readGhost_11 : decode cX4_readGhost 11 = .ok (.if_icmp .lt 9, 3) := by decide +kernel
theorem dX4_readGhost_14 : decode cX4_readGhost 14 = .ok (.aload_n 0, 1) := by decide +kernel
theorem dX4_readGhost_15 : decode cX4_readGhost 15 = .ok (.iconst 2, 1) := by decide +kernel
theorem dX4_readGhost_16 : decode cX4_readGhost 16 = .ok (.invokevirtual 110, 3) := by decide +kernel
theorem dX4_readGhost_19 : decode cX4_readGhost 19 = .ok (.return_, 1) := by decide +kernel
theorem dX4_readGhost_20 : decode cX4_readGhost 20 = .ok (.aload_n 0, 1) := by decide +kernel
theorem dX4_readGhost_21 : decode cX4_readGhost 21 = .ok (.invokevirtual 91, 3) := by decide +kernel
theorem dX4_readGhost_24 : decode cX4_readGhost 24 = .ok (.aload_n 0, 1) := by decide +kernel
theorem dX4_readGhost_25 : decode cX4_readGhost 25 = .ok (.aload_n 0, 1) := by decide +kernel
theorem dX4_readGhost_26 : decode cX4_readGhost 26 = .ok (.getfield 22, 3) := by decide +kernel
theorem dX4_readGhost_29 : decode cX4_readGhost 29 = .ok (.iload_n 1, 1) := by decide +kernel
theorem dX4_readGhost_30 : decode cX4_readGhost 30 = .ok (.invokevirtual 121, 3) := by decide +kernel
theorem dX4_readGhost_33 : decode cX4_readGhost 33 = .ok (.aload_n 0, 1) := by decide +kernel
theorem dX4_readGhost_34 : decode cX4_readGhost 34 = .ok (.getfield 29, 3) := by decide +kernel
theorem dX4_readGhost_37 : decode cX4_readGhost 37 = .ok (.getfield 150, 3) := by decide +kernel
theorem dX4_readGhost_40 : decode cX4_readGhost 40 = .ok (.iload_n 1, 1) := by decide +kernel
theorem dX4_readGhost_41 : decode cX4_readGhost 41 = .ok (.aload_n 0, 1) := by decide +kernel
theorem dX4_readGhost_42 : decode cX4_readGhost 42 = .ok (.iconst (-1), 1) := by decide +kernel
theorem dX4_readGhost_43 : decode cX4_readGhost 43 = .ok (.invokevirtual 131, 3) := by decide +kernel
theorem dX4_readGhost_46 : decode cX4_readGhost 46 = .ok (.iastore, 1) := by decide +kernel
theorem dX4_readGhost_47 : decode cX4_readGhost 47 = .ok (.aload_n 0, 1) := by decide +kernel
theorem dX4_readGhost_48 : decode cX4_readGhost 48 = .ok (.getfield 29, 3) := by decide +kernel
theorem dX4_readGhost_51 : decode cX4_readGhost 51 = .ok (.getfield 153, 3) := by decide +kernel
theorem dX4_readGhost_54 : decode cX4_readGhost 54 = .ok (.iload_n 1, 1) := by decide +kernel
theorem dX4_readGhost_55 : decode cX4_readGhost 55 = .ok (.aload_n 0, 1) := by decide +kernel
theorem dX4_readGhost_56 : decode cX4_readGhost 56 = .ok (.aload_n 0, 1) := by decide +kernel
theorem dX4_readGhost_57 : decode cX4_readGhost 57 = .ok (.getfield 29, 3) := by decide +kernel
theorem dX4_readGhost_60 : decode cX4_readGhost 60 = .ok (.getfield 150, 3) := by decide +kernel
theorem dX4_readGhost_63 : decode cX4_readGhost 63 = .ok (.iload_n 1, 1) := by decide +kernel
theorem dX4_readGhost_64 : decode cX4_readGhost 64 = .ok (.iaload, 1) := by decide +kernel
theorem dX4_readGhost_65 : decode cX4_readGhost 65 = .ok (.invokevirtual 131, 3) := by decide +kernel
theorem dX4_readGhost_68 : decode cX4_readGhost 68 = .ok (.iastore, 1) := by decide +kernel
theorem dX4_readGhost_69 : decode cX4_readGhost 69 = .ok (.aload_n 0, 1) := by decide +kernel
theorem dX4_readGhost_70 : decode cX4_readGhost 70 = .ok (.getfield 29, 3) := by decide +kernel
theorem dX4_readGhost_73 : decode cX4_readGhost 73 = .ok (.getfield 156, 3) := by decide +kernel
theorem dX4_readGhost_76 : decode cX4_readGhost 76 = .ok (.iload_n 1, 1) := by decide +kernel
theorem dX4_readGhost_77 : decode cX4_readGhost 77 = .ok (.aload_n 0, 1) := by decide +kernel
theorem dX4_readGhost_78 : decode cX4_readGhost 78 = .ok (.iconst 0, 1) := by decide +kernel
theorem dX4_readGhost_79 : decode cX4_readGhost 79 = .ok (.bipush 9, 2) := by decide +kernel
theorem dX4_readGhost_81 : decode cX4_readGhost 81 = .ok (.invokevirtual 94, 3) := by decide +kernel
theorem dX4_readGhost_84 : decode cX4_readGhost 84 = .ok (.iastore, 1) := by decide +kernel
theorem dX4_readGhost_85 : decode cX4_readGhost 85 = .ok (.aload_n 0, 1) := by decide +kernel
theorem dX4_readGhost_86 : decode cX4_readGhost 86 = .ok (.getfield 29, 3) := by decide +kernel
theorem dX4_readGhost_89 : decode cX4_readGhost 89 = .ok (.getfield 159, 3) := by decide +kernel
theorem dX4_readGhost_92 : decode cX4_readGhost 92 = .ok (.iload_n 1, 1) := by decide +kernel
theorem dX4_readGhost_93 : decode cX4_readGhost 93 = .ok (.aload_n 0, 1) := by decide +kernel
theorem dX4_readGhost_94 : decode cX4_readGhost 94 = .ok (.iconst 0, 1) := by decide +kernel
theorem dX4_readGhost_95 : decode cX4_readGhost 95 = .ok (.bipush 99, 2) := by decide +kernel
theorem dX4_readGhost_97 : decode cX4_readGhost 97 = .ok (.invokevirtual 94, 3) := by decide +kernel
theorem dX4_readGhost_100 : decode cX4_readGhost 100 = .ok (.iastore, 1) := by decide +kernel
theorem dX4_readGhost_101 : decode cX4_readGhost 101 = .ok (.aload_n 0, 1) := by decide +kernel
theorem dX4_readGhost_102 : decode cX4_readGhost 102 = .ok (.getfield 29, 3) := by decide +kernel
theorem dX4_readGhost_105 : decode cX4_readGhost 105 = .ok (.getfield 162, 3) := by decide +kernel
theorem dX4_readGhost_108 : decode cX4_readGhost 108 = .ok (.iload_n 1, 1) := by decide +kernel
theorem dX4_readGhost_109 : decode cX4_readGhost 109 = .ok (.aload_n 0, 1) := by decide +kernel
theorem dX4_readGhost_110 : decode cX4_readGhost 110 = .ok (.iconst 1, 1) := by decide +kernel
theorem dX4_readGhost_111 : decode cX4_readGhost 111 = .ok (.bipush 9, 2) := by decide +kernel
theorem dX4_readGhost_113 : decode cX4_readGhost 113 = .ok (.invokevirtual 94, 3) := by decide +kernel
theorem dX4_readGhost_116 : decode cX4_readGhost 116 = .ok (.iastore, 1) := by decide +kernel
theorem dX4_readGhost_117 : decode cX4_readGhost 117 = .ok (.aload_n 0, 1) := by decide +kernel
theorem dX4_readGhost_118 : decode cX4_readGhost 118 = .ok (.getfield 29, 3) := by decide +kernel
theorem dX4_readGhost_121 : decode cX4_readGhost 121 = .ok (.dup, 1) := by decide +kernel
theorem dX4_readGhost_122 : decode cX4_readGhost 122 = .ok (.getfield 147, 3) := by decide +kernel
theorem dX4_readGhost_125 : decode cX4_readGhost 125 = .ok (.iconst 1, 1) := by decide +kernel
theorem dX4_readGhost_126 : decode cX4_readGhost 126 = .ok (.iadd, 1) := by decide +kernel
theorem dX4_readGhost_127 : decode cX4_readGhost 127 = .ok (.putfield 147, 3) := by decide +kernel
theorem dX4_readGhost_130 : decode cX4_readGhost 130 = .ok (.return_, 1) := by decide +kernel
theorem dX4_readNewName_0 : decode cX4_readNewName 0 = .ok (.aload_n 0, 1) := by decide +kernel
theorem dX4_readNewName_1 : decode cX4_readNewName 1 = .ok (.getfield 12, 3) := by decide +kernel
theorem dX4_readNewName_4 : decode cX4_readNewName 4 = .ok (.getfield 165, 3) := by decide +kernel
theorem dX4_readNewName_7 : decode cX4_readNewName 7 = .ok (.aload_n 0, 1) := by decide +kernel
theorem dX4_readNewName_8 : decode cX4_readNewName 8 = .ok (.getfield 42, 3) := by decide +kernel
theorem dX4_readNewName_11 : decode cX4_readNewName 11 = .ok (.laload, 1) := by decide +kernel
theorem dX4_readNewName_12 : decode cX4_readNewName 12 = .ok (.lstore_n 3, 1) := by decide +kernel
theorem dX4_readNewName_13 : decode cX4_readNewName 13 = .ok (.aload_n 0, 1) := by decide +kernel
theorem dX4_readNewName_14 : decode cX4_readNewName 14 = .ok (.getfield 12, 3) := by decide +kernel
theorem dX4_readNewName_17 : decode cX4_readNewName 17 = .ok (.getfield 168, 3) := by decide +kernel
theorem dX4_readNewName_20 : decode cX4_readNewName 20 = .ok (.aload_n 0, 1) := by decide +kernel
theorem dX4_readNewName_21 : decode cX4_readNewName 21 = .ok (.getfield 42, 3) := by decide +kernel
theorem dX4_readNewName_24 : decode cX4_readNewName 24 = .ok (.iaload, 1) := by decide +kernel
theorem dX4_readNewName_25 : decode cX4_readNewName 25 = .ok (.istore 5, 2) := by decide +kernel
theorem dX4_readNewName_27 : decode cX4_readNewName 27 = .ok (.aload_n 0, 1) := by decide +kernel
theorem dX4_readNewName_28 : decode cX4_readNewName 28 = .ok (.iconst 2, 1) := by decide +kernel
theorem dX4_readNewName_29 : decode cX4_readNewName 29 = .ok (.invokevirtual 114, 3) := by decide +kernel
theorem dX4_readNewName_32 : decode cX4_readNewName 32 = .ok (.ifCond .ne 4, 3) := by decide +kernel
theorem dX4_readNewName_35 : decode cX4_readNewName 35 = .ok (.return_, 1) := by decide +kernel
theorem dX4_readNewName_36 : decode cX4_readNewName 36 = .ok (.lload_n 3, 1) := by decide +kernel
theorem dX4_readNewName_37 : decode cX4_readNewName 37 = .ok (.aload_n 0, 1) := by decide +kernel
theorem dX4_readNewName_38 : decode cX4_readNewName 38 = .ok (.getfield 18, 3) := by decide +kernel
theorem dX4_readNewName_41 : decode cX4_readNewName 41 = .ok (.aload_n 0, 1) := by decide +kernel
theorem dX4_readNewName_42 : decode cX4_readNewName 42 = .ok (.getfield 29, 3) := by decide +kernel
theorem dX4_readNewName_45 : decode cX4_readNewName 45 = .ok (.getfield 118, 3) := by decide +kernel
theorem dX4_readNewName_48 : decode cX4_readNewName 48 = .ok (.invokestatic 170, 3) := by decide +kernel
theorem dX4_readNewName_51 : decode cX4_readNewName 51 = .ok (.iconst (-1), 1) := by decide +kernel
theorem dX4_readNewName_52 : decode cX4_readNewName 52 = .ok (.if_icmp .ne 22, 3) := by decide +kernel
theorem dX4_readNewName_55 : decode cX4_readNewName 55 = .ok (.lload_n 3, 1) := by decide +kernel
theorem dX4_readNewName_56 : decode cX4_readNewName 56 = .ok (.aload_n 0, 1) := by decide +kernel
theorem dX4_readNewName_57 : decode cX4_readNewName 57 = .ok (.getfield 22, 3) := by decide +kernel
theorem dX4_readNewName_60 : decode cX4_readNewName 60 = .ok (.aload_n 0, 1) := by decide +kernel
theorem dX4_readNewName_61 : decode cX4_readNewName 61 = .ok (.getfield 29, 3) := by decide +kernel
theorem dX4_readNewName_64 : decode cX4_readNewName 64 = .ok (.getfield 147, 3) := by decide +kernel
theorem dX4_readNewName_67 : decode cX4_readNewName 67 = .ok (.invokestatic 170, 3) := by decide +kernel
theorem dX4_readNewName_70 : decode cX4_readNewName 70 = .ok (.iconst (-1), 1) := by decide +kernel
theorem dX4_readNewName_71 : decode cX4_readNewName 71 = .ok (.if_icmp .eq 7, 3) := by decide +kernel
theorem dX4_readNewName_74 : decode cX4_readNewName 74 = .ok (.iconst 1, 1) := by decide +kernel
theorem dX4_readNewName_75 : decode cX4_readNewName 75 = .ok (.goto 4, 3) := by decide +kernel
theorem dX4_readNewName_78 : decode cX4_readNewName 78 = .ok (.iconst 0, 1) := by decide +kernel
theorem dX4_readNewName_79 : decode cX4_readNewName 79 = .ok (.istore 6, 2) := by decide +kernel
theorem dX4_readNewName_81 : decode cX4_readNewName 81 = .ok (.iload 6, 2) := by decide +kernel
theorem dX4_readNewName_83 : decode cX4_readNewName 83 = .ok (.ifCond .eq 10, 3) := by decide +kernel
theorem dX4_readNewName_86 : decode cX4_readNewName 86 = .ok (.aload_n 0, 1) := by decide +kernel
theorem dX4_readNewName_87 : decode cX4_readNewName 87 = .ok (.iconst 3, 1) := by decide +kernel
theorem dX4_readNewName_88 : decode cX4_readNewName 88 = .ok (.iload 5, 2) := by decide +kernel
theorem dX4_readNewName_90 : decode cX4_readNewName 90 = .ok (.invokevirtual 174, 3) := by decide +kernel
theorem dX4_readNewName_93 : decode cX4_readNewName 93 = .ok (.aload_n 1, 1) := by decide +kernel
theorem dX4_readNewName_94 : decode cX4_readNewName 94 = .ok (.iload_n 2, 1) := by decide +kernel
theorem dX4_readNewName_95 : decode cX4_readNewName 95 = .ok (.lload_n 3, 1) := by decide +kernel
theorem dX4_readNewName_96 : decode cX4_readNewName 96 = .ok (.lastore, 1) := by decide +kernel
theorem dX4_readNewName_97 : decode cX4_readNewName 97 = .ok (.return_, 1) := by decide +kernel
theorem dX4_readOldPlace_0 : decode cX4_readOldPlace 0 = .ok (.aload_n 0, 1) := by decide +kernel
theorem dX4_readOldPlace_1 : decode cX4_readOldPlace 1 = .ok (.getfield 12, 3) := by decide +kernel
theorem dX4_readOldPlace_4 : decode cX4_readOldPlace 4 = .ok (.getfield 165, 3) := by decide +kernel
theorem dX4_readOldPlace_7 : decode cX4_readOldPlace 7 = .ok (.aload_n 0, 1) := by decide +kernel
theorem dX4_readOldPlace_8 : decode cX4_readOldPlace 8 = .ok (.getfield 42, 3) := by decide +kernel
theorem dX4_readOldPlace_11 : decode cX4_readOldPlace 11 = .ok (.laload, 1) := by decide +kernel
theorem dX4_readOldPlace_12 : decode cX4_readOldPlace 12 = .ok (.lstore_n 2, 1) := by decide +kernel
theorem dX4_readOldPlace_13 : decode cX4_readOldPlace 13 = .ok (.aload_n 0, 1) := by decide +kernel
theorem dX4_readOldPlace_14 : decode cX4_readOldPlace 14 = .ok (.getfield 12, 3) := by decide +kernel
theorem dX4_readOldPlace_17 : decode cX4_readOldPlace 17 = .ok (.getfield 168, 3) := by decide +kernel
theorem dX4_readOldPlace_20 : decode cX4_readOldPlace 20 = .ok (.aload_n 0, 1) := by decide +kernel
theorem dX4_readOldPlace_21 : decode cX4_readOldPlace 21 = .ok (.getfield 42, 3) := by decide +kernel
theorem dX4_readOldPlace_24 : decode cX4_readOldPlace 24 = .ok (.iaload, 1) := by decide +kernel
theorem dX4_readOldPlace_25 : decode cX4_readOldPlace 25 = .ok (.istore 4, 2) := by decide +kernel
theorem dX4_readOldPlace_27 : decode cX4_readOldPlace 27 = .ok (.aload_n 0, 1) := by decide +kernel
theorem dX4_readOldPlace_28 : decode cX4_readOldPlace 28 = .ok (.iconst 2, 1) := by decide +kernel
theorem dX4_readOldPlace_29 : decode cX4_readOldPlace 29 = .ok (.invokevirtual 114, 3) := by decide +kernel
theorem dX4_readOldPlace_32 : decode cX4_readOldPlace 32 = .ok (.ifCond .ne 5, 3) := by decide +kernel
theorem dX4_readOldPlace_35 : decode cX4_readOldPlace 35 = .ok (.iconst (-1), 1) := by decide +kernel
theorem dX4_readOldPlace_36 : decode cX4_readOldPlace 36 = .ok (.ireturn, 1) := by decide +kernel
theorem dX4_readOldPlace_37 : decode cX4_readOldPlace 37 = .ok (.lload_n 2, 1) := by decide +kernel
theorem dX4_readOldPlace_38 : decode cX4_readOldPlace 38 = .ok (.aload_n 0, 1) := by decide +kernel
theorem dX4_readOldPlace_39 : decode cX4_readOldPlace 39 = .ok (.getfield 18, 3) := by decide +kernel
theorem dX4_readOldPlace_42 : decode cX4_readOldPlace 42 = .ok (.aload_n 0, 1) := by decide +kernel
theorem dX4_readOldPlace_43 : decode cX4_readOldPlace 43 = .ok (.getfield 29, 3) := by decide +kernel
theorem dX4_readOldPlace_46 : decode cX4_readOldPlace 46 = .ok (.getfield 118, 3) := by decide +kernel
theorem dX4_readOldPlace_49 : decode cX4_readOldPlace 49 = .ok (.invokestatic 170, 3) := by decide +kernel
theorem dX4_readOldPlace_52 : decode cX4_readOldPlace 52 = .ok (.istore 5, 2) := by decide +kernel
theorem dX4_readOldPlace_54 : decode cX4_readOldPlace 54 = .ok (.iload 5, 2) := by decide +kernel
theorem dX4_readOldPlace_56 : decode cX4_readOldPlace 56 = .ok (.iconst (-1), 1) := by decide +kernel
theorem dX4_readOldPlace_57 : decode cX4_readOldPlace 57 = .ok (.if_icmp .ne 13, 3) := by decide +kernel
theorem dX4_readOldPlace_60 : decode cX4_readOldPlace 60 = .ok (.aload_n 0, 1) := by decide +kernel
theorem dX4_readOldPlace_61 : decode cX4_readOldPlace 61 = .ok (.iconst 4, 1) := by decide +kernel
theorem dX4_readOldPlace_62 : decode cX4_readOldPlace 62 = .ok (.iload 4, 2) := by decide +kernel
theorem dX4_readOldPlace_64 : decode cX4_readOldPlace 64 = .ok (.invokevirtual 174, 3) := by decide +kernel
theorem dX4_readOldPlace_67 : decode cX4_readOldPlace 67 = .ok (.goto 16, 3) := by decide +kernel
theorem dX4_readOldPlace_70 : decode cX4_readOldPlace 70 = .ok (.iload 5, 2) := by decide +kernel
theorem dX4_readOldPlace_72 : decode cX4_readOldPlace 72 = .ok (.iload_n 1, 1) := by decide +kernel
theorem dX4_readOldPlace_73 : decode cX4_readOldPlace 73 = .ok (.if_icmp .ne 10, 3) := by decide +kernel
theorem dX4_readOldPlace_76 : decode cX4_readOldPlace 76 = .ok (.aload_n 0, 1) := by decide +kernel
theorem dX4_readOldPlace_77 : decode cX4_readOldPlace 77 = .ok (.iconst 3, 1) := by decide +kernel
theorem dX4_readOldPlace_78 : decode cX4_readOldPlace 78 = .ok (.iload 4, 2) := by decide +kernel
theorem dX4_readOldPlace_80 : decode cX4_readOldPlace 80 = .ok (.invokevirtual 174, 3) := by decide +kernel
theorem dX4_readOldPlace_83 : decode cX4_readOldPlace 83 = .ok (.iload 5, 2) := by decide +kernel
theorem dX4_readOldPlace_85 : decode cX4_readOldPlace 85 = .ok (.ireturn, 1) := by decide +kernel
theorem dX4_readNumber_0 : decode cX4_readNumber 0 = .ok (.aload_n 0, 1) := by decide +kernel
theorem dX4_readNumber_1 : decode cX4_readNumber 1 = .ok (.getfield 12, 3) := by decide +kernel
theorem dX4_readNumber_4 : decode cX4_readNumber 4 = .ok (.getfield 165, 3) := by decide +kernel
theorem dX4_readNumber_7 : decode cX4_readNumber 7 = .ok (.aload_n 0, 1) := by decide +kernel
theorem dX4_readNumber_8 : decode cX4_readNumber 8 = .ok (.getfield 42, 3) := by decide +kernel
theorem dX4_readNumber_11 : decode cX4_readNumber 11 = .ok (.laload, 1) := by decide +kernel
theorem dX4_readNumber_12 : decode cX4_readNumber 12 = .ok (.l2i, 1) := by decide +kernel
theorem dX4_readNumber_13 : decode cX4_readNumber 13 = .ok (.istore_n 3, 1) := by decide +kernel
theorem dX4_readNumber_14 : decode cX4_readNumber 14 = .ok (.aload_n 0, 1) := by decide +kernel
theorem dX4_readNumber_15 : decode cX4_readNumber 15 = .ok (.getfield 12, 3) := by decide +kernel
theorem dX4_readNumber_18 : decode cX4_readNumber 18 = .ok (.getfield 168, 3) := by decide +kernel
theorem dX4_readNumber_21 : decode cX4_readNumber 21 = .ok (.aload_n 0, 1) := by decide +kernel
theorem dX4_readNumber_22 : decode cX4_readNumber 22 = .ok (.getfield 42, 3) := by decide +kernel
theorem dX4_readNumber_25 : decode cX4_readNumber 25 = .ok (.iaload, 1) := by decide +kernel
theorem dX4_readNumber_26 : decode cX4_readNumber 26 = .ok (.istore 4, 2) := by decide +kernel
theorem dX4_readNumber_28 : decode cX4_readNumber 28 = .ok (.aload_n 0, 1) := by decide +kernel
theorem dX4_readNumber_29 : decode cX4_readNumber 29 = .ok (.iconst 3, 1) := by decide +kernel
theorem dX4_readNumber_30 : decode cX4_readNumber 30 = .ok (.invokevirtual 114, 3) := by decide +kernel
theorem dX4_readNumber_33 : decode cX4_readNumber 33 = .ok (.ifCond .eq 20, 3) := by decide +kernel
theorem dX4_readNumber_36 : decode cX4_readNumber 36 = .ok (.iload_n 3, 1) := by decide +kernel
theorem dX4_readNumber_37 : decode cX4_readNumber 37 = .ok (.iload_n 1, 1) := by decide +kernel
theorem dX4_readNumber_38 : decode cX4_readNumber 38 = .ok (.if_icmp .lt 8, 3) := by decide +kernel
theorem dX4_readNumber_41 : decode cX4_readNumber 41 = .ok (.iload_n 3, 1) := by decide +kernel
theorem dX4_readNumber_42 : decode cX4_readNumber 42 = .ok (.iload_n 2, 1) := by decide +kernel
theorem dX4_readNumber_43 : decode cX4_readNumber 43 = .ok (.if_icmp .le 10, 3) := by decide +kernel
theorem dX4_readNumber_46 : decode cX4_readNumber 46 = .ok (.aload_n 0, 1) := by decide +kernel
theorem dX4_readNumber_47 : decode cX4_readNumber 47 = .ok (.iconst 5, 1) := by decide +kernel
theorem dX4_readNumber_48 : decode cX4_readNumber 48 = .ok (.iload 4, 2) := by decide +kernel
theorem dX4_readNumber_50 : decode cX4_readNumber 50 = .ok (.invokevirtual 174, 3) := by decide +kernel
theorem dX4_readNumber_53 : decode cX4_readNumber 53 = .ok (.iload_n 3, 1) := by decide +kernel
theorem dX4_readNumber_54 : decode cX4_readNumber 54 = .ok (.ireturn, 1) := by decide +kernel
theorem dX4_readLaw_0 : decode cX4_readLaw 0 = .ok (.aload_n 0, 1) := by decide +kernel
theorem dX4_readLaw_1 : decode cX4_readLaw 1 = .ok (.invokevirtual 91, 3) := by decide +kernel
theorem dX4_readLaw_4 : decode cX4_readLaw 4 = .ok (.aload_n 1, 1) := by decide +kernel
theorem dX4_readLaw_5 : decode cX4_readLaw 5 = .ok (.invokevirtual 178, 3) := by decide +kernel
theorem dX4_readLaw_8 : decode cX4_readLaw 8 = .ok (.aload_n 0, 1) := by decide +kernel
theorem dX4_readLaw_9 : decode cX4_readLaw 9 = .ok (.bipush 61, 2) := by decide +kernel
theorem dX4_readLaw_11 : decode cX4_readLaw 11 = .ok (.invokevirtual 114, 3) := by decide +kernel
theorem dX4_readLaw_14 : decode cX4_readLaw 14 = .ok (.pop, 1) := by decide +kernel
theorem dX4_readLaw_15 : decode cX4_readLaw 15 = .ok (.iconst 0, 1) := by decide +kernel
theorem dX4_readLaw_16 : decode cX4_readLaw 16 = .ok (.istore_n 2, 1) := by decide +kernel
theorem dX4_readLaw_17 : decode cX4_readLaw 17 = .ok (.iload_n 2, 1) := by decide +kernel
theorem dX4_readLaw_18 : decode cX4_readLaw 18 = .ok (.iconst 4, 1) := by decide +kernel
theorem dX4_readLaw_19 : decode cX4_readLaw 19 = .ok (.if_icmp .ge 82, 3) := by decide +kernel
theorem dX4_readLaw_22 : decode cX4_readLaw 22 = .ok (.aload_n 0, 1) := by decide +kernel
theorem dX4_readLaw_23 : decode cX4_readLaw 23 = .ok (.invokevirtual 52, 3) := by decide +kernel
theorem dX4_readLaw_26 : decode cX4_readLaw 26 = .ok (.sipush 139, 3) := by decide +kernel
theorem dX4_readLaw_29 : decode cX4_readLaw 29 = .ok (.if_icmp .ne 72, 3) := by decide +kernel
theorem dX4_readLaw_32 : decode cX4_readLaw 32 = .ok (.aload_n 0, 1) := by decide +kernel
theorem dX4_readLaw_33 : decode cX4_readLaw 33 = .ok (.invokevirtual 91, 3) := by decide +kernel
theorem dX4_readLaw_36 : decode cX4_readLaw 36 = .ok (.aload_n 0, 1) := by decide +kernel
theorem dX4_readLaw_37 : decode cX4_readLaw 37 = .ok (.aload_n 1, 1) := by decide +kernel
theorem dX4_readLaw_38 : decode cX4_readLaw 38 = .ok (.invokevirtual 181, 3) := by decide +kernel
theorem dX4_readLaw_41 : decode cX4_readLaw 41 = .ok (.aload_n 0, 1) := by decide +kernel
theorem dX4_readLaw_42 : decode cX4_readLaw 42 = .ok (.bipush 60, 2) := by decide +kernel
theorem dX4_readLaw_44 : decode cX4_readLaw 44 = .ok (.invokevirtual 114, 3) := by decide +kernel
theorem dX4_readLaw_47 : decode cX4_readLaw 47 = .ok (.pop, 1) := by decide +kernel
theorem dX4_readLaw_48 : decode cX4_readLaw 48 = .ok (.aload_n 0, 1) := by decide +kernel
theorem dX4_readLaw_49 : decode cX4_readLaw 49 = .ok (.aload_n 1, 1) := by decide +kernel
theorem dX4_readLaw_50 : decode cX4_readLaw 50 = .ok (.invokevirtual 181, 3) := by decide +kernel
theorem dX4_readLaw_53 : decode cX4_readLaw 53 = .ok (.aload_n 0, 1) := by decide +kernel
theorem dX4_readLaw_54 : decode cX4_readLaw 54 = .ok (.sipush 140, 3) := by decide +kernel
theorem dX4_readLaw_57 : decode cX4_readLaw 57 = .ok (.invokevirtual 114, 3) := by decide +kernel
theorem dX4_readLaw_60 : decode cX4_readLaw 60 = .ok (.pop, 1) := by decide +kernel
theorem dX4_readLaw_61 : decode cX4_readLaw 61 = .ok (.aload_n 1, 1) := by decide +kernel
theorem dX4_readLaw_62 : decode cX4_readLaw 62 = .ok (.bipush 6, 2) := by decide +kernel
theorem dX4_readLaw_64 : decode cX4_readLaw 64 = .ok (.iconst 0, 1) := by decide +kernel
theorem dX4_readLaw_65 : decode cX4_readLaw 65 = .ok (.invokevirtual 184, 3) := by decide +kernel
theorem dX4_readLaw_68 : decode cX4_readLaw 68 = .ok (.istore_n 3, 1) := by decide +kernel
theorem dX4_readLaw_69 : decode cX4_readLaw 69 = .ok (.aload_n 0, 1) := by decide +kernel
theorem dX4_readLaw_70 : decode cX4_readLaw 70 = .ok (.aload_n 1, 1) := by decide +kernel
theorem dX4_readLaw_71 : decode cX4_readLaw 71 = .ok (.invokevirtual 181, 3) := by decide +kernel
theorem dX4_readLaw_74 : decode cX4_readLaw 74 = .ok (.aload_n 0, 1) := by decide +kernel
theorem dX4_readLaw_75 : decode cX4_readLaw 75 = .ok (.sipush 141, 3) := by decide +kernel
theorem dX4_readLaw_78 : decode cX4_readLaw 78 = .ok (.invokevirtual 114, 3) := by decide +kernel
theorem dX4_readLaw_81 : decode cX4_readLaw 81 = .ok (.pop, 1) := by decide +kernel
theorem dX4_readLaw_82 : decode cX4_readLaw 82 = .ok (.aload_n 1, 1) := by decide +kernel
theorem dX4_readLaw_83 : decode cX4_readLaw 83 = .ok (.bipush 7, 2) := by decide +kernel
theorem dX4_readLaw_85 : decode cX4_readLaw 85 = .ok (.iconst 0, 1) := by decide +kernel
theorem dX4_readLaw_86 : decode cX4_readLaw 86 = .ok (.invokevirtual 184, 3) := by decide +kernel
theorem dX4_readLaw_89 : decode cX4_readLaw 89 = .ok (.pop, 1) := by decide +kernel
theorem dX4_readLaw_90 : decode cX4_readLaw 90 = .ok (.aload_n 1, 1) := by decide +kernel
theorem dX4_readLaw_91 : decode cX4_readLaw 91 = .ok (.iload_n 3, 1) := by decide +kernel
theorem dX4_readLaw_92 : decode cX4_readLaw 92 = .ok (.invokevirtual 187, 3) := by decide +kernel
theorem dX4_readLaw_95 : decode cX4_readLaw 95 = .ok (.iinc 2 1, 3) := by decide +kernel
theorem dX4_readLaw_98 : decode cX4_readLaw 98 = .ok (.goto (-81), 3) := by decide +kernel
theorem dX4_readLaw_101 : decode cX4_readLaw 101 = .ok (.aload_n 0, 1) := by decide +kernel
theorem dX4_readLaw_102 : decode cX4_readLaw 102 = .ok (.invokevirtual 52, 3) := by decide +kernel
theorem dX4_readLaw_105 : decode cX4_readLaw 105 = .ok (.sipush 139, 3) := by decide +kernel
theorem dX4_readLaw_108 : decode cX4_readLaw 108 = .ok (.if_icmp .ne 8, 3) := by decide +kernel
theorem dX4_readLaw_111 : decode cX4_readLaw 111 = .ok (.aload_n 0, 1) := by decide +kernel
theorem dX4_readLaw_112 : decode cX4_readLaw 112 = .ok (.iconst 2, 1) := by decide +kernel
theorem dX4_readLaw_113 : decode cX4_readLaw 113 = .ok (.invokevirtual 110, 3) := by decide +kernel
theorem dX4_readLaw_116 : decode cX4_readLaw 116 = .ok (.aload_n 0, 1) := by decide +kernel
theorem dX4_readLaw_117 : decode cX4_readLaw 117 = .ok (.aload_n 1, 1) := by decide +kernel
theorem dX4_readLaw_118 : decode cX4_readLaw 118 = .ok (.invokevirtual 181, 3) := by decide +kernel
theorem dX4_readLaw_121 : decode cX4_readLaw 121 = .ok (.aload_n 1, 1) := by decide +kernel
theorem dX4_readLaw_122 : decode cX4_readLaw 122 = .ok (.bipush 7, 2) := by decide +kernel
theorem dX4_readLaw_124 : decode cX4_readLaw 124 = .ok (.iconst 0, 1) := by decide +kernel
theorem dX4_readLaw_125 : decode cX4_readLaw 125 = .ok (.invokevirtual 184, 3) := by decide +kernel
theorem dX4_readLaw_128 : decode cX4_readLaw 128 = .ok (.pop, 1) := by decide +kernel
theorem dX4_readLaw_129 : decode cX4_readLaw 129 = .ok (.return_, 1) := by decide +kernel
theorem dX4_readSum_0 : decode cX4_readSum 0 = .ok (.aload_n 0, 1) := by decide +kernel
theorem dX4_readSum_1 : decode cX4_readSum 1 = .ok (.iconst 0, 1) := by decide +kernel
theorem dX4_readSum_2 : decode cX4_readSum 2 = .ok (.putfield 190, 3) := by decide +kernel
theorem dX4_readSum_5 : decode cX4_readSum 5 = .ok (.aload_n 0, 1) := by decide +kernel
theorem dX4_readSum_6 : decode cX4_readSum 6 = .ok (.iconst 0, 1) := by decide +kernel
theorem dX4_readSum_7 : decode cX4_readSum 7 = .ok (.putfield 193, 3) := by decide +kernel
theorem dX4_readSum_10 : decode cX4_readSum 10 = .ok (.aload_n 0, 1) := by decide +kernel
theorem dX4_readSum_11 : decode cX4_readSum 11 = .ok (.aload_n 1, 1) := by decide +kernel
theorem dX4_readSum_12 : decode cX4_readSum 12 = .ok (.invokevirtual 196, 3) := by decide +kernel
theorem dX4_readSum_15 : decode cX4_readSum 15 = .ok (.iconst 0, 1) := by decide +kernel
theorem dX4_readSum_16 : decode cX4_readSum 16 = .ok (.istore_n 2, 1) := by decide +kernel
theorem dX4_readSum_17 : decode cX4_readSum 17 = .ok (.iload_n 2, 1) := by decide +kernel
theorem dX4_readSum_18 : decode cX4_readSum 18 = .ok (.sipush 400, 3) := by decide +kernel
theorem dX4_readSum_21 : decode cX4_readSum 21 = .ok (.if_icmp .ge 22, 3) := by decide +kernel
theorem dX4_readSum_24 : decode cX4_readSum 24 = .ok (.aload_n 0, 1) := by decide +kernel
theorem dX4_readSum_25 : decode cX4_readSum 25 = .ok (.aload_n 1, 1) := by decide +kernel
theorem dX4_readSum_26 : decode cX4_readSum 26 = .ok (.invokevirtual 199, 3) := by decide +kernel
theorem dX4_readSum_29 : decode cX4_readSum 29 = .ok (.ifCond .eq 14, 3) := by decide +kernel
theorem dX4_readSum_32 : decode cX4_readSum 32 = .ok (.aload_n 0, 1) := by decide +kernel
theorem dX4_readSum_33 : decode cX4_readSum 33 = .ok (.aload_n 1, 1) := by decide +kernel
theorem dX4_readSum_34 : decode cX4_readSum 34 = .ok (.invokevirtual 196, 3) := by decide +kernel
theorem dX4_readSum_37 : decode cX4_readSum 37 = .ok (.iinc 2 1, 3) := by decide +kernel
theorem dX4_readSum_40 : decode cX4_readSum 40 = .ok (.goto (-23), 3) := by decide +kernel
theorem dX4_readSum_43 : decode cX4_readSum 43 = .ok (.aload_n 0, 1) := by decide +kernel
theorem dX4_readSum_44 : decode cX4_readSum 44 = .ok (.aload_n 1, 1) := by decide +kernel
theorem dX4_readSum_45 : decode cX4_readSum 45 = .ok (.iconst 1, 1) := by decide +kernel
theorem dX4_readSum_46 : decode cX4_readSum 46 = .ok (.invokevirtual 203, 3) := by decide +kernel
theorem dX4_readSum_49 : decode cX4_readSum 49 = .ok (.return_, 1) := by decide +kernel
theorem dX4_readUnit_0 : decode cX4_readUnit 0 = .ok (.iconst 0, 1) := by decide +kernel
theorem dX4_readUnit_1 : decode cX4_readUnit 1 = .ok (.istore_n 2, 1) := by decide +kernel
theorem dX4_readUnit_2 : decode cX4_readUnit 2 = .ok (.iload_n 2, 1) := by decide +kernel
theorem dX4_readUnit_3 : decode cX4_readUnit 3 = .ok (.bipush 6, 2) := by decide +kernel
theorem dX4_readUnit_5 : decode cX4_readUnit 5 = .ok (.if_icmp .gt 55, 3) := by decide +kernel
theorem dX4_readUnit_8 : decode cX4_readUnit 8 = .ok (.aload_n 0, 1) := by decide +kernel
theorem dX4_readUnit_9 : decode cX4_readUnit 9 = .ok (.invokevirtual 52, 3) := by decide +kernel
theorem dX4_readUnit_12 : decode cX4_readUnit 12 = .ok (.bipush 40, 2) := by decide +kernel
theorem dX4_readUnit_14 : decode cX4_readUnit 14 = .ok (.if_icmp .ne 46, 3) := by decide +kernel
theorem dX4_readUnit_17 : decode cX4_readUnit 17 = .ok (.aload_n 0, 1) := by decide +kernel
theorem dX4_readUnit_18 : decode cX4_readUnit 18 = .ok (.getfield 193, 3) := by decide +kernel
theorem dX4_readUnit_21 : decode cX4_readUnit 21 = .ok (.bipush 6, 2) := by decide +kernel
theorem dX4_readUnit_23 : decode cX4_readUnit 23 = .ok (.if_icmp .lt 11, 3) := by decide +kernel
theorem dX4_readUnit_26 : decode cX4_readUnit 26 = .ok (.aload_n 0, 1) := by decide +kernel
theorem dX4_readUnit_27 : decode cX4_readUnit 27 = .ok (.iconst 2, 1) := by decide +kernel
theorem dX4_readUnit_28 : decode cX4_readUnit 28 = .ok (.invokevirtual 110, 3) := by decide +kernel
theorem dX4_readUnit_31 : decode cX4_readUnit 31 = .ok (.goto 23, 3) := by decide +kernel
theorem dX4_readUnit_34 : decode cX4_readUnit 34 = .ok (.aload_n 0, 1) := by decide +kernel
theorem dX4_readUnit_35 : decode cX4_readUnit 35 = .ok (.bipush 40, 2) := by decide +kernel
theorem dX4_readUnit_37 : decode cX4_readUnit 37 = .ok (.invokevirtual 207, 3) := by decide +kernel
theorem dX4_readUnit_40 : decode cX4_readUnit 40 = .ok (.aload_n 0, 1) := by decide +kernel
theorem dX4_readUnit_41 : decode cX4_readUnit 41 = .ok (.dup, 1) := by decide +kernel
theorem dX4_readUnit_42 : decode cX4_readUnit 42 = .ok (.getfield 193, 3) := by decide +kernel
theorem dX4_readUnit_45 : decode cX4_readUnit 45 = .ok (.iconst 1, 1) := by decide +kernel
theorem dX4_readUnit_46 : decode cX4_readUnit 46 = .ok (.iadd, 1) := by decide +kernel
theorem dX4_readUnit_47 : decode cX4_readUnit 47 = .ok (.putfield 193, 3) := by decide +kernel
theorem dX4_readUnit_50 : decode cX4_readUnit 50 = .ok (.aload_n 0, 1) := by decide +kernel
theorem dX4_readUnit_51 : decode cX4_readUnit 51 = .ok (.invokevirtual 91, 3) := by decide +kernel
theorem dX4_readUnit_54 : decode cX4_readUnit 54 = .ok (.iinc 2 1, 3) := by decide +kernel
theorem dX4_readUnit_57 : decode cX4_readUnit 57 = .ok (.goto (-55), 3) := by decide +kernel
theorem dX4_readUnit_60 : decode cX4_readUnit 60 = .ok (.aload_n 0, 1) := by decide +kernel
theorem dX4_readUnit_61 : decode cX4_readUnit 61 = .ok (.invokevirtual 52, 3) := by decide +kernel
theorem dX4_readUnit_64 : decode cX4_readUnit 64 = .ok (.istore_n 2, 1) := by decide +kernel
theorem dX4_readUnit_65 : decode cX4_readUnit 65 = .ok (.iload_n 2, 1) := by decide +kernel
theorem dX4_readUnit_66 : decode cX4_readUnit 66 = .ok (.iconst 3, 1) := by decide +kernel
theorem dX4_readUnit_67 : decode cX4_readUnit 67 = .ok (.if_icmp .ne 29, 3) := by decide +kernel
theorem dX4_readUnit_70 : decode cX4_readUnit 70 = .ok (.aload_n 1, 1) := by decide +kernel
theorem dX4_readUnit_71 : decode cX4_readUnit 71 = .ok (.iconst 0, 1) := by decide +kernel
theorem dX4_readUnit_72 : decode cX4_readUnit 72 = .ok (.aload_n 0, 1) := by decide +kernel
theorem dX4_readUnit_73 : decode cX4_readUnit 73 = .ok (.getfield 12, 3) := by decide +kernel
theorem dX4_readUnit_76 : decode cX4_readUnit 76 = .ok (.getfield 165, 3) := by decide +kernel
theorem dX4_readUnit_79 : decode cX4_readUnit 79 = .ok (.aload_n 0, 1) := by decide +kernel
theorem dX4_readUnit_80 : decode cX4_readUnit 80 = .ok (.getfield 42, 3) := by decide +kernel
theorem dX4_readUnit_83 : decode cX4_readUnit 83 = .ok (.laload, 1) := by decide +kernel
theorem dX4_readUnit_84 : decode cX4_readUnit 84 = .ok (.l2i, 1) := by decide +kernel
theorem dX4_readUnit_85 : decode cX4_readUnit 85 = .ok (.invokevirtual 184, 3) := by decide +kernel
theorem dX4_readUnit_88 : decode cX4_readUnit 88 = .ok (.pop, 1) := by decide +kernel
theorem dX4_readUnit_89 : decode cX4_readUnit 89 = .ok (.aload_n 0, 1) := by decide +kernel
theorem dX4_readUnit_90 : decode cX4_readUnit 90 = .ok (.invokevirtual 91, 3) := by decide +kernel
theorem dX4_readUnit_93 : decode cX4_readUnit 93 = .ok (.goto 31, 3) := by decide +kernel
theorem dX4_readUnit_96 : decode cX4_readUnit 96 = .ok (.iload_n 2, 1) := by decide +kernel
theorem dX4_readUnit_97 : decode cX4_readUnit 97 = .ok (.sipush 142, 3) := by decide +kernel
theorem dX4_readUnit_100 : decode cX4_readUnit 100 = .ok (.if_icmp .lt 19, 3) := by decide +kernel
theorem dX4_readUnit_103 : decode cX4_readUnit 103 = .ok (.aload_n 1, 1) := by decide +kernel
theorem dX4_readUnit_104 : decode cX4_readUnit 104 = .ok (.iload_n 2, 1) := by decide +kernel
theorem dX4_readUnit_105 : decode cX4_readUnit 105 = .ok (.sipush 142, 3) := by decide +kernel
theorem dX4_readUnit_108 : decode cX4_readUnit 108 = .ok (.isub, 1) := by decide +kernel
theorem dX4_readUnit_109 : decode cX4_readUnit 109 = .ok (.invokevirtual 210, 3) := by decide +kernel
theorem dX4_readUnit_112 : decode cX4_readUnit 112 = .ok (.aload_n 0, 1) := by decide +kernel
theorem dX4_readUnit_113 : decode cX4_readUnit 113 = .ok (.invokevirtual 91, 3) := by decide +kernel
theorem dX4_readUnit_116 : decode cX4_readUnit 116 = .ok (.goto 8, 3) := by decide +kernel
theorem dX4_readUnit_119 : decode cX4_readUnit 119 = .ok (.aload_n 0, 1) := by decide +kernel
theorem dX4_readUnit_120 : decode cX4_readUnit 120 = .ok (.iconst 1, 1) := by decide +kernel
theorem dX4_readUnit_121 : decode cX4_readUnit 121 = .ok (.invokevirtual 110, 3) := by decide +kernel
theorem dX4_readUnit_124 : decode cX4_readUnit 124 = .ok (.iconst 0, 1) := by decide +kernel
theorem dX4_readUnit_125 : decode cX4_readUnit 125 = .ok (.istore_n 3, 1) := by decide +kernel
theorem dX4_readUnit_126 : decode cX4_readUnit 126 = .ok (.iload_n 3, 1) := by decide +kernel
theorem dX4_readUnit_127 : decode cX4_readUnit 127 = .ok (.bipush 6, 2) := by decide +kernel
theorem dX4_readUnit_129 : decode cX4_readUnit 129 = .ok (.if_icmp .gt 59, 3) := by decide +kernel
theorem dX4_readUnit_132 : decode cX4_readUnit 132 = .ok (.aload_n 0, 1) := by decide +kernel
theorem dX4_readUnit_133 : decode cX4_readUnit 133 = .ok (.getfield 193, 3) := by decide +kernel
theorem dX4_readUnit_136 : decode cX4_readUnit 136 = .ok (.ifCond .le 52, 3) := by decide +kernel
theorem dX4_readUnit_139 : decode cX4_readUnit 139 = .ok (.aload_n 0, 1) := by decide +kernel
theorem dX4_readUnit_140 : decode cX4_readUnit 140 = .ok (.invokevirtual 52, 3) := by decide +kernel
theorem dX4_readUnit_143 : decode cX4_readUnit 143 = .ok (.bipush 41, 2) := by decide +kernel
theorem dX4_readUnit_145 : decode cX4_readUnit 145 = .ok (.if_icmp .ne 43, 3) := by decide +kernel
theorem dX4_readUnit_148 : decode cX4_readUnit 148 = .ok (.aload_n 0, 1) := by decide +kernel
theorem dX4_readUnit_149 : decode cX4_readUnit 149 = .ok (.aload_n 1, 1) := by decide +kernel
theorem dX4_readUnit_150 : decode cX4_readUnit 150 = .ok (.iconst 1, 1) := by decide +kernel
theorem dX4_readUnit_151 : decode cX4_readUnit 151 = .ok (.invokevirtual 203, 3) := by decide +kernel
theorem dX4_readUnit_154 : decode cX4_readUnit 154 = .ok (.aload_n 0, 1) := by decide +kernel
theorem dX4_readUnit_155 : decode cX4_readUnit 155 = .ok (.iconst 0, 1) := by decide +kernel
theorem dX4_readUnit_156 : decode cX4_readUnit 156 = .ok (.aload_n 0, 1) := by decide +kernel
theorem dX4_readUnit_157 : decode cX4_readUnit 157 = .ok (.getfield 190, 3) := by decide +kernel
theorem dX4_readUnit_160 : decode cX4_readUnit 160 = .ok (.iconst 1, 1) := by decide +kernel
theorem dX4_readUnit_161 : decode cX4_readUnit 161 = .ok (.isub, 1) := by decide +kernel
theorem dX4_readUnit_162 : decode cX4_readUnit 162 = .ok (.invokestatic 213, 3) := by decide +kernel
theorem dX4_readUnit_165 : decode cX4_readUnit 165 = .ok (.putfield 190, 3) := by decide +kernel
theorem dX4_readUnit_168 : decode cX4_readUnit 168 = .ok (.aload_n 0, 1) := by decide +kernel
theorem dX4_readUnit_169 : decode cX4_readUnit 169 = .ok (.dup, 1) := by decide +kernel
theorem dX4_readUnit_170 : decode cX4_readUnit 170 = .ok (.getfield 193, 3) := by decide +kernel
theorem dX4_readUnit_173 : decode cX4_readUnit 173 = .ok (.iconst 1, 1) := by decide +kernel
theorem dX4_readUnit_174 : decode cX4_readUnit 174 = .ok (.isub, 1) := by decide +kernel
theorem dX4_readUnit_175 : decode cX4_readUnit 175 = .ok (.putfield 193, 3) := by decide +kernel
theorem dX4_readUnit_178 : decode cX4_readUnit 178 = .ok (.aload_n 0, 1) := by decide +kernel
theorem dX4_readUnit_179 : decode cX4_readUnit 179 = .ok (.invokevirtual 91, 3) := by decide +kernel
theorem dX4_readUnit_182 : decode cX4_readUnit 182 = .ok (.iinc 3 1, 3) := by decide +kernel
theorem dX4_readUnit_185 : decode cX4_readUnit 185 = .ok (.goto (-59), 3) := by decide +kernel
theorem dX4_readUnit_188 : decode cX4_readUnit 188 = .ok (.return_, 1) := by decide +kernel
theorem dX4_readOperator_0 : decode cX4_readOperator 0 = .ok (.aload_n 0, 1) := by decide +kernel
theorem dX4_readOperator_1 : decode cX4_readOperator 1 = .ok (.invokevirtual 52, 3) := by decide +kernel
theorem dX4_readOperator_4 : decode cX4_readOperator 4 = .ok (.istore_n 2, 1) := by decide +kernel
theorem dX4_readOperator_5 : decode cX4_readOperator 5 = .ok (.iload_n 2, 1) := by decide +kernel
theorem dX4_readOperator_6 : decode cX4_readOperator 6 = .ok (.invokestatic 218, 3) := by decide +kernel
theorem dX4_readOperator_9 : decode cX4_readOperator 9 = .ok (.istore_n 3, 1) := by decide +kernel
theorem dX4_readOperator_10 : decode cX4_readOperator 10 = .ok (.iload_n 3, 1) := by decide +kernel
theorem dX4_readOperator_11 : decode cX4_readOperator 11 = .ok (.ifCond .ne 17, 3) := by decide +kernel
theorem dX4_readOperator_14 : decode cX4_readOperator 14 = .ok (.aload_n 0, 1) := by decide +kernel
theorem dX4_readOperator_15 : decode cX4_readOperator 15 = .ok (.getfield 193, 3) := by decide +kernel
theorem dX4_readOperator_18 : decode cX4_readOperator 18 = .ok (.ifCond .le 8, 3) := by decide +kernel
theorem dX4_readOperator_21 : decode cX4_readOperator 21 = .ok (.aload_n 0, 1) := by decide +kernel
theorem dX4_readOperator_22 : decode cX4_readOperator 22 = .ok (.iconst 1, 1) := by decide +kernel
theorem dX4_readOperator_23 : decode cX4_readOperator 23 = .ok (.invokevirtual 110, 3) := by decide +kernel
theorem dX4_readOperator_26 : decode cX4_readOperator 26 = .ok (.iconst 0, 1) := by decide +kernel
theorem dX4_readOperator_27 : decode cX4_readOperator 27 = .ok (.ireturn, 1) := by decide +kernel
theorem dX4_readOperator_28 : decode cX4_readOperator 28 = .ok (.aload_n 0, 1) := by decide +kernel
theorem dX4_readOperator_29 : decode cX4_readOperator 29 = .ok (.aload_n 1, 1) := by decide +kernel
theorem dX4_readOperator_30 : decode cX4_readOperator 30 = .ok (.iload_n 3, 1) := by decide +kernel
theorem dX4_readOperator_31 : decode cX4_readOperator 31 = .ok (.invokevirtual 203, 3) := by decide +kernel
theorem dX4_readOperator_34 : decode cX4_readOperator 34 = .ok (.aload_n 0, 1) := by decide +kernel
theorem dX4_readOperator_35 : decode cX4_readOperator 35 = .ok (.iload_n 2, 1) := by decide +kernel
theorem dX4_readOperator_36 : decode cX4_readOperator 36 = .ok (.invokevirtual 207, 3) := by decide +kernel
theorem dX4_readOperator_39 : decode cX4_readOperator 39 = .ok (.aload_n 0, 1) := by decide +kernel
theorem dX4_readOperator_40 : decode cX4_readOperator 40 = .ok (.invokevirtual 91, 3) := by decide +kernel
theorem dX4_readOperator_43 : decode cX4_readOperator 43 = .ok (.iconst 1, 1) := by decide +kernel
theorem dX4_readOperator_44 : decode cX4_readOperator 44 = .ok (.ireturn, 1) := by decide +kernel
theorem dX4_putOff_0 : decode cX4_putOff 0 = .ok (.aload_n 0, 1) := by decide +kernel
theorem dX4_putOff_1 : decode cX4_putOff 1 = .ok (.getfield 190, 3) := by decide +kernel
theorem dX4_putOff_4 : decode cX4_putOff 4 = .ok (.bipush 24, 2) := by decide +kernel
theorem dX4_putOff_6 : decode cX4_putOff 6 = .ok (.if_icmp .ge 23, 3) := by decide +kernel
theorem dX4_putOff_9 : decode cX4_putOff 9 = .ok (.aload_n 0, 1) := by decide +kernel
theorem dX4_putOff_10 : decode cX4_putOff 10 = .ok (.getfield 25, 3) := by decide +kernel
theorem dX4_putOff_13 : decode cX4_putOff 13 = .ok (.aload_n 0, 1) := by decide +kernel
theorem dX4_putOff_14 : decode cX4_putOff 14 = .ok (.getfield 190, 3) := by decide +kernel
theorem dX4_putOff_17 : decode cX4_putOff 17 = .ok (.iload_n 1, 1) := by decide +kernel
theorem dX4_putOff_18 : decode cX4_putOff 18 = .ok (.iastore, 1) := by decide +kernel
theorem dX4_putOff_19 : decode cX4_putOff 19 = .ok (.aload_n 0, 1) := by decide +kernel
theorem dX4_putOff_20 : decode cX4_putOff 20 = .ok (.dup, 1) := by decide +kernel
theorem dX4_putOff_21 : decode cX4_putOff 21 = .ok (.getfield 190, 3) := by decide +kernel
theorem dX4_putOff_24 : decode cX4_putOff 24 = .ok (.iconst 1, 1) := by decide +kernel
theorem dX4_putOff_25 : decode cX4_putOff 25 = .ok (.iadd, 1) := by decide +kernel
theorem dX4_putOff_26 : decode cX4_putOff 26 = .ok (.putfield 190, 3) := by decide +kernel
theorem dX4_putOff_29 : decode cX4_putOff 29 = .ok (.return_, 1) := by decide +kernel
theorem dX4_settle_0 : decode cX4_settle 0 = .ok (.aload_n 0, 1) := by decide +kernel
theorem dX4_settle_1 : decode cX4_settle 1 = .ok (.getfield 190, 3) := by decide +kernel
theorem dX4_settle_4 : decode cX4_settle 4 = .ok (.ifCond .le 52, 3) := by decide +kernel
theorem dX4_settle_7 : decode cX4_settle 7 = .ok (.aload_n 0, 1) := by decide +kernel
theorem dX4_settle_8 : decode cX4_settle 8 = .ok (.getfield 25, 3) := by decide +kernel
theorem dX4_settle_11 : decode cX4_settle 11 = .ok (.aload_n 0, 1) := by decide +kernel
theorem dX4_settle_12 : decode cX4_settle 12 = .ok (.getfield 190, 3) := by decide +kernel
theorem dX4_settle_15 : decode cX4_settle 15 = .ok (.iconst 1, 1) := by decide +kernel
theorem dX4_settle_16 : decode cX4_settle 16 = .ok (.isub, 1) := by decide +kernel
theorem dX4_settle_17 : decode cX4_settle 17 = .ok (.iaload, 1) := by decide +kernel
theorem dX4_settle_18 : decode cX4_settle 18 = .ok (.invokestatic 218, 3) := by decide +kernel
theorem dX4_settle_21 : decode cX4_settle 21 = .ok (.iload_n 2, 1) := by decide +kernel
theorem dX4_settle_22 : decode cX4_settle 22 = .ok (.if_icmp .lt 34, 3) := by decide +kernel
theorem dX4_settle_25 : decode cX4_settle 25 = .ok (.aload_n 0, 1) := by decide +kernel
theorem dX4_settle_26 : decode cX4_settle 26 = .ok (.dup, 1) := by decide +kernel
theorem dX4_settle_27 : decode cX4_settle 27 = .ok (.getfield 190, 3) := by decide +kernel
theorem dX4_settle_30 : decode cX4_settle 30 = .ok (.iconst 1, 1) := by decide +kernel
theorem dX4_settle_31 : decode cX4_settle 31 = .ok (.isub, 1) := by decide +kernel
theorem dX4_settle_32 : decode cX4_settle 32 = .ok (.putfield 190, 3) := by decide +kernel
theorem dX4_settle_35 : decode cX4_settle 35 = .ok (.aload_n 1, 1) := by decide +kernel
theorem dX4_settle_36 : decode cX4_settle 36 = .ok (.aload_n 0, 1) := by decide +kernel
theorem dX4_settle_37 : decode cX4_settle 37 = .ok (.getfield 25, 3) := by decide +kernel
theorem dX4_settle_40 : decode cX4_settle 40 = .ok (.aload_n 0, 1) := by decide +kernel
theorem dX4_settle_41 : decode cX4_settle 41 = .ok (.getfield 190, 3) := by decide +kernel
theorem dX4_settle_44 : decode cX4_settle 44 = .ok (.iaload, 1) := by decide +kernel
theorem dX4_settle_45 : decode cX4_settle 45 = .ok (.invokestatic 221, 3) := by decide +kernel
theorem dX4_settle_48 : decode cX4_settle 48 = .ok (.iconst 0, 1) := by decide +kernel
theorem dX4_settle_49 : decode cX4_settle 49 = .ok (.invokevirtual 184, 3) := by decide +kernel
theorem dX4_settle_52 : decode cX4_settle 52 = .ok (.pop, 1) := by decide +kernel
theorem dX4_settle_53 : decode cX4_settle 53 = .ok (.goto (-53), 3) := by decide +kernel
theorem dX4_settle_56 : decode cX4_settle 56 = .ok (.return_, 1) := by decide +kernel
theorem dX4_rankOf_0 : decode cX4_rankOf 0 = .ok (.iload_n 0, 1) := by decide +kernel
theorem dX4_rankOf_1 : decode cX4_rankOf 1 = .ok (.tableswitch 43 42 47 #[41, 39, 43, 39, 43, 41], 39) := by decide +kernel
theorem dX4_rankOf_40 : decode cX4_rankOf 40 = .ok (.iconst 1, 1) := by decide +kernel
theorem dX4_rankOf_41 : decode cX4_rankOf 41 = .ok (.ireturn, 1) := by decide +kernel
theorem dX4_rankOf_42 : decode cX4_rankOf 42 = .ok (.iconst 2, 1) := by decide +kernel
theorem dX4_rankOf_43 : decode cX4_rankOf 43 = .ok (.ireturn, 1) := by decide +kernel
theorem dX4_rankOf_44 : decode cX4_rankOf 44 = .ok (.iconst 0, 1) := by decide +kernel
theorem dX4_rankOf_45 : decode cX4_rankOf 45 = .ok (.ireturn, 1) := by decide +kernel
theorem dX4_workOf_0 : decode cX4_workOf 0 = .ok (.iload_n 0, 1) := by decide +kernel
theorem dX4_workOf_1 : decode cX4_workOf 1 = .ok (.tableswitch 37 42 45 #[35, 31, 37, 33], 31) := by decide +kernel
theorem dX4_workOf_32 : decode cX4_workOf 32 = .ok (.iconst 2, 1) := by decide +kernel
theorem dX4_workOf_33 : decode cX4_workOf 33 = .ok (.ireturn, 1) := by decide +kernel
theorem dX4_workOf_34 : decode cX4_workOf 34 = .ok (.iconst 3, 1) := by decide +kernel
theorem dX4_workOf_35 : decode cX4_workOf 35 = .ok (.ireturn, 1) := by decide +kernel
theorem dX4_workOf_36 : decode cX4_workOf 36 = .ok (.iconst 4, 1) := by decide +kernel
theorem dX4_workOf_37 : decode cX4_workOf 37 = .ok (.ireturn, 1) := by decide +kernel
theorem dX4_workOf_38 : decode cX4_workOf 38 = .ok (.iconst 5, 1) := by decide +kernel
theorem dX4_workOf_39 : decode cX4_workOf 39 = .ok (.ireturn, 1) := by decide +kernel
theorem dX4_numberOf_0 : decode cX4_numberOf 0 = .ok (.iconst 0, 1) := by decide +kernel
theorem dX4_numberOf_1 : decode cX4_numberOf 1 = .ok (.istore 4, 2) := by decide +kernel
theorem dX4_numberOf_3 : decode cX4_numberOf 3 = .ok (.iload 4, 2) := by decide +kernel
theorem dX4_numberOf_5 : decode cX4_numberOf 5 = .ok (.iload_n 3, 1) := by decide +kernel
theorem dX4_numberOf_6 : decode cX4_numberOf 6 = .ok (.if_icmp .ge 28, 3) := by decide +kernel
theorem dX4_numberOf_9 : decode cX4_numberOf 9 = .ok (.iload 4, 2) := by decide +kernel
theorem dX4_numberOf_11 : decode cX4_numberOf 11 = .ok (.aload_n 2, 1) := by decide +kernel
theorem dX4_numberOf_12 : decode cX4_numberOf 12 = .ok (.arraylength, 1) := by decide +kernel
theorem dX4_numberOf_13 : decode cX4_numberOf 13 = .ok (.if_icmp .ge 21, 3) := by decide +kernel
theorem dX4_numberOf_16 : decode cX4_numberOf 16 = .ok (.aload_n 2, 1) := by decide +kernel
theorem dX4_numberOf_17 : decode cX4_numberOf 17 = .ok (.iload 4, 2) := by decide +kernel
theorem dX4_numberOf_19 : decode cX4_numberOf 19 = .ok (.laload, 1) := by decide +kernel
theorem dX4_numberOf_20 : decode cX4_numberOf 20 = .ok (.lload_n 0, 1) := by decide +kernel
theorem dX4_numberOf_21 : decode cX4_numberOf 21 = .ok (.lcmp, 1) := by decide +kernel
theorem dX4_numberOf_22 : decode cX4_numberOf 22 = .ok (.ifCond .ne 6, 3) := by decide +kernel
theorem dX4_numberOf_25 : decode cX4_numberOf 25 = .ok (.iload 4, 2) := by decide +kernel
theorem dX4_numberOf_27 : decode cX4_numberOf 27 = .ok (.ireturn, 1) := by decide +kernel
theorem dX4_numberOf_28 : decode cX4_numberOf 28 = .ok (.iinc 4 1, 3) := by decide +kernel
theorem dX4_numberOf_31 : decode cX4_numberOf 31 = .ok (.goto (-28), 3) := by decide +kernel
theorem dX4_numberOf_34 : decode cX4_numberOf 34 = .ok (.iconst (-1), 1) := by decide +kernel
theorem dX4_numberOf_35 : decode cX4_numberOf 35 = .ok (.ireturn, 1) := by decide +kernel
theorem dX4_kindHere_0 : decode cX4_kindHere 0 = .ok (.aload_n 0, 1) := by decide +kernel
theorem dX4_kindHere_1 : decode cX4_kindHere 1 = .ok (.getfield 46, 3) := by decide +kernel
theorem dX4_kindHere_4 : decode cX4_kindHere 4 = .ok (.ifCond .ne 18, 3) := by decide +kernel
theorem dX4_kindHere_7 : decode cX4_kindHere 7 = .ok (.aload_n 0, 1) := by decide +kernel
theorem dX4_kindHere_8 : decode cX4_kindHere 8 = .ok (.getfield 12, 3) := by decide +kernel
theorem dX4_kindHere_11 : decode cX4_kindHere 11 = .ok (.getfield 224, 3) := by decide +kernel
theorem dX4_kindHere_14 : decode cX4_kindHere 14 = .ok (.aload_n 0, 1) := by decide +kernel
theorem dX4_kindHere_15 : decode cX4_kindHere 15 = .ok (.getfield 42, 3) := by decide +kernel
theorem dX4_kindHere_18 : decode cX4_kindHere 18 = .ok (.iaload, 1) := by decide +kernel
theorem dX4_kindHere_19 : decode cX4_kindHere 19 = .ok (.goto 4, 3) := by decide +kernel
theorem dX4_kindHere_22 : decode cX4_kindHere 22 = .ok (.iconst (-1), 1) := by decide +kernel
theorem dX4_kindHere_23 : decode cX4_kindHere 23 = .ok (.ireturn, 1) := by decide +kernel
theorem dX4_expect_0 : decode cX4_expect 0 = .ok (.aload_n 0, 1) := by decide +kernel
theorem dX4_expect_1 : decode cX4_expect 1 = .ok (.invokevirtual 52, 3) := by decide +kernel
theorem dX4_expect_4 : decode cX4_expect 4 = .ok (.iload_n 1, 1) := by decide +kernel
theorem dX4_expect_5 : decode cX4_expect 5 = .ok (.if_icmp .eq 10, 3) := by decide +kernel
theorem dX4_expect_8 : decode cX4_expect 8 = .ok (.aload_n 0, 1) := by decide +kernel
theorem dX4_expect_9 : decode cX4_expect 9 = .ok (.iconst 1, 1) := by decide +kernel
theorem dX4_expect_10 : decode cX4_expect 10 = .ok (.invokevirtual 110, 3) := by decide +kernel
theorem dX4_expect_13 : decode cX4_expect 13 = .ok (.iconst 0, 1) := by decide +kernel
theorem dX4_expect_14 : decode cX4_expect 14 = .ok (.ireturn, 1) := by decide +kernel
theorem dX4_expect_15 : decode cX4_expect 15 = .ok (.aload_n 0, 1) := by decide +kernel
theorem dX4_expect_16 : decode cX4_expect 16 = .ok (.invokevirtual 91, 3) := by decide +kernel
theorem dX4_expect_19 : decode cX4_expect 19 = .ok (.iconst 1, 1) := by decide +kernel
theorem dX4_expect_20 : decode cX4_expect 20 = .ok (.ireturn, 1) := by decide +kernel
theorem dX4_take_0 : decode cX4_take 0 = .ok (.aload_n 0, 1) := by decide +kernel
theorem dX4_take_1 : decode cX4_take 1 = .ok (.getfield 42, 3) := by decide +kernel
theorem dX4_take_4 : decode cX4_take 4 = .ok (.sipush 400, 3) := by decide +kernel
theorem dX4_take_7 : decode cX4_take 7 = .ok (.if_icmp .lt 11, 3) := by decide +kernel
theorem dX4_take_10 : decode cX4_take 10 = .ok (.aload_n 0, 1) := by decide +kernel
theorem dX4_take_11 : decode cX4_take 11 = .ok (.iconst 2, 1) := by decide +kernel
theorem dX4_take_12 : decode cX4_take 12 = .ok (.invokevirtual 110, 3) := by decide +kernel
theorem dX4_take_15 : decode cX4_take 15 = .ok (.goto 20, 3) := by decide +kernel
theorem dX4_take_18 : decode cX4_take 18 = .ok (.aload_n 0, 1) := by decide +kernel
theorem dX4_take_19 : decode cX4_take 19 = .ok (.getfield 46, 3) := by decide +kernel
theorem dX4_take_22 : decode cX4_take 22 = .ok (.ifCond .ne 13, 3) := by decide +kernel
theorem dX4_take_25 : decode cX4_take 25 = .ok (.aload_n 0, 1) := by decide +kernel
theorem dX4_take_26 : decode cX4_take 26 = .ok (.dup, 1) := by decide +kernel
theorem dX4_take_27 : decode cX4_take 27 = .ok (.getfield 42, 3) := by decide +kernel
theorem dX4_take_30 : decode cX4_take 30 = .ok (.iconst 1, 1) := by decide +kernel
theorem dX4_take_31 : decode cX4_take 31 = .ok (.iadd, 1) := by decide +kernel
theorem dX4_take_32 : decode cX4_take 32 = .ok (.putfield 42, 3) := by decide +kernel
theorem dX4_take_35 : decode cX4_take 35 = .ok (.return_, 1) := by decide +kernel
theorem dX4_failHere_0 : decode cX4_failHere 0 = .ok (.aload_n 0, 1) := by decide +kernel
theorem dX4_failHere_1 : decode cX4_failHere 1 = .ok (.getfield 46, 3) := by decide +kernel
theorem dX4_failHere_4 : decode cX4_failHere 4 = .ok (.ifCond .ne 24, 3) := by decide +kernel
theorem dX4_failHere_7 : decode cX4_failHere 7 = .ok (.aload_n 0, 1) := by decide +kernel
theorem dX4_failHere_8 : decode cX4_failHere 8 = .ok (.iload_n 1, 1) := by decide +kernel
theorem dX4_failHere_9 : decode cX4_failHere 9 = .ok (.putfield 46, 3) := by decide +kernel
theorem dX4_failHere_12 : decode cX4_failHere 12 = .ok (.aload_n 0, 1) := by decide +kernel
theorem dX4_failHere_13 : decode cX4_failHere 13 = .ok (.aload_n 0, 1) := by decide +kernel
theorem dX4_failHere_14 : decode cX4_failHere 14 = .ok (.getfield 12, 3) := by decide +kernel
theorem dX4_failHere_17 : decode cX4_failHere 17 = .ok (.getfield 168, 3) := by decide +kernel
theorem dX4_failHere_20 : decode cX4_failHere 20 = .ok (.aload_n 0, 1) := by decide +kernel
theorem dX4_failHere_21 : decode cX4_failHere 21 = .ok (.getfield 42, 3) := by decide +kernel
theorem dX4_failHere_24 : decode cX4_failHere 24 = .ok (.iaload, 1) := by decide +kernel
theorem dX4_failHere_25 : decode cX4_failHere 25 = .ok (.putfield 59, 3) := by decide +kernel
theorem dX4_failHere_28 : decode cX4_failHere 28 = .ok (.return_, 1) := by decide +kernel
theorem dX4_failSense_0 : decode cX4_failSense 0 = .ok (.aload_n 0, 1) := by decide +kernel
theorem dX4_failSense_1 : decode cX4_failSense 1 = .ok (.getfield 49, 3) := by decide +kernel
theorem dX4_failSense_4 : decode cX4_failSense 4 = .ok (.ifCond .ne 13, 3) := by decide +kernel
theorem dX4_failSense_7 : decode cX4_failSense 7 = .ok (.aload_n 0, 1) := by decide +kernel
theorem dX4_failSense_8 : decode cX4_failSense 8 = .ok (.iload_n 1, 1) := by decide +kernel
theorem dX4_failSense_9 : decode cX4_failSense 9 = .ok (.putfield 49, 3) := by decide +kernel
theorem dX4_failSense_12 : decode cX4_failSense 12 = .ok (.aload_n 0, 1) := by decide +kernel
theorem dX4_failSense_13 : decode cX4_failSense 13 = .ok (.iload_n 2, 1) := by decide +kernel
theorem dX4_failSense_14 : decode cX4_failSense 14 = .ok (.putfield 65, 3) := by decide +kernel
theorem dX4_failSense_17 : decode cX4_failSense 17 = .ok (.return_, 1) := by decide +kernel
theorem dX7_init_0 : decode cX7_init 0 = .ok (.aload_n 0, 1) := by decide +kernel
theorem dX7_init_1 : decode cX7_init 1 = .ok (.invokespecial 5, 3) := by decide +kernel
theorem dX7_init_4 : decode cX7_init 4 = .ok (.aload_n 0, 1) := by decide +kernel
theorem dX7_init_5 : decode cX7_init 5 = .ok (.sipush 401, 3) := by decide +kernel
theorem dX7_init_8 : decode cX7_init 8 = .ok (.newarray .int, 2) := by decide +kernel
theorem dX7_init_10 : decode cX7_init 10 = .ok (.putfield 11, 3) := by decide +kernel
theorem dX7_init_13 : decode cX7_init 13 = .ok (.aload_n 0, 1) := by decide +kernel
theorem dX7_init_14 : decode cX7_init 14 = .ok (.sipush 401, 3) := by decide +kernel
theorem dX7_init_17 : decode cX7_init 17 = .ok (.newarray .int, 2) := by decide +kernel
theorem dX7_init_19 : decode cX7_init 19 = .ok (.putfield 15, 3) := by decide +kernel
theorem dX7_init_22 : decode cX7_init 22 = .ok (.aload_n 0, 1) := by decide +kernel
theorem dX7_init_23 : decode cX7_init 23 = .ok (.sipush 401, 3) := by decide +kernel
theorem dX7_init_26 : decode cX7_init 26 = .ok (.newarray .long, 2) := by decide +kernel
theorem dX7_init_28 : decode cX7_init 28 = .ok (.putfield 18, 3) := by decide +kernel
theorem dX7_init_31 : decode cX7_init 31 = .ok (.aload_n 0, 1) := by decide +kernel
theorem dX7_init_32 : decode cX7_init 32 = .ok (.bipush 23, 2) := by decide +kernel
theorem dX7_init_34 : decode cX7_init 34 = .ok (.newarray .long, 2) := by decide +kernel
theorem dX7_init_36 : decode cX7_init 36 = .ok (.putfield 22, 3) := by decide +kernel
theorem dX7_init_39 : decode cX7_init 39 = .ok (.iconst 0, 1) := by decide +kernel
theorem dX7_init_40 : decode cX7_init 40 = .ok (.istore_n 1, 1) := by decide +kernel
theorem dX7_init_41 : decode cX7_init 41 = .ok (.iconst 0, 1) := by decide +kernel
theorem dX7_init_42 : decode cX7_init 42 = .ok (.istore_n 2, 1) := by decide +kernel
theorem dX7_init_43 : decode cX7_init 43 = .ok (.iload_n 2, 1) := by decide +kernel
theorem dX7_init_44 : decode cX7_init 44 = .ok (.ldc 25, 2) := by decide +kernel
theorem dX7_init_46 : decode cX7_init 46 = .ok (.invokevirtual 27, 3) := by decide +kernel
theorem dX7_init_49 : decode cX7_init 49 = .ok (.if_icmp .ge 50, 3) := by decide +kernel
theorem dX7_init_52 : decode cX7_init 52 = .ok (.ldc 25, 2) := by decide +kernel
theorem dX7_init_54 : decode cX7_init 54 = .ok (.iload_n 2, 1) := by decide +kernel
theorem dX7_init_55 : decode cX7_init 55 = .ok (.invokevirtual 33, 3) := by decide +kernel
theorem dX7_init_58 : decode cX7_init 58 = .ok (.istore_n 3, 1) := by decide +kernel
theorem dX7_init_59 : decode cX7_init 59 = .ok (.iload_n 3, 1) := by decide +kernel
theorem dX7_init_60 : decode cX7_init 60 = .ok (.bipush 32, 2) := by decide +kernel
theorem dX7_init_62 : decode cX7_init 62 = .ok (.if_icmp .ne 9, 3) := by decide +kernel
theorem dX7_init_65 : decode cX7_init 65 = .ok (.iinc 1 1, 3) := by decide +kernel
theorem dX7_init_68 : decode cX7_init 68 = .ok (.goto 25, 3) := by decide +kernel
theorem dX7_init_71 : decode cX7_init 71 = .ok (.iload_n 1, 1) := by decide +kernel
theorem dX7_init_72 : decode cX7_init 72 = .ok (.bipush 23, 2) := by decide +kernel
theorem dX7_init_74 : decode cX7_init 74 = .ok (.if_icmp .ge 19, 3) := by decide +kernel
theorem dX7_init_77 : decode cX7_init 77 = .ok (.aload_n 0, 1) := by decide +kernel
theorem dX7_init_78 : decode cX7_init 78 = .ok (.getfield 22, 3) := by decide +kernel
theorem dX7_init_81 : decode cX7_init 81 = .ok (.iload_n 1, 1) := by decide +kernel
theorem dX7_init_82 : decode cX7_init 82 = .ok (.aload_n 0, 1) := by decide +kernel
theorem dX7_init_83 : decode cX7_init 83 = .ok (.getfield 22, 3) := by decide +kernel
theorem dX7_init_86 : decode cX7_init 86 = .ok (.iload_n 1, 1) := by decide +kernel
theorem dX7_init_87 : decode cX7_init 87 = .ok (.laload, 1) := by decide +kernel
theorem dX7_init_88 : decode cX7_init 88 = .ok (.iload_n 3, 1) := by decide +kernel
theorem dX7_init_89 : decode cX7_init 89 = .ok (.invokestatic 37, 3) := by decide +kernel
theorem dX7_init_92 : decode cX7_init 92 = .ok (.lastore, 1) := by decide +kernel
theorem dX7_init_93 : decode cX7_init 93 = .ok (.iinc 2 1, 3) := by decide +kernel
theorem dX7_init_96 : decode cX7_init 96 = .ok (.goto (-53), 3) := by decide +kernel
theorem dX7_init_99 : decode cX7_init 99 = .ok (.return_, 1) := by decide +kernel
theorem dX7_scan_0 : decode cX7_scan 0 = .ok (.iconst 0, 1) := by decide +kernel
theorem dX7_scan_1 : decode cX7_scan 1 = .ok (.istore_n 2, 1) := by decide +kernel
theorem dX7_scan_2 : decode cX7_scan 2 = .ok (.iconst 1, 1) := by decide +kernel
theorem dX7_scan_3 : decode cX7_scan 3 = .ok (.istore_n 3, 1) := by decide +kernel
theorem dX7_scan_4 : decode cX7_scan 4 = .ok (.iconst 0, 1) := by decide +kernel
theorem dX7_scan_5 : decode cX7_scan 5 = .ok (.istore 4, 2) := by decide +kernel
theorem dX7_scan_7 : decode cX7_scan 7 = .ok (.iload 4, 2) := by decide +kernel
theorem dX7_scan_9 : decode cX7_scan 9 = .ok (.sipush 401, 3) := by decide +kernel
theorem dX7_scan_12 : decode cX7_scan 12 = .ok (.if_icmp .ge 53, 3) := by decide +kernel
theorem dX7_scan_15 : decode cX7_scan 15 = .ok (.iload_n 3, 1) := by decide +kernel
theorem dX7_scan_16 : decode cX7_scan 16 = .ok (.ifCond .eq 49, 3) := by decide +kernel
theorem dX7_scan_19 : decode cX7_scan 19 = .ok (.aload_n 0, 1) := by decide +kernel
theorem dX7_scan_20 : decode cX7_scan 20 = .ok (.aload_n 1, 1) := by decide +kernel
theorem dX7_scan_21 : decode cX7_scan 21 = .ok (.aload_n 1, 1) := by decide +kernel
theorem dX7_scan_22 : decode cX7_scan 22 = .ok (.iload_n 2, 1) := by decide +kernel
theorem dX7_scan_23 : decode cX7_scan 23 = .ok (.invokestatic 41, 3) := by decide +kernel
theorem dX7_scan_26 : decode cX7_scan 26 = .ok (.iload 4, 2) := by decide +kernel
theorem dX7_scan_28 : decode cX7_scan 28 = .ok (.invokevirtual 45, 3) := by decide +kernel
theorem dX7_scan_31 : decode cX7_scan 31 = .ok (.istore_n 2, 1) := by decide +kernel
theorem dX7_scan_32 : decode cX7_scan 32 = .ok (.aload_n 0, 1) := by decide +kernel
theorem dX7_scan_33 : decode cX7_scan 33 = .ok (.getfield 11, 3) := by decide +kernel
theorem dX7_scan_36 : decode cX7_scan 36 = .ok (.iload 4, 2) := by decide +kernel
theorem dX7_scan_38 : decode cX7_scan 38 = .ok (.iaload, 1) := by decide +kernel
theorem dX7_scan_39 : decode cX7_scan 39 = .ok (.ifCond .eq 18, 3) := by decide +kernel
theorem dX7_scan_42 : decode cX7_scan 42 = .ok (.aload_n 0, 1) := by decide +kernel
theorem dX7_scan_43 : decode cX7_scan 43 = .ok (.getfield 11, 3) := by decide +kernel
theorem dX7_scan_46 : decode cX7_scan 46 = .ok (.iload 4, 2) := by decide +kernel
theorem dX7_scan_48 : decode cX7_scan 48 = .ok (.iaload, 1) := by decide +kernel
theorem dX7_scan_49 : decode cX7_scan 49 = .ok (.iconst 1, 1) := by decide +kernel
theorem dX7_scan_50 : decode cX7_scan 50 = .ok (.if_icmp .eq 7, 3) := by decide +kernel
theorem dX7_scan_53 : decode cX7_scan 53 = .ok (.iconst 1, 1) := by decide +kernel
theorem dX7_scan_54 : decode cX7_scan 54 = .ok (.goto 4, 3) := by decide +kernel
theorem dX7_scan_57 : decode cX7_scan 57 = .ok (.iconst 0, 1) := by decide +kernel
theorem dX7_scan_58 : decode cX7_scan 58 = .ok (.istore_n 3, 1) := by decide +kernel
theorem dX7_scan_59 : decode cX7_scan 59 = .ok (.iinc 4 1, 3) := by decide +kernel
theorem dX7_scan_62 : decode cX7_scan 62 = .ok (.goto (-55), 3) := by decide +kernel
theorem dX7_scan_65 : decode cX7_scan 65 = .ok (.return_, 1) := by decide +kernel
theorem dX7_scanOne_0 : decode cX7_scanOne 0 = .ok (.aload_n 0, 1) := by decide +kernel
theorem dX7_scanOne_1 : decode cX7_scanOne 1 = .ok (.getfield 15, 3) := by decide +kernel
theorem dX7_scanOne_4 : decode cX7_scanOne 4 = .ok (.iload_n 3, 1) := by decide +kernel
theorem dX7_scanOne_5 : decode cX7_scanOne 5 = .ok (.iload_n 2, 1) := by decide +kernel
theorem dX7_scanOne_6 : decode cX7_scanOne 6 = .ok (.iastore, 1) := by decide +kernel
theorem dX7_scanOne_7 : decode cX7_scanOne 7 = .ok (.aload_n 0, 1) := by decide +kernel
theorem dX7_scanOne_8 : decode cX7_scanOne 8 = .ok (.getfield 18, 3) := by decide +kernel
theorem dX7_scanOne_11 : decode cX7_scanOne 11 = .ok (.iload_n 3, 1) := by decide +kernel
theorem dX7_scanOne_12 : decode cX7_scanOne 12 = .ok (.lconst 0, 1) := by decide +kernel
theorem dX7_scanOne_13 : decode cX7_scanOne 13 = .ok (.lastore, 1) := by decide +kernel
theorem dX7_scanOne_14 : decode cX7_scanOne 14 = .ok (.iload_n 2, 1) := by decide +kernel
theorem dX7_scanOne_15 : decode cX7_scanOne 15 = .ok (.aload_n 1, 1) := by decide +kernel
theorem dX7_scanOne_16 : decode cX7_scanOne 16 = .ok (.getfield 49, 3) := by decide +kernel
theorem dX7_scanOne_19 : decode cX7_scanOne 19 = .ok (.if_icmp .lt 12, 3) := by decide +kernel
theorem dX7_scanOne_22 : decode cX7_scanOne 22 = .ok (.aload_n 0, 1) := by decide +kernel
theorem dX7_scanOne_23 : decode cX7_scanOne 23 = .ok (.getfield 11, 3) := by decide +kernel
theorem dX7_scanOne_26 : decode cX7_scanOne 26 = .ok (.iload_n 3, 1) := by decide +kernel
theorem dX7_scanOne_27 : decode cX7_scanOne 27 = .ok (.iconst 0, 1) := by decide +kernel
theorem dX7_scanOne_28 : decode cX7_scanOne 28 = .ok (.iastore, 1) := by decide +kernel
theorem dX7_scanOne_29 : decode cX7_scanOne 29 = .ok (.iload_n 2, 1) := by decide +kernel
theorem dX7_scanOne_30 : decode cX7_scanOne 30 = .ok (.ireturn, 1) := by decide +kernel
theorem dX7_scanOne_31 : decode cX7_scanOne 31 = .ok (.aload_n 1, 1) := by decide +kernel
theorem dX7_scanOne_32 : decode cX7_scanOne 32 = .ok (.getfield 54, 3) := by decide +kernel
theorem dX7_scanOne_35 : decode cX7_scanOne 35 = .ok (.iload_n 2, 1) := by decide +kernel
theorem dX7_scanOne_36 : decode cX7_scanOne 36 = .ok (.baload, 1) := by decide +kernel
theorem dX7_scanOne_37 : decode cX7_scanOne 37 = .ok (.istore 4, 2) := by decide +kernel
theorem dX7_scanOne_39 : decode cX7_scanOne 39 = .ok (.iload 4, 2) := by decide +kernel
theorem dX7_scanOne_41 : decode cX7_scanOne 41 = .ok (.invokestatic 58, 3) := by decide +kernel
theorem dX7_scanOne_44 : decode cX7_scanOne 44 = .ok (.ifCond .eq 11, 3) := by decide +kernel
theorem dX7_scanOne_47 : decode cX7_scanOne 47 = .ok (.aload_n 0, 1) := by decide +kernel
theorem dX7_scanOne_48 : decode cX7_scanOne 48 = .ok (.aload_n 1, 1) := by decide +kernel
theorem dX7_scanOne_49 : decode cX7_scanOne 49 = .ok (.iload_n 2, 1) := by decide +kernel
theorem dX7_scanOne_50 : decode cX7_scanOne 50 = .ok (.iload_n 3, 1) := by decide +kernel
theorem dX7_scanOne_51 : decode cX7_scanOne 51 = .ok (.invokevirtual 62, 3) := by decide +kernel
theorem dX7_scanOne_54 : decode cX7_scanOne 54 = .ok (.ireturn, 1) := by decide +kernel
theorem dX7_scanOne_55 : decode cX7_scanOne 55 = .ok (.iload 4, 2) := by decide +kernel
theorem dX7_scanOne_57 : decode cX7_scanOne 57 = .ok (.invokestatic 65, 3) := by decide +kernel
theorem dX7_scanOne_60 : decode cX7_scanOne 60 = .ok (.ifCond .eq 11, 3) := by decide +kernel
theorem dX7_scanOne_63 : decode cX7_scanOne 63 = .ok (.aload_n 0, 1) := by decide +kernel
theorem dX7_scanOne_64 : decode cX7_scanOne 64 = .ok (.aload_n 1, 1) := by decide +kernel
theorem dX7_scanOne_65 : decode cX7_scanOne 65 = .ok (.iload_n 2, 1) := by decide +kernel
theorem dX7_scanOne_66 : decode cX7_scanOne 66 = .ok (.iload_n 3, 1) := by decide +kernel
theorem dX7_scanOne_67 : decode cX7_scanOne 67 = .ok (.invokevirtual 68, 3) := by decide +kernel
theorem dX7_scanOne_70 : decode cX7_scanOne 70 = .ok (.ireturn, 1) := by decide +kernel
theorem dX7_scanOne_71 : decode cX7_scanOne 71 = .ok (.aload_n 0, 1) := by decide +kernel
theorem dX7_scanOne_72 : decode cX7_scanOne 72 = .ok (.getfield 11, 3) := by decide +kernel
theorem dX7_scanOne_75 : decode cX7_scanOne 75 = .ok (.iload_n 3, 1) := by decide +kernel
theorem dX7_scanOne_76 : decode cX7_scanOne 76 = .ok (.iload 4, 2) := by decide +kernel
theorem dX7_scanOne_78 : decode cX7_scanOne 78 = .ok (.invokestatic 71, 3) := by decide +kernel
theorem dX7_scanOne_81 : decode cX7_scanOne 81 = .ok (.ifCond .eq 8, 3) := by decide +kernel
theorem dX7_scanOne_84 : decode cX7_scanOne 84 = .ok (.iload 4, 2) := by decide +kernel
theorem dX7_scanOne_86 : decode cX7_scanOne 86 = .ok (.goto 4, 3) := by decide +kernel
theorem dX7_scanOne_89 : decode cX7_scanOne 89 = .ok (.iconst 1, 1) := by decide +kernel
theorem dX7_scanOne_90 : decode cX7_scanOne 90 = .ok (.iastore, 1) := by decide +kernel
theorem dX7_scanOne_91 : decode cX7_scanOne 91 = .ok (.iload_n 2, 1) := by decide +kernel
theorem dX7_scanOne_92 : decode cX7_scanOne 92 = .ok (.iconst 1, 1) := by decide +kernel
theorem dX7_scanOne_93 : decode cX7_scanOne 93 = .ok (.iadd, 1) := by decide +kernel
theorem dX7_scanOne_94 : decode cX7_scanOne 94 = .ok (.ireturn, 1) := by decide +kernel
theorem dX7_scanLetters_0 : decode cX7_scanLetters 0 = .ok (.iload_n 2, 1) := by decide +kernel
theorem dX7_scanLetters_1 : decode cX7_scanLetters 1 = .ok (.istore 4, 2) := by decide +kernel
theorem dX7_scanLetters_3 : decode cX7_scanLetters 3 = .ok (.lconst 0, 1) := by decide +kernel
theorem dX7_scanLetters_4 : decode cX7_scanLetters 4 = .ok (.lstore 5, 2) := by decide +kernel
theorem dX7_scanLetters_6 : decode cX7_scanLetters 6 = .ok (.iload 4, 2) := by decide +kernel
theorem dX7_scanLetters_8 : decode cX7_scanLetters 8 = .ok (.aload_n 1, 1) := by decide +kernel
theorem dX7_scanLetters_9 : decode cX7_scanLetters 9 = .ok (.getfield 49, 3) := by decide +kernel
theorem dX7_scanLetters_12 : decode cX7_scanLetters 12 = .ok (.if_icmp .ge 36, 3) := by decide +kernel
theorem dX7_scanLetters_15 : decode cX7_scanLetters 15 = .ok (.aload_n 1, 1) := by decide +kernel
theorem dX7_scanLetters_16 : decode cX7_scanLetters 16 = .ok (.getfield 54, 3) := by decide +kernel
theorem dX7_scanLetters_19 : decode cX7_scanLetters 19 = .ok (.iload 4, 2) := by decide +kernel
theorem dX7_scanLetters_21 : decode cX7_scanLetters 21 = .ok (.baload, 1) := by decide +kernel
theorem dX7_scanLetters_22 : decode cX7_scanLetters 22 = .ok (.invokestatic 58, 3) := by decide +kernel
theorem dX7_scanLetters_25 : decode cX7_scanLetters 25 = .ok (.ifCond .eq 23, 3) := by decide +kernel
theorem dX7_scanLetters_28 : decode cX7_scanLetters 28 = .ok (.lload 5, 2) := by decide +kernel
theorem dX7_scanLetters_30 : decode cX7_scanLetters 30 = .ok (.aload_n 1, 1) := by decide +kernel
theorem dX7_scanLetters_31 : decode cX7_scanLetters 31 = .ok (.getfield 54, 3) := by decide +kernel
theorem dX7_scanLetters_34 : decode cX7_scanLetters 34 = .ok (.iload 4, 2) := by decide +kernel
theorem dX7_scanLetters_36 : decode cX7_scanLetters 36 = .ok (.baload, 1) := by decide +kernel
theorem dX7_scanLetters_37 : decode cX7_scanLetters 37 = .ok (.invokestatic 37, 3) := by decide +kernel
theorem dX7_scanLetters_40 : decode cX7_scanLetters 40 = .ok (.lstore 5, 2) := by decide +kernel
theorem dX7_scanLetters_42 : decode cX7_scanLetters 42 = .ok (.iinc 4 1, 3) := by decide +kernel
theorem dX7_scanLetters_45 : decode cX7_scanLetters 45 = .ok (.goto (-39), 3) := by decide +kernel
theorem dX7_scanLetters_48 : decode cX7_scanLetters 48 = .ok (.aload_n 0, 1) := by decide +kernel
theorem dX7_scanLetters_49 : decode cX7_scanLetters 49 = .ok (.getfield 18, 3) := by decide +kernel
theorem dX7_scanLetters_52 : decode cX7_scanLetters 52 = .ok (.iload_n 3, 1) := by decide +kernel
theorem dX7_scanLetters_53 : decode cX7_scanLetters 53 = .ok (.lload 5, 2) := by decide +kernel
theorem dX7_scanLetters_55 : decode cX7_scanLetters 55 = .ok (.lastore, 1) := by decide +kernel
theorem dX7_scanLetters_56 : decode cX7_scanLetters 56 = .ok (.aload_n 0, 1) := by decide +kernel
theorem dX7_scanLetters_57 : decode cX7_scanLetters 57 = .ok (.getfield 11, 3) := by decide +kernel
theorem dX7_scanLetters_60 : decode cX7_scanLetters 60 = .ok (.iload_n 3, 1) := by decide +kernel
theorem dX7_scanLetters_61 : decode cX7_scanLetters 61 = .ok (.iload 4, 2) := by decide +kernel
theorem dX7_scanLetters_63 : decode cX7_scanLetters 63 = .ok (.iload_n 2, 1) := by decide +kernel
theorem dX7_scanLetters_64 : decode cX7_scanLetters 64 = .ok (.isub, 1) := by decide +kernel
theorem dX7_scanLetters_65 : decode cX7_scanLetters 65 = .ok (.bipush 8, 2) := by decide +kernel
theorem dX7_scanLetters_67 : decode cX7_scanLetters 67 = .ok (.if_icmp .le 7, 3) := by decide +kernel
theorem dX7_scanLetters_70 : decode cX7_scanLetters 70 = .ok (.iconst 1, 1) := by decide +kernel
theorem dX7_scanLetters_71 : decode cX7_scanLetters 71 = .ok (.goto 9, 3) := by decide +kernel
theorem dX7_scanLetters_74 : decode cX7_scanLetters 74 = .ok (.aload_n 0, 1) := by decide +kernel
theorem dX7_scanLetters_75 : decode cX7_scanLetters 75 = .ok (.lload 5, 2) := by decide +kernel
theorem dX7_scanLetters_77 : decode cX7_scanLetters 77 = .ok (.invokevirtual 74, 3) := by decide +kernel
theorem dX7_scanLetters_80 : decode cX7_scanLetters 80 = .ok (.iastore, 1) := by decide +kernel
theorem dX7_scanLetters_81 : decode cX7_scanLetters 81 = .ok (.iload 4, 2) := by decide +kernel
theorem dX7_scanLetters_83 : decode cX7_scanLetters 83 = .ok (.ireturn, 1) := by decide +kernel
theorem dX7_scanDigits_0 : decode cX7_scanDigits 0 = .ok (.iload_n 2, 1) := by decide +kernel
theorem dX7_scanDigits_1 : decode cX7_scanDigits 1 = .ok (.istore 4, 2) := by decide +kernel
theorem dX7_scanDigits_3 : decode cX7_scanDigits 3 = .ok (.lconst 0, 1) := by decide +kernel
theorem dX7_scanDigits_4 : decode cX7_scanDigits 4 = .ok (.lstore 5, 2) := by decide +kernel
theorem dX7_scanDigits_6 : decode cX7_scanDigits 6 = .ok (.iload 4, 2) := by decide +kernel
theorem dX7_scanDigits_8 : decode cX7_scanDigits 8 = .ok (.aload_n 1, 1) := by decide +kernel
theorem dX7_scanDigits_9 : decode cX7_scanDigits 9 = .ok (.getfield 49, 3) := by decide +kernel
theorem dX7_scanDigits_12 : decode cX7_scanDigits 12 = .ok (.if_icmp .ge 42, 3) := by decide +kernel
theorem dX7_scanDigits_15 : decode cX7_scanDigits 15 = .ok (.aload_n 1, 1) := by decide +kernel
theorem dX7_scanDigits_16 : decode cX7_scanDigits 16 = .ok (.getfield 54, 3) := by decide +kernel
theorem dX7_scanDigits_19 : decode cX7_scanDigits 19 = .ok (.iload 4, 2) := by decide +kernel
theorem dX7_scanDigits_21 : decode cX7_scanDigits 21 = .ok (.baload, 1) := by decide +kernel
theorem dX7_scanDigits_22 : decode cX7_scanDigits 22 = .ok (.invokestatic 65, 3) := by decide +kernel
theorem dX7_scanDigits_25 : decode cX7_scanDigits 25 = .ok (.ifCond .eq 29, 3) := by decide +kernel
theorem dX7_scanDigits_28 : decode cX7_scanDigits 28 = .ok (.lload 5, 2) := by decide +kernel
theorem dX7_scanDigits_30 : decode cX7_scanDigits 30 = .ok (.ldc2_w 78, 3) := by decide +kernel
theorem dX7_scanDigits_33 : decode cX7_scanDigits 33 = .ok (.lmul, 1) := by decide +kernel
theorem dX7_scanDigits_34 : decode cX7_scanDigits 34 = .ok (.aload_n 1, 1) := by decide +kernel
theorem dX7_scanDigits_35 : decode cX7_scanDigits 35 = .ok (.getfield 54, 3) := by decide +kernel
theorem dX7_scanDigits_38 : decode cX7_scanDigits 38 = .ok (.iload 4, 2) := by decide +kernel
theorem dX7_scanDigits_40 : decode cX7_scanDigits 40 = .ok (.baload, 1) := by decide +kernel
theorem dX7_scanDigits_41 : decode cX7_scanDigits 41 = .ok (.bipush 48, 2) := by decide +kernel
theorem dX7_scanDigits_43 : decode cX7_scanDigits 43 = .ok (.isub, 1) := by decide +kernel
theorem dX7_scanDigits_44 : decode cX7_scanDigits 44 = .ok (.i2l, 1) := by decide +kernel
theorem dX7_scanDigits_45 : decode cX7_scanDigits 45 = .ok (.ladd, 1) := by decide +kernel
theorem dX7_scanDigits_46 : decode cX7_scanDigits 46 = .ok (.lstore 5, 2) := by decide +kernel
theorem dX7_scanDigits_48 : decode cX7_scanDigits 48 = .ok (.iinc 4 1, 3) := by decide +kernel
theorem dX7_scanDigits_51 : decode cX7_scanDigits 51 = .ok (.goto (-45), 3) := by decide +kernel
theorem dX7_scanDigits_54 : decode cX7_scanDigits 54 = .ok (.aload_n 0, 1) := by decide +kernel
theorem dX7_scanDigits_55 : decode cX7_scanDigits 55 = .ok (.getfield 18, 3) := by decide +kernel
theorem dX7_scanDigits_58 : decode cX7_scanDigits 58 = .ok (.iload_n 3, 1) := by decide +kernel
theorem dX7_scanDigits_59 : decode cX7_scanDigits 59 = .ok (.lload 5, 2) := by decide +kernel
theorem dX7_scanDigits_61 : decode cX7_scanDigits 61 = .ok (.lastore, 1) := by decide +kernel
theorem dX7_scanDigits_62 : decode cX7_scanDigits 62 = .ok (.aload_n 0, 1) := by decide +kernel
theorem dX7_scanDigits_63 : decode cX7_scanDigits 63 = .ok (.getfield 11, 3) := by decide +kernel
theorem dX7_scanDigits_66 : decode cX7_scanDigits 66 = .ok (.iload_n 3, 1) := by decide +kernel
theorem dX7_scanDigits_67 : decode cX7_scanDigits 67 = .ok (.iload 4, 2) := by decide +kernel
theorem dX7_scanDigits_69 : decode cX7_scanDigits 69 = .ok (.iload_n 2, 1) := by decide +kernel
theorem dX7_scanDigits_70 : decode cX7_scanDigits 70 = .ok (.isub, 1) := by decide +kernel
theorem dX7_scanDigits_71 : decode cX7_scanDigits 71 = .ok (.iconst 4, 1) := by decide +kernel
theorem dX7_scanDigits_72 : decode cX7_scanDigits 72 = .ok (.if_icmp .le 7, 3) := by decide +kernel
theorem dX7_scanDigits_75 : decode cX7_scanDigits 75 = .ok (.iconst 1, 1) := by decide +kernel
theorem dX7_scanDigits_76 : decode cX7_scanDigits 76 = .ok (.goto 4, 3) := by decide +kernel
theorem dX7_scanDigits_79 : decode cX7_scanDigits 79 = .ok (.iconst 3, 1) := by decide +kernel
theorem dX7_scanDigits_80 : decode cX7_scanDigits 80 = .ok (.iastore, 1) := by decide +kernel
theorem dX7_scanDigits_81 : decode cX7_scanDigits 81 = .ok (.iload 4, 2) := by decide +kernel
theorem dX7_scanDigits_83 : decode cX7_scanDigits 83 = .ok (.ireturn, 1) := by decide +kernel
theorem dX7_kindOf_0 : decode cX7_kindOf 0 = .ok (.iconst 0, 1) := by decide +kernel
theorem dX7_kindOf_1 : decode cX7_kindOf 1 = .ok (.istore_n 3, 1) := by decide +kernel
theorem dX7_kindOf_2 : decode cX7_kindOf 2 = .ok (.iload_n 3, 1) := by decide +kernel
theorem dX7_kindOf_3 : decode cX7_kindOf 3 = .ok (.bipush 23, 2) := by decide +kernel
theorem dX7_kindOf_5 : decode cX7_kindOf 5 = .ok (.if_icmp .ge 26, 3) := by decide +kernel
theorem dX7_kindOf_8 : decode cX7_kindOf 8 = .ok (.aload_n 0, 1) := by decide +kernel
theorem dX7_kindOf_9 : decode cX7_kindOf 9 = .ok (.getfield 22, 3) := by decide +kernel
theorem dX7_kindOf_12 : decode cX7_kindOf 12 = .ok (.iload_n 3, 1) := by decide +kernel
theorem dX7_kindOf_13 : decode cX7_kindOf 13 = .ok (.laload, 1) := by decide +kernel
theorem dX7_kindOf_14 : decode cX7_kindOf 14 = .ok (.lload_n 1, 1) := by decide +kernel
theorem dX7_kindOf_15 : decode cX7_kindOf 15 = .ok (.lcmp, 1) := by decide +kernel
theorem dX7_kindOf_16 : decode cX7_kindOf 16 = .ok (.ifCond .ne 9, 3) := by decide +kernel
theorem dX7_kindOf_19 : decode cX7_kindOf 19 = .ok (.sipush 128, 3) := by decide +kernel
theorem dX7_kindOf_22 : decode cX7_kindOf 22 = .ok (.iload_n 3, 1) := by decide +kernel
theorem dX7_kindOf_23 : decode cX7_kindOf 23 = .ok (.iadd, 1) := by decide +kernel
theorem dX7_kindOf_24 : decode cX7_kindOf 24 = .ok (.ireturn, 1) := by decide +kernel
theorem dX7_kindOf_25 : decode cX7_kindOf 25 = .ok (.iinc 3 1, 3) := by decide +kernel
theorem dX7_kindOf_28 : decode cX7_kindOf 28 = .ok (.goto (-26), 3) := by decide +kernel
theorem dX7_kindOf_31 : decode cX7_kindOf 31 = .ok (.iconst 2, 1) := by decide +kernel
theorem dX7_kindOf_32 : decode cX7_kindOf 32 = .ok (.ireturn, 1) := by decide +kernel
theorem dX7_afterBlanks_0 : decode cX7_afterBlanks 0 = .ok (.iload_n 1, 1) := by decide +kernel
theorem dX7_afterBlanks_1 : decode cX7_afterBlanks 1 = .ok (.istore_n 2, 1) := by decide +kernel
theorem dX7_afterBlanks_2 : decode cX7_afterBlanks 2 = .ok (.iload_n 2, 1) := by decide +kernel
theorem dX7_afterBlanks_3 : decode cX7_afterBlanks 3 = .ok (.aload_n 0, 1) := by decide +kernel
theorem dX7_afterBlanks_4 : decode cX7_afterBlanks 4 = .ok (.getfield 49, 3) := by decide +kernel
theorem dX7_afterBlanks_7 : decode cX7_afterBlanks 7 = .ok (.if_icmp .ge 21, 3) := by decide +kernel
theorem dX7_afterBlanks_10 : decode cX7_afterBlanks 10 = .ok (.aload_n 0, 1) := by decide +kernel
theorem dX7_afterBlanks_11 : decode cX7_afterBlanks 11 = .ok (.getfield 54, 3) := by decide +kernel
theorem dX7_afterBlanks_14 : decode cX7_afterBlanks 14 = .ok (.iload_n 2, 1) := by decide +kernel
theorem dX7_afterBlanks_15 : decode cX7_afterBlanks 15 = .ok (.baload, 1) := by decide +kernel
theorem dX7_afterBlanks_16 : decode cX7_afterBlanks 16 = .ok (.invokestatic 80, 3) := by decide +kernel
theorem dX7_afterBlanks_19 : decode cX7_afterBlanks 19 = .ok (.ifCond .eq 9, 3) := by decide +kernel
theorem dX7_afterBlanks_22 : decode cX7_afterBlanks 22 = .ok (.iinc 2 1, 3) := by decide +kernel
theorem dX7_afterBlanks_25 : decode cX7_afterBlanks 25 = .ok (.goto (-23), 3) := by decide +kernel
theorem dX7_afterBlanks_28 : decode cX7_afterBlanks 28 = .ok (.iload_n 2, 1) := by decide +kernel
theorem dX7_afterBlanks_29 : decode cX7_afterBlanks 29 = .ok (.ireturn, 1) := by decide +kernel
theorem dX7_withLetter_0 : decode cX7_withLetter 0 = .ok (.lload_n 0, 1) := by decide +kernel
theorem dX7_withLetter_1 : decode cX7_withLetter 1 = .ok (.ldc2_w 83, 3) := by decide +kernel
theorem dX7_withLetter_4 : decode cX7_withLetter 4 = .ok (.lmul, 1) := by decide +kernel
theorem dX7_withLetter_5 : decode cX7_withLetter 5 = .ok (.iload_n 2, 1) := by decide +kernel
theorem dX7_withLetter_6 : decode cX7_withLetter 6 = .ok (.bipush 97, 2) := by decide +kernel
theorem dX7_withLetter_8 : decode cX7_withLetter 8 = .ok (.isub, 1) := by decide +kernel
theorem dX7_withLetter_9 : decode cX7_withLetter 9 = .ok (.iconst 1, 1) := by decide +kernel
theorem dX7_withLetter_10 : decode cX7_withLetter 10 = .ok (.iadd, 1) := by decide +kernel
theorem dX7_withLetter_11 : decode cX7_withLetter 11 = .ok (.i2l, 1) := by decide +kernel
theorem dX7_withLetter_12 : decode cX7_withLetter 12 = .ok (.ladd, 1) := by decide +kernel
theorem dX7_withLetter_13 : decode cX7_withLetter 13 = .ok (.lreturn, 1) := by decide +kernel
theorem dX7_isBlank_0 : decode cX7_isBlank 0 = .ok (.iload_n 0, 1) := by decide +kernel
theorem dX7_isBlank_1 : decode cX7_isBlank 1 = .ok (.bipush 32, 2) := by decide +kernel
theorem dX7_isBlank_3 : decode cX7_isBlank 3 = .ok (.if_icmp .eq 21, 3) := by decide +kernel
theorem dX7_isBlank_6 : decode cX7_isBlank 6 = .ok (.iload_n 0, 1) := by decide +kernel
theorem dX7_isBlank_7 : decode cX7_isBlank 7 = .ok (.bipush 9, 2) := by decide +kernel
theorem dX7_isBlank_9 : decode cX7_isBlank 9 = .ok (.if_icmp .eq 15, 3) := by decide +kernel
theorem dX7_isBlank_12 : decode cX7_isBlank 12 = .ok (.iload_n 0, 1) := by decide +kernel
theorem dX7_isBlank_13 : decode cX7_isBlank 13 = .ok (.bipush 10, 2) := by decide +kernel
theorem dX7_isBlank_15 : decode cX7_isBlank 15 = .ok (.if_icmp .eq 9, 3) := by decide +kernel
theorem dX7_isBlank_18 : decode cX7_isBlank 18 = .ok (.iload_n 0, 1) := by decide +kernel
theorem dX7_isBlank_19 : decode cX7_isBlank 19 = .ok (.bipush 13, 2) := by decide +kernel
theorem dX7_isBlank_21 : decode cX7_isBlank 21 = .ok (.if_icmp .ne 7, 3) := by decide +kernel
theorem dX7_isBlank_24 : decode cX7_isBlank 24 = .ok (.iconst 1, 1) := by decide +kernel
theorem dX7_isBlank_25 : decode cX7_isBlank 25 = .ok (.goto 4, 3) := by decide +kernel
theorem dX7_isBlank_28 : decode cX7_isBlank 28 = .ok (.iconst 0, 1) := by decide +kernel
theorem dX7_isBlank_29 : decode cX7_isBlank 29 = .ok (.ireturn, 1) := by decide +kernel
theorem dX7_isLetter_0 : decode cX7_isLetter 0 = .ok (.iload_n 0, 1) := by decide +kernel
theorem dX7_isLetter_1 : decode cX7_isLetter 1 = .ok (.bipush 97, 2) := by decide +kernel
theorem dX7_isLetter_3 : decode cX7_isLetter 3 = .ok (.if_icmp .lt 13, 3) := by decide +kernel
theorem dX7_isLetter_6 : decode cX7_isLetter 6 = .ok (.iload_n 0, 1) := by decide +kernel
theorem dX7_isLetter_7 : decode cX7_isLetter 7 = .ok (.bipush 122, 2) := by decide +kernel
theorem dX7_isLetter_9 : decode cX7_isLetter 9 = .ok (.if_icmp .gt 7, 3) := by decide +kernel
theorem dX7_isLetter_12 : decode cX7_isLetter 12 = .ok (.iconst 1, 1) := by decide +kernel
theorem dX7_isLetter_13 : decode cX7_isLetter 13 = .ok (.goto 4, 3) := by decide +kernel
theorem dX7_isLetter_16 : decode cX7_isLetter 16 = .ok (.iconst 0, 1) := by decide +kernel
theorem dX7_isLetter_17 : decode cX7_isLetter 17 = .ok (.ireturn, 1) := by decide +kernel
theorem dX7_isDigit_0 : decode cX7_isDigit 0 = .ok (.iload_n 0, 1) := by decide +kernel
theorem dX7_isDigit_1 : decode cX7_isDigit 1 = .ok (.bipush 48, 2) := by decide +kernel
theorem dX7_isDigit_3 : decode cX7_isDigit 3 = .ok (.if_icmp .lt 13, 3) := by decide +kernel
theorem dX7_isDigit_6 : decode cX7_isDigit 6 = .ok (.iload_n 0, 1) := by decide +kernel
theorem dX7_isDigit_7 : decode cX7_isDigit 7 = .ok (.bipush 57, 2) := by decide +kernel
theorem dX7_isDigit_9 : decode cX7_isDigit 9 = .ok (.if_icmp .gt 7, 3) := by decide +kernel
theorem dX7_isDigit_12 : decode cX7_isDigit 12 = .ok (.iconst 1, 1) := by decide +kernel
theorem dX7_isDigit_13 : decode cX7_isDigit 13 = .ok (.goto 4, 3) := by decide +kernel
theorem dX7_isDigit_16 : decode cX7_isDigit 16 = .ok (.iconst 0, 1) := by decide +kernel
theorem dX7_isDigit_17 : decode cX7_isDigit 17 = .ok (.ireturn, 1) := by decide +kernel
theorem dX7_isSign_0 : decode cX7_isSign 0 = .ok (.iload_n 0, 1) := by decide +kernel
theorem dX7_isSign_1 : decode cX7_isSign 1 = .ok (.tableswitch 105 40 61 #[103, 103, 103, 103, 105, 103, 105, 103, 105, 105, 105, 105, 105, 105, 105, 105, 105, 105, 105, 103, 103, 103], 103) := by decide +kernel
theorem dX7_isSign_104 : decode cX7_isSign 104 = .ok (.iconst 1, 1) := by decide +kernel
theorem dX7_isSign_105 : decode cX7_isSign 105 = .ok (.ireturn, 1) := by decide +kernel
theorem dX7_isSign_106 : decode cX7_isSign 106 = .ok (.iconst 0, 1) := by decide +kernel
theorem dX7_isSign_107 : decode cX7_isSign 107 = .ok (.ireturn, 1) := by decide +kernel
