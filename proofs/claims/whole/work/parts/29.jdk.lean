theorem dJI_bitCount_0 : decode mJI_bitCount.2.1 0 = .ok (.iload_n 0, 1) := by decide +kernel
theorem dJI_bitCount_1 : decode mJI_bitCount.2.1 1 = .ok (.iload_n 0, 1) := by decide +kernel
theorem dJI_bitCount_2 : decode mJI_bitCount.2.1 2 = .ok (.iconst 1, 1) := by decide +kernel
theorem dJI_bitCount_3 : decode mJI_bitCount.2.1 3 = .ok (.iushr, 1) := by decide +kernel
theorem dJI_bitCount_4 : decode mJI_bitCount.2.1 4 = .ok (.ldc_w 265, 3) := by decide +kernel
theorem dJI_bitCount_7 : decode mJI_bitCount.2.1 7 = .ok (.iand, 1) := by decide +kernel
theorem dJI_bitCount_8 : decode mJI_bitCount.2.1 8 = .ok (.isub, 1) := by decide +kernel
theorem dJI_bitCount_9 : decode mJI_bitCount.2.1 9 = .ok (.istore_n 0, 1) := by decide +kernel
theorem dJI_bitCount_10 : decode mJI_bitCount.2.1 10 = .ok (.iload_n 0, 1) := by decide +kernel
theorem dJI_bitCount_11 : decode mJI_bitCount.2.1 11 = .ok (.ldc_w 266, 3) := by decide +kernel
theorem dJI_bitCount_14 : decode mJI_bitCount.2.1 14 = .ok (.iand, 1) := by decide +kernel
theorem dJI_bitCount_15 : decode mJI_bitCount.2.1 15 = .ok (.iload_n 0, 1) := by decide +kernel
theorem dJI_bitCount_16 : decode mJI_bitCount.2.1 16 = .ok (.iconst 2, 1) := by decide +kernel
theorem dJI_bitCount_17 : decode mJI_bitCount.2.1 17 = .ok (.iushr, 1) := by decide +kernel
theorem dJI_bitCount_18 : decode mJI_bitCount.2.1 18 = .ok (.ldc_w 266, 3) := by decide +kernel
theorem dJI_bitCount_21 : decode mJI_bitCount.2.1 21 = .ok (.iand, 1) := by decide +kernel
theorem dJI_bitCount_22 : decode mJI_bitCount.2.1 22 = .ok (.iadd, 1) := by decide +kernel
theorem dJI_bitCount_23 : decode mJI_bitCount.2.1 23 = .ok (.istore_n 0, 1) := by decide +kernel
theorem dJI_bitCount_24 : decode mJI_bitCount.2.1 24 = .ok (.iload_n 0, 1) := by decide +kernel
theorem dJI_bitCount_25 : decode mJI_bitCount.2.1 25 = .ok (.iload_n 0, 1) := by decide +kernel
theorem dJI_bitCount_26 : decode mJI_bitCount.2.1 26 = .ok (.iconst 4, 1) := by decide +kernel
theorem dJI_bitCount_27 : decode mJI_bitCount.2.1 27 = .ok (.iushr, 1) := by decide +kernel
theorem dJI_bitCount_28 : decode mJI_bitCount.2.1 28 = .ok (.iadd, 1) := by decide +kernel
theorem dJI_bitCount_29 : decode mJI_bitCount.2.1 29 = .ok (.ldc_w 267, 3) := by decide +kernel
theorem dJI_bitCount_32 : decode mJI_bitCount.2.1 32 = .ok (.iand, 1) := by decide +kernel
theorem dJI_bitCount_33 : decode mJI_bitCount.2.1 33 = .ok (.istore_n 0, 1) := by decide +kernel
theorem dJI_bitCount_34 : decode mJI_bitCount.2.1 34 = .ok (.iload_n 0, 1) := by decide +kernel
theorem dJI_bitCount_35 : decode mJI_bitCount.2.1 35 = .ok (.iload_n 0, 1) := by decide +kernel
theorem dJI_bitCount_36 : decode mJI_bitCount.2.1 36 = .ok (.bipush 8, 2) := by decide +kernel
theorem dJI_bitCount_38 : decode mJI_bitCount.2.1 38 = .ok (.iushr, 1) := by decide +kernel
theorem dJI_bitCount_39 : decode mJI_bitCount.2.1 39 = .ok (.iadd, 1) := by decide +kernel
theorem dJI_bitCount_40 : decode mJI_bitCount.2.1 40 = .ok (.istore_n 0, 1) := by decide +kernel
theorem dJI_bitCount_41 : decode mJI_bitCount.2.1 41 = .ok (.iload_n 0, 1) := by decide +kernel
theorem dJI_bitCount_42 : decode mJI_bitCount.2.1 42 = .ok (.iload_n 0, 1) := by decide +kernel
theorem dJI_bitCount_43 : decode mJI_bitCount.2.1 43 = .ok (.bipush 16, 2) := by decide +kernel
theorem dJI_bitCount_45 : decode mJI_bitCount.2.1 45 = .ok (.iushr, 1) := by decide +kernel
theorem dJI_bitCount_46 : decode mJI_bitCount.2.1 46 = .ok (.iadd, 1) := by decide +kernel
theorem dJI_bitCount_47 : decode mJI_bitCount.2.1 47 = .ok (.istore_n 0, 1) := by decide +kernel
theorem dJI_bitCount_48 : decode mJI_bitCount.2.1 48 = .ok (.iload_n 0, 1) := by decide +kernel
theorem dJI_bitCount_49 : decode mJI_bitCount.2.1 49 = .ok (.bipush 63, 2) := by decide +kernel
theorem dJI_bitCount_51 : decode mJI_bitCount.2.1 51 = .ok (.iand, 1) := by decide +kernel
theorem dJI_bitCount_52 : decode mJI_bitCount.2.1 52 = .ok (.ireturn, 1) := by decide +kernel
theorem dJA_fill_II_0 : decode mJA_fill_II.2.1 0 = .ok (.iconst 0, 1) := by decide +kernel
theorem dJA_fill_II_1 : decode mJA_fill_II.2.1 1 = .ok (.istore_n 2, 1) := by decide +kernel
theorem dJA_fill_II_2 : decode mJA_fill_II.2.1 2 = .ok (.aload_n 0, 1) := by decide +kernel
theorem dJA_fill_II_3 : decode mJA_fill_II.2.1 3 = .ok (.arraylength, 1) := by decide +kernel
theorem dJA_fill_II_4 : decode mJA_fill_II.2.1 4 = .ok (.istore_n 3, 1) := by decide +kernel
theorem dJA_fill_II_5 : decode mJA_fill_II.2.1 5 = .ok (.iload_n 2, 1) := by decide +kernel
theorem dJA_fill_II_6 : decode mJA_fill_II.2.1 6 = .ok (.iload_n 3, 1) := by decide +kernel
theorem dJA_fill_II_7 : decode mJA_fill_II.2.1 7 = .ok (.if_icmp .ge 13, 3) := by decide +kernel
theorem dJA_fill_II_10 : decode mJA_fill_II.2.1 10 = .ok (.aload_n 0, 1) := by decide +kernel
theorem dJA_fill_II_11 : decode mJA_fill_II.2.1 11 = .ok (.iload_n 2, 1) := by decide +kernel
theorem dJA_fill_II_12 : decode mJA_fill_II.2.1 12 = .ok (.iload_n 1, 1) := by decide +kernel
theorem dJA_fill_II_13 : decode mJA_fill_II.2.1 13 = .ok (.iastore, 1) := by decide +kernel
theorem dJA_fill_II_14 : decode mJA_fill_II.2.1 14 = .ok (.iinc 2 1, 3) := by decide +kernel
theorem dJA_fill_II_17 : decode mJA_fill_II.2.1 17 = .ok (.goto (-12), 3) := by decide +kernel
theorem dJA_fill_II_20 : decode mJA_fill_II.2.1 20 = .ok (.return_, 1) := by decide +kernel
theorem dJA_fill_JJ_0 : decode mJA_fill_JJ.2.1 0 = .ok (.iconst 0, 1) := by decide +kernel
theorem dJA_fill_JJ_1 : decode mJA_fill_JJ.2.1 1 = .ok (.istore_n 3, 1) := by decide +kernel
theorem dJA_fill_JJ_2 : decode mJA_fill_JJ.2.1 2 = .ok (.aload_n 0, 1) := by decide +kernel
theorem dJA_fill_JJ_3 : decode mJA_fill_JJ.2.1 3 = .ok (.arraylength, 1) := by decide +kernel
theorem dJA_fill_JJ_4 : decode mJA_fill_JJ.2.1 4 = .ok (.istore 4, 2) := by decide +kernel
theorem dJA_fill_JJ_6 : decode mJA_fill_JJ.2.1 6 = .ok (.iload_n 3, 1) := by decide +kernel
theorem dJA_fill_JJ_7 : decode mJA_fill_JJ.2.1 7 = .ok (.iload 4, 2) := by decide +kernel
theorem dJA_fill_JJ_9 : decode mJA_fill_JJ.2.1 9 = .ok (.if_icmp .ge 13, 3) := by decide +kernel
theorem dJA_fill_JJ_12 : decode mJA_fill_JJ.2.1 12 = .ok (.aload_n 0, 1) := by decide +kernel
theorem dJA_fill_JJ_13 : decode mJA_fill_JJ.2.1 13 = .ok (.iload_n 3, 1) := by decide +kernel
theorem dJA_fill_JJ_14 : decode mJA_fill_JJ.2.1 14 = .ok (.lload_n 1, 1) := by decide +kernel
theorem dJA_fill_JJ_15 : decode mJA_fill_JJ.2.1 15 = .ok (.lastore, 1) := by decide +kernel
theorem dJA_fill_JJ_16 : decode mJA_fill_JJ.2.1 16 = .ok (.iinc 3 1, 3) := by decide +kernel
theorem dJA_fill_JJ_19 : decode mJA_fill_JJ.2.1 19 = .ok (.goto (-13), 3) := by decide +kernel
theorem dJA_fill_JJ_22 : decode mJA_fill_JJ.2.1 22 = .ok (.return_, 1) := by decide +kernel
theorem b_JA_fill_II_0 {l : Launch} {G : jG} {μ : jM} {φ : jM → Prop} {x1 : Int32} {c cN : Nat} (hG : gGG G) (hP : gPP μ) (hgc : G[c]? = some (0, cN)) 
    (k0 : J l mJA_fill_II (jZ0 0 G (pV φ)) G 0 0 5 [.ref c, .int x1, .int 0, .int (Int32.ofNat cN)] [] μ) :
    J l mJA_fill_II (jZ0 0 G (pV φ)) G 0 0 0 [.ref c, .int x1, .null, .null] [] μ := by
  refine j_iconst 0 dJA_fill_II_0 rfl (by decide) ?_
  refine j_istore_n (ls' := [.ref c, .int x1, .int 0, .null]) dJA_fill_II_1 rfl rfl (Nat.le_of_ble_eq_true rfl) rfl ?_
  refine j_aload_n dJA_fill_II_2 rfl rfl ?_
  refine j_alen (Int32.ofNat cN) dJA_fill_II_3 rfl hgc (by decide) rfl ?_
  refine j_istore_n (ls' := [.ref c, .int x1, .int 0, .int (Int32.ofNat cN)]) dJA_fill_II_4 rfl rfl (Nat.le_of_ble_eq_true rfl) rfl ?_
  exact k0 
theorem b_JA_fill_II_5 {l : Launch} {G : jG} {μ : jM} {φ : jM → Prop} {x1 x2 x3 : Int32} {c cN : Nat} (hG : gGG G) (hP : gPP μ) (hgc : G[c]? = some (0, cN)) 
    (k0 : (x3 ≤ (x2 : Int32)) → φ μ) 
    (o0 : (¬ (x3 ≤ (x2 : Int32))) → vp_in x2 cN) 
    (k1 : (¬ (x3 ≤ (x2 : Int32))) → J l mJA_fill_II (jZ0 0 G (pV φ)) G 0 0 5 [.ref c, .int x1, .int (x2 + 1), .int x3] [] (wI μ c (Int32.toNatClampNeg x2) x1)) :
    J l mJA_fill_II (jZ0 0 G (pV φ)) G 0 0 5 [.ref c, .int x1, .int x2, .int x3] [] μ := by
  refine j_iload_n dJA_fill_II_5 rfl rfl ?_
  refine j_iload_n dJA_fill_II_6 rfl rfl ?_
  refine j_icmp_ge 20 dJA_fill_II_7 rfl (by decide) (fun c0 => ?_) (fun c0 => ?_)
  · skip
    exact j_vret dJA_fill_II_20 rfl (k0 c0)
  · skip
    refine j_aload_n dJA_fill_II_10 rfl rfl ?_
    refine j_iload_n dJA_fill_II_11 rfl rfl ?_
    refine j_iload_n dJA_fill_II_12 rfl rfl ?_
    refine j_iast' (j := (Int32.toNatClampNeg x2)) dJA_fill_II_13 rfl hgc (o0 c0) rfl ?_
    refine j_iinc (x2 + 1) (ls' := [.ref c, .int x1, .int (x2 + 1), .int x3]) dJA_fill_II_14 rfl rfl rfl (Nat.le_of_ble_eq_true rfl) rfl ?_
    refine j_goto 5 dJA_fill_II_17 (by decide) ?_
    exact k1 c0
theorem b_JA_fill_JJ_0 {l : Launch} {G : jG} {μ : jM} {φ : jM → Prop} {x1 : Int64} {c cN : Nat} (hG : gGG G) (hP : gPP μ) (hgc : G[c]? = some (3, cN)) 
    (k0 : J l mJA_fill_JJ (jZ0 0 G (pV φ)) G 0 0 6 [.ref c, .long x1, .null, .int 0, .int (Int32.ofNat cN)] [] μ) :
    J l mJA_fill_JJ (jZ0 0 G (pV φ)) G 0 0 0 [.ref c, .long x1, .null, .null, .null] [] μ := by
  refine j_iconst 0 dJA_fill_JJ_0 rfl (by decide) ?_
  refine j_istore_n (ls' := [.ref c, .long x1, .null, .int 0, .null]) dJA_fill_JJ_1 rfl rfl (Nat.le_of_ble_eq_true rfl) rfl ?_
  refine j_aload_n dJA_fill_JJ_2 rfl rfl ?_
  refine j_alen (Int32.ofNat cN) dJA_fill_JJ_3 rfl hgc (by decide) rfl ?_
  refine j_istore (ls' := [.ref c, .long x1, .null, .int 0, .int (Int32.ofNat cN)]) dJA_fill_JJ_4 rfl (Nat.le_of_ble_eq_true rfl) rfl ?_
  exact k0 
theorem b_JA_fill_JJ_6 {l : Launch} {G : jG} {μ : jM} {φ : jM → Prop} {x3 x4 : Int32} {x1 : Int64} {c cN : Nat} (hG : gGG G) (hP : gPP μ) (hgc : G[c]? = some (3, cN)) 
    (k0 : (x4 ≤ (x3 : Int32)) → φ μ) 
    (o0 : (¬ (x4 ≤ (x3 : Int32))) → vp_in x3 cN) 
    (k1 : (¬ (x4 ≤ (x3 : Int32))) → J l mJA_fill_JJ (jZ0 0 G (pV φ)) G 0 0 6 [.ref c, .long x1, .null, .int (x3 + 1), .int x4] [] (wL μ c (Int32.toNatClampNeg x3) x1)) :
    J l mJA_fill_JJ (jZ0 0 G (pV φ)) G 0 0 6 [.ref c, .long x1, .null, .int x3, .int x4] [] μ := by
  refine j_iload_n dJA_fill_JJ_6 rfl rfl ?_
  refine j_iload dJA_fill_JJ_7 rfl rfl ?_
  refine j_icmp_ge 22 dJA_fill_JJ_9 rfl (by decide) (fun c0 => ?_) (fun c0 => ?_)
  · skip
    exact j_vret dJA_fill_JJ_22 rfl (k0 c0)
  · skip
    refine j_aload_n dJA_fill_JJ_12 rfl rfl ?_
    refine j_iload_n dJA_fill_JJ_13 rfl rfl ?_
    refine j_lload_n dJA_fill_JJ_14 rfl rfl ?_
    refine j_last' (j := (Int32.toNatClampNeg x3)) dJA_fill_JJ_15 rfl hgc (o0 c0) rfl ?_
    refine j_iinc (x3 + 1) (ls' := [.ref c, .long x1, .null, .int (x3 + 1), .int x4]) dJA_fill_JJ_16 rfl rfl rfl (Nat.le_of_ble_eq_true rfl) rfl ?_
    refine j_goto 6 dJA_fill_JJ_19 (by decide) ?_
    exact k1 c0
theorem b_JI_bitCount_0 {l : Launch} {G : jG} {μ : jM} {φ : Int32 → jM → Prop} {x0 : Int32} (hG : gGG G) (hP : gPP μ) 
    (k0 : φ ((((((((x0 - (((Int32.toUInt32 x0 >>> (Int32.toUInt32 1 &&& Int32.toUInt32 31)).toInt32) &&& 1431655765)) &&& 858993459) + (((Int32.toUInt32 (x0 - (((Int32.toUInt32 x0 >>> (Int32.toUInt32 1 &&& Int32.toUInt32 31)).toInt32) &&& 1431655765)) >>> (Int32.toUInt32 2 &&& Int32.toUInt32 31)).toInt32) &&& 858993459)) + ((Int32.toUInt32 (((x0 - (((Int32.toUInt32 x0 >>> (Int32.toUInt32 1 &&& Int32.toUInt32 31)).toInt32) &&& 1431655765)) &&& 858993459) + (((Int32.toUInt32 (x0 - (((Int32.toUInt32 x0 >>> (Int32.toUInt32 1 &&& Int32.toUInt32 31)).toInt32) &&& 1431655765)) >>> (Int32.toUInt32 2 &&& Int32.toUInt32 31)).toInt32) &&& 858993459)) >>> (Int32.toUInt32 4 &&& Int32.toUInt32 31)).toInt32)) &&& 252645135) + ((Int32.toUInt32 (((((x0 - (((Int32.toUInt32 x0 >>> (Int32.toUInt32 1 &&& Int32.toUInt32 31)).toInt32) &&& 1431655765)) &&& 858993459) + (((Int32.toUInt32 (x0 - (((Int32.toUInt32 x0 >>> (Int32.toUInt32 1 &&& Int32.toUInt32 31)).toInt32) &&& 1431655765)) >>> (Int32.toUInt32 2 &&& Int32.toUInt32 31)).toInt32) &&& 858993459)) + ((Int32.toUInt32 (((x0 - (((Int32.toUInt32 x0 >>> (Int32.toUInt32 1 &&& Int32.toUInt32 31)).toInt32) &&& 1431655765)) &&& 858993459) + (((Int32.toUInt32 (x0 - (((Int32.toUInt32 x0 >>> (Int32.toUInt32 1 &&& Int32.toUInt32 31)).toInt32) &&& 1431655765)) >>> (Int32.toUInt32 2 &&& Int32.toUInt32 31)).toInt32) &&& 858993459)) >>> (Int32.toUInt32 4 &&& Int32.toUInt32 31)).toInt32)) &&& 252645135) >>> (Int32.toUInt32 8 &&& Int32.toUInt32 31)).toInt32)) + ((Int32.toUInt32 ((((((x0 - (((Int32.toUInt32 x0 >>> (Int32.toUInt32 1 &&& Int32.toUInt32 31)).toInt32) &&& 1431655765)) &&& 858993459) + (((Int32.toUInt32 (x0 - (((Int32.toUInt32 x0 >>> (Int32.toUInt32 1 &&& Int32.toUInt32 31)).toInt32) &&& 1431655765)) >>> (Int32.toUInt32 2 &&& Int32.toUInt32 31)).toInt32) &&& 858993459)) + ((Int32.toUInt32 (((x0 - (((Int32.toUInt32 x0 >>> (Int32.toUInt32 1 &&& Int32.toUInt32 31)).toInt32) &&& 1431655765)) &&& 858993459) + (((Int32.toUInt32 (x0 - (((Int32.toUInt32 x0 >>> (Int32.toUInt32 1 &&& Int32.toUInt32 31)).toInt32) &&& 1431655765)) >>> (Int32.toUInt32 2 &&& Int32.toUInt32 31)).toInt32) &&& 858993459)) >>> (Int32.toUInt32 4 &&& Int32.toUInt32 31)).toInt32)) &&& 252645135) + ((Int32.toUInt32 (((((x0 - (((Int32.toUInt32 x0 >>> (Int32.toUInt32 1 &&& Int32.toUInt32 31)).toInt32) &&& 1431655765)) &&& 858993459) + (((Int32.toUInt32 (x0 - (((Int32.toUInt32 x0 >>> (Int32.toUInt32 1 &&& Int32.toUInt32 31)).toInt32) &&& 1431655765)) >>> (Int32.toUInt32 2 &&& Int32.toUInt32 31)).toInt32) &&& 858993459)) + ((Int32.toUInt32 (((x0 - (((Int32.toUInt32 x0 >>> (Int32.toUInt32 1 &&& Int32.toUInt32 31)).toInt32) &&& 1431655765)) &&& 858993459) + (((Int32.toUInt32 (x0 - (((Int32.toUInt32 x0 >>> (Int32.toUInt32 1 &&& Int32.toUInt32 31)).toInt32) &&& 1431655765)) >>> (Int32.toUInt32 2 &&& Int32.toUInt32 31)).toInt32) &&& 858993459)) >>> (Int32.toUInt32 4 &&& Int32.toUInt32 31)).toInt32)) &&& 252645135) >>> (Int32.toUInt32 8 &&& Int32.toUInt32 31)).toInt32)) >>> (Int32.toUInt32 16 &&& Int32.toUInt32 31)).toInt32)) &&& 63) μ) :
    J l mJI_bitCount (jZ0 0 G (pI φ)) G 0 0 0 [.int x0] [] μ := by
  refine j_iload_n dJI_bitCount_0 rfl rfl ?_
  refine j_iload_n dJI_bitCount_1 rfl rfl ?_
  refine j_iconst 1 dJI_bitCount_2 rfl (by decide) ?_
  refine j_iushr dJI_bitCount_3 rfl ?_
  refine j_ldcw 1431655765 dJI_bitCount_4 rfl ck_JI_265 ?_
  refine j_iand dJI_bitCount_7 rfl ?_
  refine j_isub dJI_bitCount_8 rfl ?_
  refine j_istore_n (ls' := [.int (x0 - (((Int32.toUInt32 x0 >>> (Int32.toUInt32 1 &&& Int32.toUInt32 31)).toInt32) &&& 1431655765))]) dJI_bitCount_9 rfl rfl (Nat.le_of_ble_eq_true rfl) rfl ?_
  refine j_iload_n dJI_bitCount_10 rfl rfl ?_
  refine j_ldcw 858993459 dJI_bitCount_11 rfl ck_JI_266 ?_
  refine j_iand dJI_bitCount_14 rfl ?_
  refine j_iload_n dJI_bitCount_15 rfl rfl ?_
  refine j_iconst 2 dJI_bitCount_16 rfl (by decide) ?_
  refine j_iushr dJI_bitCount_17 rfl ?_
  refine j_ldcw 858993459 dJI_bitCount_18 rfl ck_JI_266 ?_
  refine j_iand dJI_bitCount_21 rfl ?_
  refine j_iadd dJI_bitCount_22 rfl ?_
  refine j_istore_n (ls' := [.int (((x0 - (((Int32.toUInt32 x0 >>> (Int32.toUInt32 1 &&& Int32.toUInt32 31)).toInt32) &&& 1431655765)) &&& 858993459) + (((Int32.toUInt32 (x0 - (((Int32.toUInt32 x0 >>> (Int32.toUInt32 1 &&& Int32.toUInt32 31)).toInt32) &&& 1431655765)) >>> (Int32.toUInt32 2 &&& Int32.toUInt32 31)).toInt32) &&& 858993459))]) dJI_bitCount_23 rfl rfl (Nat.le_of_ble_eq_true rfl) rfl ?_
  refine j_iload_n dJI_bitCount_24 rfl rfl ?_
  refine j_iload_n dJI_bitCount_25 rfl rfl ?_
  refine j_iconst 4 dJI_bitCount_26 rfl (by decide) ?_
  refine j_iushr dJI_bitCount_27 rfl ?_
  refine j_iadd dJI_bitCount_28 rfl ?_
  refine j_ldcw 252645135 dJI_bitCount_29 rfl ck_JI_267 ?_
  refine j_iand dJI_bitCount_32 rfl ?_
  refine j_istore_n (ls' := [.int (((((x0 - (((Int32.toUInt32 x0 >>> (Int32.toUInt32 1 &&& Int32.toUInt32 31)).toInt32) &&& 1431655765)) &&& 858993459) + (((Int32.toUInt32 (x0 - (((Int32.toUInt32 x0 >>> (Int32.toUInt32 1 &&& Int32.toUInt32 31)).toInt32) &&& 1431655765)) >>> (Int32.toUInt32 2 &&& Int32.toUInt32 31)).toInt32) &&& 858993459)) + ((Int32.toUInt32 (((x0 - (((Int32.toUInt32 x0 >>> (Int32.toUInt32 1 &&& Int32.toUInt32 31)).toInt32) &&& 1431655765)) &&& 858993459) + (((Int32.toUInt32 (x0 - (((Int32.toUInt32 x0 >>> (Int32.toUInt32 1 &&& Int32.toUInt32 31)).toInt32) &&& 1431655765)) >>> (Int32.toUInt32 2 &&& Int32.toUInt32 31)).toInt32) &&& 858993459)) >>> (Int32.toUInt32 4 &&& Int32.toUInt32 31)).toInt32)) &&& 252645135)]) dJI_bitCount_33 rfl rfl (Nat.le_of_ble_eq_true rfl) rfl ?_
  refine j_iload_n dJI_bitCount_34 rfl rfl ?_
  refine j_iload_n dJI_bitCount_35 rfl rfl ?_
  refine j_bipush 8 dJI_bitCount_36 rfl (by decide) ?_
  refine j_iushr dJI_bitCount_38 rfl ?_
  refine j_iadd dJI_bitCount_39 rfl ?_
  refine j_istore_n (ls' := [.int ((((((x0 - (((Int32.toUInt32 x0 >>> (Int32.toUInt32 1 &&& Int32.toUInt32 31)).toInt32) &&& 1431655765)) &&& 858993459) + (((Int32.toUInt32 (x0 - (((Int32.toUInt32 x0 >>> (Int32.toUInt32 1 &&& Int32.toUInt32 31)).toInt32) &&& 1431655765)) >>> (Int32.toUInt32 2 &&& Int32.toUInt32 31)).toInt32) &&& 858993459)) + ((Int32.toUInt32 (((x0 - (((Int32.toUInt32 x0 >>> (Int32.toUInt32 1 &&& Int32.toUInt32 31)).toInt32) &&& 1431655765)) &&& 858993459) + (((Int32.toUInt32 (x0 - (((Int32.toUInt32 x0 >>> (Int32.toUInt32 1 &&& Int32.toUInt32 31)).toInt32) &&& 1431655765)) >>> (Int32.toUInt32 2 &&& Int32.toUInt32 31)).toInt32) &&& 858993459)) >>> (Int32.toUInt32 4 &&& Int32.toUInt32 31)).toInt32)) &&& 252645135) + ((Int32.toUInt32 (((((x0 - (((Int32.toUInt32 x0 >>> (Int32.toUInt32 1 &&& Int32.toUInt32 31)).toInt32) &&& 1431655765)) &&& 858993459) + (((Int32.toUInt32 (x0 - (((Int32.toUInt32 x0 >>> (Int32.toUInt32 1 &&& Int32.toUInt32 31)).toInt32) &&& 1431655765)) >>> (Int32.toUInt32 2 &&& Int32.toUInt32 31)).toInt32) &&& 858993459)) + ((Int32.toUInt32 (((x0 - (((Int32.toUInt32 x0 >>> (Int32.toUInt32 1 &&& Int32.toUInt32 31)).toInt32) &&& 1431655765)) &&& 858993459) + (((Int32.toUInt32 (x0 - (((Int32.toUInt32 x0 >>> (Int32.toUInt32 1 &&& Int32.toUInt32 31)).toInt32) &&& 1431655765)) >>> (Int32.toUInt32 2 &&& Int32.toUInt32 31)).toInt32) &&& 858993459)) >>> (Int32.toUInt32 4 &&& Int32.toUInt32 31)).toInt32)) &&& 252645135) >>> (Int32.toUInt32 8 &&& Int32.toUInt32 31)).toInt32))]) dJI_bitCount_40 rfl rfl (Nat.le_of_ble_eq_true rfl) rfl ?_
  refine j_iload_n dJI_bitCount_41 rfl rfl ?_
  refine j_iload_n dJI_bitCount_42 rfl rfl ?_
  refine j_bipush 16 dJI_bitCount_43 rfl (by decide) ?_
  refine j_iushr dJI_bitCount_45 rfl ?_
  refine j_iadd dJI_bitCount_46 rfl ?_
  refine j_istore_n (ls' := [.int (((((((x0 - (((Int32.toUInt32 x0 >>> (Int32.toUInt32 1 &&& Int32.toUInt32 31)).toInt32) &&& 1431655765)) &&& 858993459) + (((Int32.toUInt32 (x0 - (((Int32.toUInt32 x0 >>> (Int32.toUInt32 1 &&& Int32.toUInt32 31)).toInt32) &&& 1431655765)) >>> (Int32.toUInt32 2 &&& Int32.toUInt32 31)).toInt32) &&& 858993459)) + ((Int32.toUInt32 (((x0 - (((Int32.toUInt32 x0 >>> (Int32.toUInt32 1 &&& Int32.toUInt32 31)).toInt32) &&& 1431655765)) &&& 858993459) + (((Int32.toUInt32 (x0 - (((Int32.toUInt32 x0 >>> (Int32.toUInt32 1 &&& Int32.toUInt32 31)).toInt32) &&& 1431655765)) >>> (Int32.toUInt32 2 &&& Int32.toUInt32 31)).toInt32) &&& 858993459)) >>> (Int32.toUInt32 4 &&& Int32.toUInt32 31)).toInt32)) &&& 252645135) + ((Int32.toUInt32 (((((x0 - (((Int32.toUInt32 x0 >>> (Int32.toUInt32 1 &&& Int32.toUInt32 31)).toInt32) &&& 1431655765)) &&& 858993459) + (((Int32.toUInt32 (x0 - (((Int32.toUInt32 x0 >>> (Int32.toUInt32 1 &&& Int32.toUInt32 31)).toInt32) &&& 1431655765)) >>> (Int32.toUInt32 2 &&& Int32.toUInt32 31)).toInt32) &&& 858993459)) + ((Int32.toUInt32 (((x0 - (((Int32.toUInt32 x0 >>> (Int32.toUInt32 1 &&& Int32.toUInt32 31)).toInt32) &&& 1431655765)) &&& 858993459) + (((Int32.toUInt32 (x0 - (((Int32.toUInt32 x0 >>> (Int32.toUInt32 1 &&& Int32.toUInt32 31)).toInt32) &&& 1431655765)) >>> (Int32.toUInt32 2 &&& Int32.toUInt32 31)).toInt32) &&& 858993459)) >>> (Int32.toUInt32 4 &&& Int32.toUInt32 31)).toInt32)) &&& 252645135) >>> (Int32.toUInt32 8 &&& Int32.toUInt32 31)).toInt32)) + ((Int32.toUInt32 ((((((x0 - (((Int32.toUInt32 x0 >>> (Int32.toUInt32 1 &&& Int32.toUInt32 31)).toInt32) &&& 1431655765)) &&& 858993459) + (((Int32.toUInt32 (x0 - (((Int32.toUInt32 x0 >>> (Int32.toUInt32 1 &&& Int32.toUInt32 31)).toInt32) &&& 1431655765)) >>> (Int32.toUInt32 2 &&& Int32.toUInt32 31)).toInt32) &&& 858993459)) + ((Int32.toUInt32 (((x0 - (((Int32.toUInt32 x0 >>> (Int32.toUInt32 1 &&& Int32.toUInt32 31)).toInt32) &&& 1431655765)) &&& 858993459) + (((Int32.toUInt32 (x0 - (((Int32.toUInt32 x0 >>> (Int32.toUInt32 1 &&& Int32.toUInt32 31)).toInt32) &&& 1431655765)) >>> (Int32.toUInt32 2 &&& Int32.toUInt32 31)).toInt32) &&& 858993459)) >>> (Int32.toUInt32 4 &&& Int32.toUInt32 31)).toInt32)) &&& 252645135) + ((Int32.toUInt32 (((((x0 - (((Int32.toUInt32 x0 >>> (Int32.toUInt32 1 &&& Int32.toUInt32 31)).toInt32) &&& 1431655765)) &&& 858993459) + (((Int32.toUInt32 (x0 - (((Int32.toUInt32 x0 >>> (Int32.toUInt32 1 &&& Int32.toUInt32 31)).toInt32) &&& 1431655765)) >>> (Int32.toUInt32 2 &&& Int32.toUInt32 31)).toInt32) &&& 858993459)) + ((Int32.toUInt32 (((x0 - (((Int32.toUInt32 x0 >>> (Int32.toUInt32 1 &&& Int32.toUInt32 31)).toInt32) &&& 1431655765)) &&& 858993459) + (((Int32.toUInt32 (x0 - (((Int32.toUInt32 x0 >>> (Int32.toUInt32 1 &&& Int32.toUInt32 31)).toInt32) &&& 1431655765)) >>> (Int32.toUInt32 2 &&& Int32.toUInt32 31)).toInt32) &&& 858993459)) >>> (Int32.toUInt32 4 &&& Int32.toUInt32 31)).toInt32)) &&& 252645135) >>> (Int32.toUInt32 8 &&& Int32.toUInt32 31)).toInt32)) >>> (Int32.toUInt32 16 &&& Int32.toUInt32 31)).toInt32))]) dJI_bitCount_47 rfl rfl (Nat.le_of_ble_eq_true rfl) rfl ?_
  refine j_iload_n dJI_bitCount_48 rfl rfl ?_
  refine j_bipush 63 dJI_bitCount_49 rfl (by decide) ?_
  refine j_iand dJI_bitCount_51 rfl ?_
  exact j_iret dJI_bitCount_52 rfl (k0 )
