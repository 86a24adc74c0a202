theorem b_X12_feed_0 {l : Launch} {G : jG} {μ : jM} {φ : Int32 → jM → Prop} {x1 x2 x3 x4 x5 : Int32} {ψ0 : jM → Prop} (hG : gMM G) (hP : gNN μ) 
    (e0 : (((μ.1 112 2) + 20) ≤ (2000 : Int32)) → jC0 l mX12_tapes 0 G [.ref 112, .int x1] μ (pV ψ0)) 
    (k0 : (((μ.1 112 2) + 20) ≤ (2000 : Int32)) → ∀ μ', ψ0 μ' → J l mX12_feed (jZ0 1 G (pI φ)) G 0 0 20 [.ref 112, .null, .int x2, .int x3, .int x4, .int x5] [] μ') 
    (k1 : (¬ (((μ.1 112 2) + 20) ≤ (2000 : Int32))) → φ (-1) μ) :
    J l mX12_feed (jZ0 1 G (pI φ)) G 0 0 0 [.ref 112, .int x1, .int x2, .int x3, .int x4, .int x5] [] μ := by
  refine j_aload_n dX12_feed_0 rfl rfl ?_
  refine j_getI (ci := 12) (N := 80) (f := 2) (T := TX12) dX12_feed_1 rfl (hG 112 (17, 80) rfl) rfl (by decide) fl_X12_196 rfl ?_
  refine j_bipush 20 dX12_feed_4 rfl (by decide) ?_
  refine j_iadd dX12_feed_6 rfl ?_
  refine j_sipush 2000 dX12_feed_7 rfl (by decide) ?_
  refine j_icmp_le 15 dX12_feed_10 rfl (by decide) (fun c0 => ?_) (fun c0 => ?_)
  · skip
    refine j_aload_n dX12_feed_15 rfl rfl ?_
    refine j_iload_n dX12_feed_16 rfl rfl ?_
    refine j_cV (as := [.int x1]) (rest := []) dX12_feed_17 rfl vw_X12_199 (hG 112 (17, 80) rfl) rfl ⟨Nat.le_of_ble_eq_true rfl, Nat.le_of_ble_eq_true rfl⟩ rfl rfl (fun _ _ => Nat.le_of_ble_eq_true rfl) (e0 c0) (fun r μ' hr => ?_)
    obtain ⟨rfl, hr⟩ := hr
    refine j_forget (ls' := [.ref 112, .null, .int x2, .int x3, .int x4, .int x5]) ⟨Or.inr rfl, Or.inl rfl, Or.inr rfl, Or.inr rfl, Or.inr rfl, Or.inr rfl, trivial⟩ ?_
    exact k0 c0 μ' hr
  · skip
    refine j_iconst (-1) dX12_feed_13 rfl (by decide) ?_
    exact j_iret dX12_feed_14 rfl (k1 c0)
theorem b_X12_feed_20 {l : Launch} {G : jG} {μ : jM} {φ : Int32 → jM → Prop} {x2 x3 x4 x5 : Int32} {ψ0 : jM → Prop} (hG : gMM G) (hP : gNN μ) 
    (e0 : jC0 l mX12_tapes 0 G [.ref 112, .int x2] μ (pV ψ0)) 
    (k0 : ∀ μ', ψ0 μ' → J l mX12_feed (jZ0 1 G (pI φ)) G 0 0 25 [.ref 112, .null, .null, .int x3, .int x4, .int x5] [] μ') :
    J l mX12_feed (jZ0 1 G (pI φ)) G 0 0 20 [.ref 112, .null, .int x2, .int x3, .int x4, .int x5] [] μ := by
  refine j_aload_n dX12_feed_20 rfl rfl ?_
  refine j_iload_n dX12_feed_21 rfl rfl ?_
  refine j_cV (as := [.int x2]) (rest := []) dX12_feed_22 rfl vw_X12_199 (hG 112 (17, 80) rfl) rfl ⟨Nat.le_of_ble_eq_true rfl, Nat.le_of_ble_eq_true rfl⟩ rfl rfl (fun _ _ => Nat.le_of_ble_eq_true rfl) (e0 ) (fun r μ' hr => ?_)
  obtain ⟨rfl, hr⟩ := hr
  refine j_forget (ls' := [.ref 112, .null, .null, .int x3, .int x4, .int x5]) ⟨Or.inr rfl, Or.inr rfl, Or.inl rfl, Or.inr rfl, Or.inr rfl, Or.inr rfl, trivial⟩ ?_
  exact k0  μ' hr
theorem b_X12_feed_25 {l : Launch} {G : jG} {μ : jM} {φ : Int32 → jM → Prop} {x3 x4 x5 : Int32} {ψ0 : jM → Prop} (hG : gMM G) (hP : gNN μ) 
    (e0 : jC0 l mX12_tapes 0 G [.ref 112, .int x3] μ (pV ψ0)) 
    (k0 : ∀ μ', ψ0 μ' → J l mX12_feed (jZ0 1 G (pI φ)) G 0 0 30 [.ref 112, .null, .null, .null, .int x4, .int x5] [] μ') :
    J l mX12_feed (jZ0 1 G (pI φ)) G 0 0 25 [.ref 112, .null, .null, .int x3, .int x4, .int x5] [] μ := by
  refine j_aload_n dX12_feed_25 rfl rfl ?_
  refine j_iload_n dX12_feed_26 rfl rfl ?_
  refine j_cV (as := [.int x3]) (rest := []) dX12_feed_27 rfl vw_X12_199 (hG 112 (17, 80) rfl) rfl ⟨Nat.le_of_ble_eq_true rfl, Nat.le_of_ble_eq_true rfl⟩ rfl rfl (fun _ _ => Nat.le_of_ble_eq_true rfl) (e0 ) (fun r μ' hr => ?_)
  obtain ⟨rfl, hr⟩ := hr
  refine j_forget (ls' := [.ref 112, .null, .null, .null, .int x4, .int x5]) ⟨Or.inr rfl, Or.inr rfl, Or.inr rfl, Or.inl rfl, Or.inr rfl, Or.inr rfl, trivial⟩ ?_
  exact k0  μ' hr
theorem b_X12_feed_30 {l : Launch} {G : jG} {μ : jM} {φ : Int32 → jM → Prop} {x4 x5 : Int32} {ψ0 : jM → Prop} (hG : gMM G) (hP : gNN μ) 
    (e0 : jC0 l mX12_tapes 0 G [.ref 112, .int x4] μ (pV ψ0)) 
    (k0 : ∀ μ', ψ0 μ' → J l mX12_feed (jZ0 1 G (pI φ)) G 0 0 36 [.ref 112, .null, .null, .null, .null, .int x5] [] μ') :
    J l mX12_feed (jZ0 1 G (pI φ)) G 0 0 30 [.ref 112, .null, .null, .null, .int x4, .int x5] [] μ := by
  refine j_aload_n dX12_feed_30 rfl rfl ?_
  refine j_iload dX12_feed_31 rfl rfl ?_
  refine j_cV (as := [.int x4]) (rest := []) dX12_feed_33 rfl vw_X12_199 (hG 112 (17, 80) rfl) rfl ⟨Nat.le_of_ble_eq_true rfl, Nat.le_of_ble_eq_true rfl⟩ rfl rfl (fun _ _ => Nat.le_of_ble_eq_true rfl) (e0 ) (fun r μ' hr => ?_)
  obtain ⟨rfl, hr⟩ := hr
  refine j_forget (ls' := [.ref 112, .null, .null, .null, .null, .int x5]) ⟨Or.inr rfl, Or.inr rfl, Or.inr rfl, Or.inr rfl, Or.inl rfl, Or.inr rfl, trivial⟩ ?_
  exact k0  μ' hr
theorem b_X12_feed_36 {l : Launch} {G : jG} {μ : jM} {φ : Int32 → jM → Prop} {x5 : Int32} {ψ0 : jM → Prop} (hG : gMM G) (hP : gNN μ) 
    (e0 : jC0 l mX12_tapes 0 G [.ref 112, .int x5] μ (pV ψ0)) 
    (k0 : ∀ μ', ψ0 μ' → J l mX12_feed (jZ0 1 G (pI φ)) G 0 0 42 [.ref 112, .null, .null, .null, .null, .null] [] μ') :
    J l mX12_feed (jZ0 1 G (pI φ)) G 0 0 36 [.ref 112, .null, .null, .null, .null, .int x5] [] μ := by
  refine j_aload_n dX12_feed_36 rfl rfl ?_
  refine j_iload dX12_feed_37 rfl rfl ?_
  refine j_cV (as := [.int x5]) (rest := []) dX12_feed_39 rfl vw_X12_199 (hG 112 (17, 80) rfl) rfl ⟨Nat.le_of_ble_eq_true rfl, Nat.le_of_ble_eq_true rfl⟩ rfl rfl (fun _ _ => Nat.le_of_ble_eq_true rfl) (e0 ) (fun r μ' hr => ?_)
  obtain ⟨rfl, hr⟩ := hr
  refine j_forget (ls' := [.ref 112, .null, .null, .null, .null, .null]) ⟨Or.inr rfl, Or.inr rfl, Or.inr rfl, Or.inr rfl, Or.inr rfl, Or.inl rfl, trivial⟩ ?_
  exact k0  μ' hr
theorem b_X12_feed_42 {l : Launch} {G : jG} {μ : jM} {φ : Int32 → jM → Prop} (hG : gMM G) (hP : gNN μ) 
    (k0 : φ (μ.1 112 2) μ) :
    J l mX12_feed (jZ0 1 G (pI φ)) G 0 0 42 [.ref 112, .null, .null, .null, .null, .null] [] μ := by
  refine j_aload_n dX12_feed_42 rfl rfl ?_
  refine j_getI (ci := 12) (N := 80) (f := 2) (T := TX12) dX12_feed_43 rfl (hG 112 (17, 80) rfl) rfl (by decide) fl_X12_196 rfl ?_
  exact j_iret dX12_feed_46 rfl (k0 )
theorem b_X12_tapes_0 {l : Launch} {G : jG} {μ : jM} {φ : jM → Prop} {x1 : Int32} (hG : gMM G) (hP : gNN μ) 
    (k0 : J l mX12_tapes (jZ0 0 G (pV φ)) G 0 0 3 [.ref 112, .int x1, .int 24] [] μ) :
    J l mX12_tapes (jZ0 0 G (pV φ)) G 0 0 0 [.ref 112, .int x1, .null] [] μ := by
  refine j_bipush 24 dX12_tapes_0 rfl (by decide) ?_
  refine j_istore_n (ls' := [.ref 112, .int x1, .int 24]) dX12_tapes_2 rfl rfl (Nat.le_of_ble_eq_true rfl) rfl ?_
  exact k0 
theorem b_X12_tapes_3 {l : Launch} {G : jG} {μ : jM} {φ : jM → Prop} {x1 x2 : Int32} (hG : gMM G) (hP : gNN μ) 
    (k0 : (x2 < (0 : Int32)) → φ μ) 
    (o0 : (¬ (x2 < (0 : Int32))) → vp_in (μ.1 112 2) 2000) 
    (k1 : (¬ (x2 < (0 : Int32))) → J l mX12_tapes (jZ0 0 G (pV φ)) G 0 0 3 [.ref 112, .int x1, .int (x2 + (-8))] [] (wI (wI μ 113 (Int32.toNatClampNeg (μ.1 112 2)) (vp_nar .byte (Int8.toInt32 (Int32.toInt8 (x1 >>> (x2 &&& 31)))))) 112 2 ((μ.1 112 2) + 1))) :
    J l mX12_tapes (jZ0 0 G (pV φ)) G 0 0 3 [.ref 112, .int x1, .int x2] [] μ := by
  refine j_iload_n dX12_tapes_3 rfl rfl ?_
  refine j_if_lt 36 dX12_tapes_4 rfl (by decide) (fun c0 => ?_) (fun c0 => ?_)
  · skip
    exact j_vret dX12_tapes_36 rfl (k0 c0)
  · skip
    refine j_aload_n dX12_tapes_7 rfl rfl ?_
    refine j_getR (ci := 12) (N := 80) (f := 1) (T := TX12) 113 dX12_tapes_8 rfl (hG 112 (17, 80) rfl) rfl (by decide) fl_X12_13 rfl (hP 112 1 113 rfl) ?_
    refine j_aload_n dX12_tapes_11 rfl rfl ?_
    refine j_getI (ci := 12) (N := 80) (f := 2) (T := TX12) dX12_tapes_12 rfl (hG 112 (17, 80) rfl) rfl (by decide) fl_X12_196 rfl ?_
    refine j_iload_n dX12_tapes_15 rfl rfl ?_
    refine j_iload_n dX12_tapes_16 rfl rfl ?_
    refine j_ishr dX12_tapes_17 rfl ?_
    refine j_i2b dX12_tapes_18 rfl ?_
    refine j_bast' (j := (Int32.toNatClampNeg (μ.1 112 2))) dX12_tapes_19 rfl (hG 113 (1, 2000) rfl) (o0 c0) rfl ?_
    refine j_aload_n dX12_tapes_20 rfl rfl ?_
    refine j_dup dX12_tapes_21 rfl (fun _ _ => rfl) ?_
    refine j_getI (ci := 12) (N := 80) (f := 2) (T := TX12) dX12_tapes_22 rfl (hG 112 (17, 80) rfl) rfl (by decide) fl_X12_196 rfl ?_
    refine j_iconst 1 dX12_tapes_25 rfl (by decide) ?_
    refine j_iadd dX12_tapes_26 rfl ?_
    refine j_putI (ci := 12) (N := 80) (f := 2) (T := TX12) dX12_tapes_27 rfl (hG 112 (17, 80) rfl) rfl (by decide) fl_X12_196 rfl rfl ?_
    refine j_iinc (x2 + (-8)) (ls' := [.ref 112, .int x1, .int (x2 + (-8))]) dX12_tapes_30 rfl rfl rfl (Nat.le_of_ble_eq_true rfl) rfl ?_
    refine j_goto 3 dX12_tapes_33 (by decide) ?_
    exact k1 c0
theorem b_X12_back_0 {l : Launch} {G : jG} {μ : jM} {φ : Int32 → jM → Prop} {x1 : Int32} (hG : gMM G) (hP : gNN μ) 
    (k0 : (x1 < (0 : Int32)) → φ (-1) μ) 
    (k1 : (¬ (x1 < (0 : Int32))) → (x1 ≤ ((μ.1 112 2) : Int32)) → φ ((μ.1 112 2) - x1) (wI μ 112 2 ((μ.1 112 2) - x1))) 
    (k2 : (¬ (x1 < (0 : Int32))) → (¬ (x1 ≤ ((μ.1 112 2) : Int32))) → φ (-1) μ) :
    J l mX12_back (jZ0 0 G (pI φ)) G 0 0 0 [.ref 112, .int x1] [] μ := by
  refine j_iload_n dX12_back_0 rfl rfl ?_
  refine j_if_lt 12 dX12_back_1 rfl (by decide) (fun c0 => ?_) (fun c0 => ?_)
  · skip
    refine j_iconst (-1) dX12_back_12 rfl (by decide) ?_
    exact j_iret dX12_back_13 rfl (k0 c0)
  · skip
    refine j_iload_n dX12_back_4 rfl rfl ?_
    refine j_aload_n dX12_back_5 rfl rfl ?_
    refine j_getI (ci := 12) (N := 80) (f := 2) (T := TX12) dX12_back_6 rfl (hG 112 (17, 80) rfl) rfl (by decide) fl_X12_196 rfl ?_
    refine j_icmp_le 14 dX12_back_9 rfl (by decide) (fun c1 => ?_) (fun c1 => ?_)
    · skip
      refine j_aload_n dX12_back_14 rfl rfl ?_
      refine j_dup dX12_back_15 rfl (fun _ _ => rfl) ?_
      refine j_getI (ci := 12) (N := 80) (f := 2) (T := TX12) dX12_back_16 rfl (hG 112 (17, 80) rfl) rfl (by decide) fl_X12_196 rfl ?_
      refine j_iload_n dX12_back_19 rfl rfl ?_
      refine j_isub dX12_back_20 rfl ?_
      refine j_putI (ci := 12) (N := 80) (f := 2) (T := TX12) dX12_back_21 rfl (hG 112 (17, 80) rfl) rfl (by decide) fl_X12_196 rfl rfl ?_
      refine j_aload_n dX12_back_24 rfl rfl ?_
      refine j_getI (ci := 12) (N := 80) (f := 2) (T := TX12) dX12_back_25 rfl (hG 112 (17, 80) rfl) rfl (by decide) fl_X12_196 rfl ?_
      exact j_iret dX12_back_28 rfl (k1 c0 c1)
    · skip
      refine j_iconst (-1) dX12_back_12 rfl (by decide) ?_
      exact j_iret dX12_back_13 rfl (k2 c0 c1)
theorem b_X12_byteAt_0 {l : Launch} {G : jG} {μ : jM} {φ : Int32 → jM → Prop} {x1 : Int32} (hG : gMM G) (hP : gNN μ) 
    (k0 : ((μ.1 112 4) ≤ (x1 : Int32)) → φ 0 μ) 
    (o0 : (¬ ((μ.1 112 4) ≤ (x1 : Int32))) → vp_in x1 2000) 
    (k1 : (¬ ((μ.1 112 4) ≤ (x1 : Int32))) → φ ((μ.1 114 (Int32.toNatClampNeg x1)) &&& 255) μ) :
    J l mX12_byteAt (jZ0 0 G (pI φ)) G 0 0 0 [.ref 112, .int x1] [] μ := by
  refine j_iload_n dX12_byteAt_0 rfl rfl ?_
  refine j_aload_n dX12_byteAt_1 rfl rfl ?_
  refine j_getI (ci := 12) (N := 80) (f := 4) (T := TX12) dX12_byteAt_2 rfl (hG 112 (17, 80) rfl) rfl (by decide) fl_X12_202 rfl ?_
  refine j_icmp_ge 21 dX12_byteAt_5 rfl (by decide) (fun c0 => ?_) (fun c0 => ?_)
  · skip
    refine j_iconst 0 dX12_byteAt_21 rfl (by decide) ?_
    exact j_iret dX12_byteAt_22 rfl (k0 c0)
  · skip
    refine j_aload_n dX12_byteAt_8 rfl rfl ?_
    refine j_getR (ci := 12) (N := 80) (f := 3) (T := TX12) 114 dX12_byteAt_9 rfl (hG 112 (17, 80) rfl) rfl (by decide) fl_X12_17 rfl (hP 112 3 114 rfl) ?_
    refine j_iload_n dX12_byteAt_12 rfl rfl ?_
    refine j_bald' (j := (Int32.toNatClampNeg x1)) dX12_byteAt_13 rfl (hG 114 (1, 2000) rfl) (o0 c0) rfl ?_
    refine j_sipush 255 dX12_byteAt_14 rfl (by decide) ?_
    refine j_iand dX12_byteAt_17 rfl ?_
    refine j_goto 22 dX12_byteAt_18 (by decide) ?_
    exact j_iret dX12_byteAt_22 rfl (k1 c0)
theorem b_X12_isDigit_0 {l : Launch} {G : jG} {μ : jM} {φ : Int32 → jM → Prop} {x0 : Int32} (hG : gMM G) (hP : gNN μ) 
    (k0 : (x0 < (48 : Int32)) → φ 0 μ) 
    (k1 : (¬ (x0 < (48 : Int32))) → (57 < (x0 : Int32)) → φ 0 μ) 
    (k2 : (¬ (x0 < (48 : Int32))) → (¬ (57 < (x0 : Int32))) → φ 1 μ) :
    J l mX12_isDigit (jZ0 0 G (pI φ)) G 0 0 0 [.int x0] [] μ := by
  refine j_iload_n dX12_isDigit_0 rfl rfl ?_
  refine j_bipush 48 dX12_isDigit_1 rfl (by decide) ?_
  refine j_icmp_lt 16 dX12_isDigit_3 rfl (by decide) (fun c0 => ?_) (fun c0 => ?_)
  · skip
    refine j_iconst 0 dX12_isDigit_16 rfl (by decide) ?_
    exact j_zret dX12_isDigit_17 rfl (by decide) (k0 c0)
  · skip
    refine j_iload_n dX12_isDigit_6 rfl rfl ?_
    refine j_bipush 57 dX12_isDigit_7 rfl (by decide) ?_
    refine j_icmp_gt 16 dX12_isDigit_9 rfl (by decide) (fun c1 => ?_) (fun c1 => ?_)
    · skip
      refine j_iconst 0 dX12_isDigit_16 rfl (by decide) ?_
      exact j_zret dX12_isDigit_17 rfl (by decide) (k1 c0 c1)
    · skip
      refine j_iconst 1 dX12_isDigit_12 rfl (by decide) ?_
      refine j_goto 17 dX12_isDigit_13 (by decide) ?_
      exact j_zret dX12_isDigit_17 rfl (by decide) (k2 c0 c1)
theorem b_X12_isLetter_0 {l : Launch} {G : jG} {μ : jM} {φ : Int32 → jM → Prop} {x0 : Int32} (hG : gMM G) (hP : gNN μ) 
    (k0 : (x0 < (97 : Int32)) → φ 0 μ) 
    (k1 : (¬ (x0 < (97 : Int32))) → (122 < (x0 : Int32)) → φ 0 μ) 
    (k2 : (¬ (x0 < (97 : Int32))) → (¬ (122 < (x0 : Int32))) → φ 1 μ) :
    J l mX12_isLetter (jZ0 0 G (pI φ)) G 0 0 0 [.int x0] [] μ := by
  refine j_iload_n dX12_isLetter_0 rfl rfl ?_
  refine j_bipush 97 dX12_isLetter_1 rfl (by decide) ?_
  refine j_icmp_lt 16 dX12_isLetter_3 rfl (by decide) (fun c0 => ?_) (fun c0 => ?_)
  · skip
    refine j_iconst 0 dX12_isLetter_16 rfl (by decide) ?_
    exact j_zret dX12_isLetter_17 rfl (by decide) (k0 c0)
  · skip
    refine j_iload_n dX12_isLetter_6 rfl rfl ?_
    refine j_bipush 122 dX12_isLetter_7 rfl (by decide) ?_
    refine j_icmp_gt 16 dX12_isLetter_9 rfl (by decide) (fun c1 => ?_) (fun c1 => ?_)
    · skip
      refine j_iconst 0 dX12_isLetter_16 rfl (by decide) ?_
      exact j_zret dX12_isLetter_17 rfl (by decide) (k1 c0 c1)
    · skip
      refine j_iconst 1 dX12_isLetter_12 rfl (by decide) ?_
      refine j_goto 17 dX12_isLetter_13 (by decide) ?_
      exact j_zret dX12_isLetter_17 rfl (by decide) (k2 c0 c1)
theorem b_X12_appends_0 {l : Launch} {G : jG} {μ : jM} {φ : Int64 → jM → Prop} {x2 : Int32} {x0 : Int64} (hG : gMM G) (hP : gNN μ) 
    (k0 : (¬ x2 = (0 : Int32)) → φ ((27 * x0) + (Int32.toInt64 ((x2 - 97) + 1))) μ) 
    (k1 : (x2 = (0 : Int32)) → φ x0 μ) :
    J l mX12_appends (jZ0 0 G (pJ φ)) G 0 0 0 [.long x0, .null, .int x2] [] μ := by
  refine j_iload_n dX12_appends_0 rfl rfl ?_
  refine j_if_ne 8 dX12_appends_1 rfl (by decide) (fun c0 => ?_) (fun c0 => ?_)
  · skip
    refine j_ldc2 27 dX12_appends_8 rfl ck_X12_205 ?_
    refine j_lload_n dX12_appends_11 rfl rfl ?_
    refine j_lmul dX12_appends_12 rfl ?_
    refine j_iload_n dX12_appends_13 rfl rfl ?_
    refine j_bipush 97 dX12_appends_14 rfl (by decide) ?_
    refine j_isub dX12_appends_16 rfl ?_
    refine j_iconst 1 dX12_appends_17 rfl (by decide) ?_
    refine j_iadd dX12_appends_18 rfl ?_
    refine j_i2l dX12_appends_19 rfl ?_
    refine j_ladd dX12_appends_20 rfl ?_
    exact j_lret dX12_appends_21 rfl (k0 c0)
  · skip
    refine j_lload_n dX12_appends_4 rfl rfl ?_
    refine j_goto 21 dX12_appends_5 (by decide) ?_
    exact j_lret dX12_appends_21 rfl (k1 c0)
theorem b_X12_word_0 {l : Launch} {G : jG} {μ : jM} {φ : Int64 → jM → Prop} {x0 x1 x2 x3 x4 x5 x6 : Int32} {ψ0 : Int64 → jM → Prop} (hG : gMM G) (hP : gNN μ) 
    (e0 : jC0 l mX12_appends 0 G [.long 0, .int x0] μ (pJ ψ0)) 
    (k0 : ∀ v μ', ψ0 v μ' → J l mX12_word (jZ0 1 G (pJ φ)) G 0 0 5 [.null, .int x1, .int x2, .int x3, .int x4, .int x5, .int x6] [.long v] μ') :
    J l mX12_word (jZ0 1 G (pJ φ)) G 0 0 0 [.int x0, .int x1, .int x2, .int x3, .int x4, .int x5, .int x6] [] μ := by
  refine j_lconst 0 dX12_word_0 rfl (by decide) ?_
  refine j_iload_n dX12_word_1 rfl rfl ?_
  refine j_cS (as := [.long 0, .int x0]) (rest := []) dX12_word_2 rfl vw_X12_207 ⟨Nat.le_of_ble_eq_true rfl, Nat.le_of_ble_eq_true rfl⟩ rfl rfl (fun _ _ => Nat.le_of_ble_eq_true rfl) (e0 ) (fun r μ' hr => ?_)
  obtain ⟨v, rfl, hr⟩ := hr
  refine j_forget (ls' := [.null, .int x1, .int x2, .int x3, .int x4, .int x5, .int x6]) ⟨Or.inl rfl, Or.inr rfl, Or.inr rfl, Or.inr rfl, Or.inr rfl, Or.inr rfl, Or.inr rfl, trivial⟩ ?_
  exact k0  v μ' hr
theorem b_X12_word_5 {l : Launch} {G : jG} {μ : jM} {φ : Int64 → jM → Prop} {x1 x2 x3 x4 x5 x6 : Int32} {z0 : Int64} {ψ0 : Int64 → jM → Prop} (hG : gMM G) (hP : gNN μ) 
    (e0 : jC0 l mX12_appends 0 G [.long z0, .int x1] μ (pJ ψ0)) 
    (k0 : ∀ v μ', ψ0 v μ' → J l mX12_word (jZ0 1 G (pJ φ)) G 0 0 9 [.null, .null, .int x2, .int x3, .int x4, .int x5, .int x6] [.long v] μ') :
    J l mX12_word (jZ0 1 G (pJ φ)) G 0 0 5 [.null, .int x1, .int x2, .int x3, .int x4, .int x5, .int x6] [.long z0] μ := by
  refine j_iload_n dX12_word_5 rfl rfl ?_
  refine j_cS (as := [.long z0, .int x1]) (rest := []) dX12_word_6 rfl vw_X12_207 ⟨Nat.le_of_ble_eq_true rfl, Nat.le_of_ble_eq_true rfl⟩ rfl rfl (fun _ _ => Nat.le_of_ble_eq_true rfl) (e0 ) (fun r μ' hr => ?_)
  obtain ⟨v, rfl, hr⟩ := hr
  refine j_forget (ls' := [.null, .null, .int x2, .int x3, .int x4, .int x5, .int x6]) ⟨Or.inr rfl, Or.inl rfl, Or.inr rfl, Or.inr rfl, Or.inr rfl, Or.inr rfl, Or.inr rfl, trivial⟩ ?_
  exact k0  v μ' hr
theorem b_X12_word_9 {l : Launch} {G : jG} {μ : jM} {φ : Int64 → jM → Prop} {x2 x3 x4 x5 x6 : Int32} {z0 : Int64} {ψ0 : Int64 → jM → Prop} (hG : gMM G) (hP : gNN μ) 
    (e0 : jC0 l mX12_appends 0 G [.long z0, .int x2] μ (pJ ψ0)) 
    (k0 : ∀ v μ', ψ0 v μ' → J l mX12_word (jZ0 1 G (pJ φ)) G 0 0 13 [.null, .null, .null, .int x3, .int x4, .int x5, .int x6] [.long v] μ') :
    J l mX12_word (jZ0 1 G (pJ φ)) G 0 0 9 [.null, .null, .int x2, .int x3, .int x4, .int x5, .int x6] [.long z0] μ := by
  refine j_iload_n dX12_word_9 rfl rfl ?_
  refine j_cS (as := [.long z0, .int x2]) (rest := []) dX12_word_10 rfl vw_X12_207 ⟨Nat.le_of_ble_eq_true rfl, Nat.le_of_ble_eq_true rfl⟩ rfl rfl (fun _ _ => Nat.le_of_ble_eq_true rfl) (e0 ) (fun r μ' hr => ?_)
  obtain ⟨v, rfl, hr⟩ := hr
  refine j_forget (ls' := [.null, .null, .null, .int x3, .int x4, .int x5, .int x6]) ⟨Or.inr rfl, Or.inr rfl, Or.inl rfl, Or.inr rfl, Or.inr rfl, Or.inr rfl, Or.inr rfl, trivial⟩ ?_
  exact k0  v μ' hr
theorem b_X12_word_13 {l : Launch} {G : jG} {μ : jM} {φ : Int64 → jM → Prop} {x3 x4 x5 x6 : Int32} {z0 : Int64} {ψ0 : Int64 → jM → Prop} (hG : gMM G) (hP : gNN μ) 
    (e0 : jC0 l mX12_appends 0 G [.long z0, .int x3] μ (pJ ψ0)) 
    (k0 : ∀ v μ', ψ0 v μ' → J l mX12_word (jZ0 1 G (pJ φ)) G 0 0 17 [.null, .null, .null, .null, .int x4, .int x5, .int x6] [.long v] μ') :
    J l mX12_word (jZ0 1 G (pJ φ)) G 0 0 13 [.null, .null, .null, .int x3, .int x4, .int x5, .int x6] [.long z0] μ := by
  refine j_iload_n dX12_word_13 rfl rfl ?_
  refine j_cS (as := [.long z0, .int x3]) (rest := []) dX12_word_14 rfl vw_X12_207 ⟨Nat.le_of_ble_eq_true rfl, Nat.le_of_ble_eq_true rfl⟩ rfl rfl (fun _ _ => Nat.le_of_ble_eq_true rfl) (e0 ) (fun r μ' hr => ?_)
  obtain ⟨v, rfl, hr⟩ := hr
  refine j_forget (ls' := [.null, .null, .null, .null, .int x4, .int x5, .int x6]) ⟨Or.inr rfl, Or.inr rfl, Or.inr rfl, Or.inl rfl, Or.inr rfl, Or.inr rfl, Or.inr rfl, trivial⟩ ?_
  exact k0  v μ' hr
theorem b_X12_word_17 {l : Launch} {G : jG} {μ : jM} {φ : Int64 → jM → Prop} {x4 x5 x6 : Int32} {z0 : Int64} {ψ0 : Int64 → jM → Prop} (hG : gMM G) (hP : gNN μ) 
    (e0 : jC0 l mX12_appends 0 G [.long z0, .int x4] μ (pJ ψ0)) 
    (k0 : ∀ v μ', ψ0 v μ' → J l mX12_word (jZ0 1 G (pJ φ)) G 0 0 22 [.null, .null, .null, .null, .null, .int x5, .int x6] [.long v] μ') :
    J l mX12_word (jZ0 1 G (pJ φ)) G 0 0 17 [.null, .null, .null, .null, .int x4, .int x5, .int x6] [.long z0] μ := by
  refine j_iload dX12_word_17 rfl rfl ?_
  refine j_cS (as := [.long z0, .int x4]) (rest := []) dX12_word_19 rfl vw_X12_207 ⟨Nat.le_of_ble_eq_true rfl, Nat.le_of_ble_eq_true rfl⟩ rfl rfl (fun _ _ => Nat.le_of_ble_eq_true rfl) (e0 ) (fun r μ' hr => ?_)
  obtain ⟨v, rfl, hr⟩ := hr
  refine j_forget (ls' := [.null, .null, .null, .null, .null, .int x5, .int x6]) ⟨Or.inr rfl, Or.inr rfl, Or.inr rfl, Or.inr rfl, Or.inl rfl, Or.inr rfl, Or.inr rfl, trivial⟩ ?_
  exact k0  v μ' hr
theorem b_X12_word_22 {l : Launch} {G : jG} {μ : jM} {φ : Int64 → jM → Prop} {x5 x6 : Int32} {z0 : Int64} {ψ0 : Int64 → jM → Prop} (hG : gMM G) (hP : gNN μ) 
    (e0 : jC0 l mX12_appends 0 G [.long z0, .int x5] μ (pJ ψ0)) 
    (k0 : ∀ v μ', ψ0 v μ' → J l mX12_word (jZ0 1 G (pJ φ)) G 0 0 27 [.null, .null, .null, .null, .null, .null, .int x6] [.long v] μ') :
    J l mX12_word (jZ0 1 G (pJ φ)) G 0 0 22 [.null, .null, .null, .null, .null, .int x5, .int x6] [.long z0] μ := by
  refine j_iload dX12_word_22 rfl rfl ?_
  refine j_cS (as := [.long z0, .int x5]) (rest := []) dX12_word_24 rfl vw_X12_207 ⟨Nat.le_of_ble_eq_true rfl, Nat.le_of_ble_eq_true rfl⟩ rfl rfl (fun _ _ => Nat.le_of_ble_eq_true rfl) (e0 ) (fun r μ' hr => ?_)
  obtain ⟨v, rfl, hr⟩ := hr
  refine j_forget (ls' := [.null, .null, .null, .null, .null, .null, .int x6]) ⟨Or.inr rfl, Or.inr rfl, Or.inr rfl, Or.inr rfl, Or.inr rfl, Or.inl rfl, Or.inr rfl, trivial⟩ ?_
  exact k0  v μ' hr
theorem b_X12_word_27 {l : Launch} {G : jG} {μ : jM} {φ : Int64 → jM → Prop} {x6 : Int32} {z0 : Int64} {ψ0 : Int64 → jM → Prop} (hG : gMM G) (hP : gNN μ) 
    (e0 : jC0 l mX12_appends 0 G [.long z0, .int x6] μ (pJ ψ0)) 
    (k0 : ∀ v μ', ψ0 v μ' → J l mX12_word (jZ0 1 G (pJ φ)) G 0 0 32 [.null, .null, .null, .null, .null, .null, .null] [.long v] μ') :
    J l mX12_word (jZ0 1 G (pJ φ)) G 0 0 27 [.null, .null, .null, .null, .null, .null, .int x6] [.long z0] μ := by
  refine j_iload dX12_word_27 rfl rfl ?_
  refine j_cS (as := [.long z0, .int x6]) (rest := []) dX12_word_29 rfl vw_X12_207 ⟨Nat.le_of_ble_eq_true rfl, Nat.le_of_ble_eq_true rfl⟩ rfl rfl (fun _ _ => Nat.le_of_ble_eq_true rfl) (e0 ) (fun r μ' hr => ?_)
  obtain ⟨v, rfl, hr⟩ := hr
  refine j_forget (ls' := [.null, .null, .null, .null, .null, .null, .null]) ⟨Or.inr rfl, Or.inr rfl, Or.inr rfl, Or.inr rfl, Or.inr rfl, Or.inr rfl, Or.inl rfl, trivial⟩ ?_
  exact k0  v μ' hr
theorem b_X12_word_32 {l : Launch} {G : jG} {μ : jM} {φ : Int64 → jM → Prop} {z0 : Int64} (hG : gMM G) (hP : gNN μ) 
    (k0 : φ z0 μ) :
    J l mX12_word (jZ0 1 G (pJ φ)) G 0 0 32 [.null, .null, .null, .null, .null, .null, .null] [.long z0] μ := by
  exact j_lret dX12_word_32 rfl (k0 )
theorem b_X12_token_0 {l : Launch} {G : jG} {μ : jM} {φ : jM → Prop} {x1 x2 x3 : Int32} {x4 : Int64} (hG : gMM G) (hP : gNN μ) 
    (o0 : vp_in (μ.1 112 10) 403) 
    (k0 : φ (wI (wL (wI (wI (wI μ 115 (Int32.toNatClampNeg (μ.1 112 10)) x1) 116 (Int32.toNatClampNeg (μ.1 112 10)) x2) 117 (Int32.toNatClampNeg (μ.1 112 10)) x3) 118 (Int32.toNatClampNeg (μ.1 112 10)) x4) 112 10 ((μ.1 112 10) + 1))) :
    J l mX12_token (jZ0 0 G (pV φ)) G 0 0 0 [.ref 112, .int x1, .int x2, .int x3, .long x4, .null] [] μ := by
  refine j_aload_n dX12_token_0 rfl rfl ?_
  refine j_getR (ci := 12) (N := 80) (f := 5) (T := TX12) 115 dX12_token_1 rfl (hG 112 (17, 80) rfl) rfl (by decide) fl_X12_20 rfl (hP 112 5 115 rfl) ?_
  refine j_aload_n dX12_token_4 rfl rfl ?_
  refine j_getI (ci := 12) (N := 80) (f := 10) (T := TX12) dX12_token_5 rfl (hG 112 (17, 80) rfl) rfl (by decide) fl_X12_211 rfl ?_
  refine j_iload_n dX12_token_8 rfl rfl ?_
  refine j_iast' (j := (Int32.toNatClampNeg (μ.1 112 10))) dX12_token_9 rfl (hG 115 (0, 403) rfl) o0 rfl ?_
  refine j_aload_n dX12_token_10 rfl rfl ?_
  refine j_getR (ci := 12) (N := 80) (f := 6) (T := TX12) 116 dX12_token_11 rfl (hG 112 (17, 80) rfl) rfl (by decide) fl_X12_24 rfl (hP 112 6 116 rfl) ?_
  refine j_aload_n dX12_token_14 rfl rfl ?_
  refine j_getI (ci := 12) (N := 80) (f := 10) (T := TX12) dX12_token_15 rfl (hG 112 (17, 80) rfl) rfl (by decide) fl_X12_211 rfl ?_
  refine j_iload_n dX12_token_18 rfl rfl ?_
  refine j_iast' (j := (Int32.toNatClampNeg (μ.1 112 10))) dX12_token_19 rfl (hG 116 (0, 403) rfl) o0 rfl ?_
  refine j_aload_n dX12_token_20 rfl rfl ?_
  refine j_getR (ci := 12) (N := 80) (f := 7) (T := TX12) 117 dX12_token_21 rfl (hG 112 (17, 80) rfl) rfl (by decide) fl_X12_27 rfl (hP 112 7 117 rfl) ?_
  refine j_aload_n dX12_token_24 rfl rfl ?_
  refine j_getI (ci := 12) (N := 80) (f := 10) (T := TX12) dX12_token_25 rfl (hG 112 (17, 80) rfl) rfl (by decide) fl_X12_211 rfl ?_
  refine j_iload_n dX12_token_28 rfl rfl ?_
  refine j_iast' (j := (Int32.toNatClampNeg (μ.1 112 10))) dX12_token_29 rfl (hG 117 (0, 403) rfl) o0 rfl ?_
  refine j_aload_n dX12_token_30 rfl rfl ?_
  refine j_getR (ci := 12) (N := 80) (f := 8) (T := TX12) 118 dX12_token_31 rfl (hG 112 (17, 80) rfl) rfl (by decide) fl_X12_30 rfl (hP 112 8 118 rfl) ?_
  refine j_aload_n dX12_token_34 rfl rfl ?_
  refine j_getI (ci := 12) (N := 80) (f := 10) (T := TX12) dX12_token_35 rfl (hG 112 (17, 80) rfl) rfl (by decide) fl_X12_211 rfl ?_
  refine j_lload dX12_token_38 rfl rfl ?_
  refine j_last' (j := (Int32.toNatClampNeg (μ.1 112 10))) dX12_token_40 rfl (hG 118 (3, 403) rfl) o0 rfl ?_
  refine j_aload_n dX12_token_41 rfl rfl ?_
  refine j_dup dX12_token_42 rfl (fun _ _ => rfl) ?_
  refine j_getI (ci := 12) (N := 80) (f := 10) (T := TX12) dX12_token_43 rfl (hG 112 (17, 80) rfl) rfl (by decide) fl_X12_211 rfl ?_
  refine j_iconst 1 dX12_token_46 rfl (by decide) ?_
  refine j_iadd dX12_token_47 rfl ?_
  refine j_putI (ci := 12) (N := 80) (f := 10) (T := TX12) dX12_token_48 rfl (hG 112 (17, 80) rfl) rfl (by decide) fl_X12_211 rfl rfl ?_
  exact j_vret dX12_token_51 rfl (k0 )
theorem b_X12_cut_0 {l : Launch} {G : jG} {μ : jM} {φ : jM → Prop} (hG : gMM G) (hP : gNN μ) 
    (k0 : J l mX12_cut (jZ0 2 G (pV φ)) G 0 0 7 [.ref 112, .int 0, .null, .null, .null, .null, .null, .null] [] (wI μ 112 10 0)) :
    J l mX12_cut (jZ0 2 G (pV φ)) G 0 0 0 [.ref 112, .null, .null, .null, .null, .null, .null, .null] [] μ := by
  refine j_aload_n dX12_cut_0 rfl rfl ?_
  refine j_iconst 0 dX12_cut_1 rfl (by decide) ?_
  refine j_putI (ci := 12) (N := 80) (f := 10) (T := TX12) dX12_cut_2 rfl (hG 112 (17, 80) rfl) rfl (by decide) fl_X12_211 rfl rfl ?_
  refine j_iconst 0 dX12_cut_5 rfl (by decide) ?_
  refine j_istore_n (ls' := [.ref 112, .int 0, .null, .null, .null, .null, .null, .null]) dX12_cut_6 rfl rfl (Nat.le_of_ble_eq_true rfl) rfl ?_
  exact k0 
theorem b_X12_cut_7 {l : Launch} {G : jG} {μ : jM} {φ : jM → Prop} {x1 : Int32} {ψ1 : Int32 → jM → Prop} (hG : gMM G) (hP : gNN μ) 
    (k0 : (400 < ((μ.1 112 10) : Int32)) → φ μ) 
    (e1 : (¬ (400 < ((μ.1 112 10) : Int32))) → jC0 l mX12_byteAt 0 G [.ref 112, .int x1] μ (pI ψ1)) 
    (k1 : (¬ (400 < ((μ.1 112 10) : Int32))) → ∀ v μ', ψ1 v μ' → J l mX12_cut (jZ0 2 G (pV φ)) G 0 0 22 [.ref 112, .int x1, .null, .null, .null, .null, .null, .null] [.int v] μ') :
    J l mX12_cut (jZ0 2 G (pV φ)) G 0 0 7 [.ref 112, .int x1, .null, .null, .null, .null, .null, .null] [] μ := by
  refine j_aload_n dX12_cut_7 rfl rfl ?_
  refine j_getI (ci := 12) (N := 80) (f := 10) (T := TX12) dX12_cut_8 rfl (hG 112 (17, 80) rfl) rfl (by decide) fl_X12_211 rfl ?_
  refine j_sipush 400 dX12_cut_11 rfl (by decide) ?_
  refine j_icmp_gt 294 dX12_cut_14 rfl (by decide) (fun c0 => ?_) (fun c0 => ?_)
  · skip
    exact j_vret dX12_cut_294 rfl (k0 c0)
  · skip
    refine j_aload_n dX12_cut_17 rfl rfl ?_
    refine j_iload_n dX12_cut_18 rfl rfl ?_
    refine j_cV (as := [.int x1]) (rest := []) dX12_cut_19 rfl vw_X12_214 (hG 112 (17, 80) rfl) rfl ⟨Nat.le_of_ble_eq_true rfl, Nat.le_of_ble_eq_true rfl⟩ rfl rfl (fun _ _ => Nat.le_of_ble_eq_true rfl) (e1 c0) (fun r μ' hr => ?_)
    obtain ⟨v, rfl, hr⟩ := hr
    exact k1 c0 v μ' hr
theorem b_X12_cut_22 {l : Launch} {G : jG} {μ : jM} {φ : jM → Prop} {x1 z0 : Int32} {ψ3 : Int32 → jM → Prop} {ψ5 : jM → Prop} (hG : gMM G) (hP : gNN μ) 
    (k0 : (x1 < ((μ.1 112 4) : Int32)) → (z0 = (9 : Int32)) → J l mX12_cut (jZ0 2 G (pV φ)) G 0 0 7 [.ref 112, .int (x1 + 1), .null, .null, .null, .null, .null, .null] [] μ) 
    (k1 : (x1 < ((μ.1 112 4) : Int32)) → (¬ (z0 = (9 : Int32))) → (z0 = (10 : Int32)) → J l mX12_cut (jZ0 2 G (pV φ)) G 0 0 7 [.ref 112, .int (x1 + 1), .null, .null, .null, .null, .null, .null] [] μ) 
    (k2 : (x1 < ((μ.1 112 4) : Int32)) → (¬ (z0 = (9 : Int32))) → (¬ (z0 = (10 : Int32))) → (z0 = (13 : Int32)) → J l mX12_cut (jZ0 2 G (pV φ)) G 0 0 7 [.ref 112, .int (x1 + 1), .null, .null, .null, .null, .null, .null] [] μ) 
    (e3 : (x1 < ((μ.1 112 4) : Int32)) → (¬ (z0 = (9 : Int32))) → (¬ (z0 = (10 : Int32))) → (¬ (z0 = (13 : Int32))) → (¬ z0 = (32 : Int32)) → jC0 l mX12_isLetter 0 G [.int z0] μ (pI ψ3)) 
    (k3 : (x1 < ((μ.1 112 4) : Int32)) → (¬ (z0 = (9 : Int32))) → (¬ (z0 = (10 : Int32))) → (¬ (z0 = (13 : Int32))) → (¬ z0 = (32 : Int32)) → ∀ v μ', ψ3 v μ' → J l mX12_cut (jZ0 2 G (pV φ)) G 0 0 77 [.ref 112, .int x1, .int z0, .null, .null, .null, .null, .null] [.int v] μ') 
    (k4 : (x1 < ((μ.1 112 4) : Int32)) → (¬ (z0 = (9 : Int32))) → (¬ (z0 = (10 : Int32))) → (¬ (z0 = (13 : Int32))) → (z0 = (32 : Int32)) → J l mX12_cut (jZ0 2 G (pV φ)) G 0 0 7 [.ref 112, .int (x1 + 1), .null, .null, .null, .null, .null, .null] [] μ) 
    (e5 : (¬ (x1 < ((μ.1 112 4) : Int32))) → jC0 l mX12_token 0 G [.ref 112, .int 0, .int (μ.1 112 4), .int 0, .long 0] μ (pV ψ5)) 
    (k5 : (¬ (x1 < ((μ.1 112 4) : Int32))) → ∀ μ', ψ5 μ' → J l mX12_cut (jZ0 2 G (pV φ)) G 0 0 42 [.null, .null, .null, .null, .null, .null, .null, .null] [] μ') :
    J l mX12_cut (jZ0 2 G (pV φ)) G 0 0 22 [.ref 112, .int x1, .null, .null, .null, .null, .null, .null] [.int z0] μ := by
  refine j_istore_n (ls' := [.ref 112, .int x1, .int z0, .null, .null, .null, .null, .null]) dX12_cut_22 rfl rfl (Nat.le_of_ble_eq_true rfl) rfl ?_
  refine j_iload_n dX12_cut_23 rfl rfl ?_
  refine j_aload_n dX12_cut_24 rfl rfl ?_
  refine j_getI (ci := 12) (N := 80) (f := 4) (T := TX12) dX12_cut_25 rfl (hG 112 (17, 80) rfl) rfl (by decide) fl_X12_202 rfl ?_
  refine j_icmp_lt 43 dX12_cut_28 rfl (by decide) (fun c0 => ?_) (fun c0 => ?_)
  · skip
    refine j_iload_n dX12_cut_43 rfl rfl ?_
    refine j_bipush 9 dX12_cut_44 rfl (by decide) ?_
    refine j_icmp_eq 67 dX12_cut_46 rfl (by decide) (fun c1 => ?_) (fun c1 => ?_)
    · skip
      refine j_iinc (x1 + 1) (ls' := [.ref 112, .int (x1 + 1), .int z0, .null, .null, .null, .null, .null]) dX12_cut_67 rfl rfl rfl (Nat.le_of_ble_eq_true rfl) rfl ?_
      refine j_goto 291 dX12_cut_70 (by decide) ?_
      refine j_goto 7 dX12_cut_291 (by decide) ?_
      refine j_forget (ls' := [.ref 112, .int (x1 + 1), .null, .null, .null, .null, .null, .null]) ⟨Or.inr rfl, Or.inr rfl, Or.inl rfl, Or.inr rfl, Or.inr rfl, Or.inr rfl, Or.inr rfl, Or.inr rfl, trivial⟩ ?_
      exact k0 c0 c1
    · skip
      refine j_iload_n dX12_cut_49 rfl rfl ?_
      refine j_bipush 10 dX12_cut_50 rfl (by decide) ?_
      refine j_icmp_eq 67 dX12_cut_52 rfl (by decide) (fun c2 => ?_) (fun c2 => ?_)
      · skip
        refine j_iinc (x1 + 1) (ls' := [.ref 112, .int (x1 + 1), .int z0, .null, .null, .null, .null, .null]) dX12_cut_67 rfl rfl rfl (Nat.le_of_ble_eq_true rfl) rfl ?_
        refine j_goto 291 dX12_cut_70 (by decide) ?_
        refine j_goto 7 dX12_cut_291 (by decide) ?_
        refine j_forget (ls' := [.ref 112, .int (x1 + 1), .null, .null, .null, .null, .null, .null]) ⟨Or.inr rfl, Or.inr rfl, Or.inl rfl, Or.inr rfl, Or.inr rfl, Or.inr rfl, Or.inr rfl, Or.inr rfl, trivial⟩ ?_
        exact k1 c0 c1 c2
      · skip
        refine j_iload_n dX12_cut_55 rfl rfl ?_
        refine j_bipush 13 dX12_cut_56 rfl (by decide) ?_
        refine j_icmp_eq 67 dX12_cut_58 rfl (by decide) (fun c3 => ?_) (fun c3 => ?_)
        · skip
          refine j_iinc (x1 + 1) (ls' := [.ref 112, .int (x1 + 1), .int z0, .null, .null, .null, .null, .null]) dX12_cut_67 rfl rfl rfl (Nat.le_of_ble_eq_true rfl) rfl ?_
          refine j_goto 291 dX12_cut_70 (by decide) ?_
          refine j_goto 7 dX12_cut_291 (by decide) ?_
          refine j_forget (ls' := [.ref 112, .int (x1 + 1), .null, .null, .null, .null, .null, .null]) ⟨Or.inr rfl, Or.inr rfl, Or.inl rfl, Or.inr rfl, Or.inr rfl, Or.inr rfl, Or.inr rfl, Or.inr rfl, trivial⟩ ?_
          exact k2 c0 c1 c2 c3
        · skip
          refine j_iload_n dX12_cut_61 rfl rfl ?_
          refine j_bipush 32 dX12_cut_62 rfl (by decide) ?_
          refine j_icmp_ne 73 dX12_cut_64 rfl (by decide) (fun c4 => ?_) (fun c4 => ?_)
          · skip
            refine j_iload_n dX12_cut_73 rfl rfl ?_
            refine j_cS (as := [.int z0]) (rest := []) dX12_cut_74 rfl vw_X12_222 ⟨Nat.le_of_ble_eq_true rfl, Nat.le_of_ble_eq_true rfl⟩ rfl rfl (fun _ _ => Nat.le_of_ble_eq_true rfl) (e3 c0 c1 c2 c3 c4) (fun r μ' hr => ?_)
            obtain ⟨v, rfl, hr⟩ := hr
            exact k3 c0 c1 c2 c3 c4 v μ' hr
          · skip
            refine j_iinc (x1 + 1) (ls' := [.ref 112, .int (x1 + 1), .int z0, .null, .null, .null, .null, .null]) dX12_cut_67 rfl rfl rfl (Nat.le_of_ble_eq_true rfl) rfl ?_
            refine j_goto 291 dX12_cut_70 (by decide) ?_
            refine j_goto 7 dX12_cut_291 (by decide) ?_
            refine j_forget (ls' := [.ref 112, .int (x1 + 1), .null, .null, .null, .null, .null, .null]) ⟨Or.inr rfl, Or.inr rfl, Or.inl rfl, Or.inr rfl, Or.inr rfl, Or.inr rfl, Or.inr rfl, Or.inr rfl, trivial⟩ ?_
            exact k4 c0 c1 c2 c3 c4
  · skip
    refine j_aload_n dX12_cut_31 rfl rfl ?_
    refine j_iconst 0 dX12_cut_32 rfl (by decide) ?_
    refine j_aload_n dX12_cut_33 rfl rfl ?_
    refine j_getI (ci := 12) (N := 80) (f := 4) (T := TX12) dX12_cut_34 rfl (hG 112 (17, 80) rfl) rfl (by decide) fl_X12_202 rfl ?_
    refine j_iconst 0 dX12_cut_37 rfl (by decide) ?_
    refine j_lconst 0 dX12_cut_38 rfl (by decide) ?_
    refine j_cV (as := [.int 0, .int (μ.1 112 4), .int 0, .long 0]) (rest := []) dX12_cut_39 rfl vw_X12_218 (hG 112 (17, 80) rfl) rfl ⟨Nat.le_of_ble_eq_true rfl, Nat.le_of_ble_eq_true rfl⟩ rfl rfl (fun _ _ => Nat.le_of_ble_eq_true rfl) (e5 c0) (fun r μ' hr => ?_)
    obtain ⟨rfl, hr⟩ := hr
    refine j_forget (ls' := [.null, .null, .null, .null, .null, .null, .null, .null]) ⟨Or.inl rfl, Or.inl rfl, Or.inl rfl, Or.inr rfl, Or.inr rfl, Or.inr rfl, Or.inr rfl, Or.inr rfl, trivial⟩ ?_
    exact k5 c0 μ' hr
theorem b_X12_cut_42 {l : Launch} {G : jG} {μ : jM} {φ : jM → Prop} (hG : gMM G) (hP : gNN μ) 
    (k0 : φ μ) :
    J l mX12_cut (jZ0 2 G (pV φ)) G 0 0 42 [.null, .null, .null, .null, .null, .null, .null, .null] [] μ := by
  exact j_vret dX12_cut_42 rfl (k0 )
theorem b_X12_cut_77 {l : Launch} {G : jG} {μ : jM} {φ : jM → Prop} {x1 x2 z0 : Int32} {ψ0 : Int32 → jM → Prop} (hG : gMM G) (hP : gNN μ) 
    (e0 : (z0 = (0 : Int32)) → jC0 l mX12_isDigit 0 G [.int x2] μ (pI ψ0)) 
    (k0 : (z0 = (0 : Int32)) → ∀ v μ', ψ0 v μ' → J l mX12_cut (jZ0 2 G (pV φ)) G 0 0 200 [.ref 112, .int x1, .int x2, .null, .null, .null, .null, .null] [.int v] μ') 
    (k1 : (¬ (z0 = (0 : Int32))) → J l mX12_cut (jZ0 2 G (pV φ)) G 0 0 85 [.ref 112, .int x1, .null, .int 0, .long 0, .null, .null, .null] [] μ) :
    J l mX12_cut (jZ0 2 G (pV φ)) G 0 0 77 [.ref 112, .int x1, .int x2, .null, .null, .null, .null, .null] [.int z0] μ := by
  refine j_if_eq 196 dX12_cut_77 rfl (by decide) (fun c0 => ?_) (fun c0 => ?_)
  · skip
    refine j_iload_n dX12_cut_196 rfl rfl ?_
    refine j_cS (as := [.int x2]) (rest := []) dX12_cut_197 rfl vw_X12_226 ⟨Nat.le_of_ble_eq_true rfl, Nat.le_of_ble_eq_true rfl⟩ rfl rfl (fun _ _ => Nat.le_of_ble_eq_true rfl) (e0 c0) (fun r μ' hr => ?_)
    obtain ⟨v, rfl, hr⟩ := hr
    exact k0 c0 v μ' hr
  · skip
    refine j_iconst 0 dX12_cut_80 rfl (by decide) ?_
    refine j_istore_n (ls' := [.ref 112, .int x1, .int x2, .int 0, .null, .null, .null, .null]) dX12_cut_81 rfl rfl (Nat.le_of_ble_eq_true rfl) rfl ?_
    refine j_lconst 0 dX12_cut_82 rfl (by decide) ?_
    refine j_lstore (ls' := [.ref 112, .int x1, .int x2, .int 0, .long 0, .null, .null, .null]) dX12_cut_83 rfl (Nat.le_of_ble_eq_true rfl) rfl ?_
    refine j_forget (ls' := [.ref 112, .int x1, .null, .int 0, .long 0, .null, .null, .null]) ⟨Or.inr rfl, Or.inr rfl, Or.inl rfl, Or.inr rfl, Or.inr rfl, Or.inr rfl, Or.inr rfl, Or.inr rfl, trivial⟩ ?_
    exact k1 c0
theorem b_X12_cut_85 {l : Launch} {G : jG} {μ : jM} {φ : jM → Prop} {x1 x3 : Int32} {x4 : Int64} {ψ0 : Int32 → jM → Prop} (hG : gMM G) (hP : gNN μ) 
    (e0 : jC0 l mX12_byteAt 0 G [.ref 112, .int (x1 + x3)] μ (pI ψ0)) 
    (k0 : ∀ v μ', ψ0 v μ' → J l mX12_cut (jZ0 2 G (pV φ)) G 0 0 92 [.ref 112, .int x1, .null, .int x3, .long x4, .null, .null, .null] [.int v] μ') :
    J l mX12_cut (jZ0 2 G (pV φ)) G 0 0 85 [.ref 112, .int x1, .null, .int x3, .long x4, .null, .null, .null] [] μ := by
  refine j_aload_n dX12_cut_85 rfl rfl ?_
  refine j_iload_n dX12_cut_86 rfl rfl ?_
  refine j_iload_n dX12_cut_87 rfl rfl ?_
  refine j_iadd dX12_cut_88 rfl ?_
  refine j_cV (as := [.int (x1 + x3)]) (rest := []) dX12_cut_89 rfl vw_X12_214 (hG 112 (17, 80) rfl) rfl ⟨Nat.le_of_ble_eq_true rfl, Nat.le_of_ble_eq_true rfl⟩ rfl rfl (fun _ _ => Nat.le_of_ble_eq_true rfl) (e0 ) (fun r μ' hr => ?_)
  obtain ⟨v, rfl, hr⟩ := hr
  exact k0  v μ' hr
theorem b_X12_cut_92 {l : Launch} {G : jG} {μ : jM} {φ : jM → Prop} {x1 x3 z0 : Int32} {x4 : Int64} {ψ0 : Int32 → jM → Prop} (hG : gMM G) (hP : gNN μ) 
    (e0 : jC0 l mX12_isLetter 0 G [.int z0] μ (pI ψ0)) 
    (k0 : ∀ v μ', ψ0 v μ' → J l mX12_cut (jZ0 2 G (pV φ)) G 0 0 95 [.ref 112, .int x1, .null, .int x3, .long x4, .null, .null, .null] [.int v] μ') :
    J l mX12_cut (jZ0 2 G (pV φ)) G 0 0 92 [.ref 112, .int x1, .null, .int x3, .long x4, .null, .null, .null] [.int z0] μ := by
  refine j_cS (as := [.int z0]) (rest := []) dX12_cut_92 rfl vw_X12_222 ⟨Nat.le_of_ble_eq_true rfl, Nat.le_of_ble_eq_true rfl⟩ rfl rfl (fun _ _ => Nat.le_of_ble_eq_true rfl) (e0 ) (fun r μ' hr => ?_)
  obtain ⟨v, rfl, hr⟩ := hr
  exact k0  v μ' hr
theorem b_X12_cut_95 {l : Launch} {G : jG} {μ : jM} {φ : jM → Prop} {x1 x3 z0 : Int32} {x4 : Int64} {ψ0 : jM → Prop} {ψ2 : jM → Prop} {ψ5 : Int32 → jM → Prop} (hG : gMM G) (hP : gNN μ) 
    (e0 : (z0 = (0 : Int32)) → (x3 ≤ (8 : Int32)) → (7 < (x3 : Int32)) → jC0 l mX12_token 0 G [.ref 112, .int 1, .int x1, .int 0, .long x4] μ (pV ψ0)) 
    (k0 : (z0 = (0 : Int32)) → (x3 ≤ (8 : Int32)) → (7 < (x3 : Int32)) → ∀ μ', ψ0 μ' → J l mX12_cut (jZ0 2 G (pV φ)) G 0 0 189 [.ref 112, .int x1, .null, .int x3, .null, .null, .null, .null] [] μ') 
    (k1 : (z0 = (0 : Int32)) → (x3 ≤ (8 : Int32)) → (¬ (7 < (x3 : Int32))) → J l mX12_cut (jZ0 2 G (pV φ)) G 0 0 146 [.ref 112, .int x1, .null, .int x3, .long x4, .null, .int 1, .int 0] [] μ) 
    (e2 : (z0 = (0 : Int32)) → (¬ (x3 ≤ (8 : Int32))) → (7 < (x3 : Int32)) → jC0 l mX12_token 0 G [.ref 112, .int 3, .int x1, .int 0, .long x4] μ (pV ψ2)) 
    (k2 : (z0 = (0 : Int32)) → (¬ (x3 ≤ (8 : Int32))) → (7 < (x3 : Int32)) → ∀ μ', ψ2 μ' → J l mX12_cut (jZ0 2 G (pV φ)) G 0 0 189 [.ref 112, .int x1, .null, .int x3, .null, .null, .null, .null] [] μ') 
    (k3 : (z0 = (0 : Int32)) → (¬ (x3 ≤ (8 : Int32))) → (¬ (7 < (x3 : Int32))) → J l mX12_cut (jZ0 2 G (pV φ)) G 0 0 146 [.ref 112, .int x1, .null, .int x3, .long x4, .null, .int 3, .int 0] [] μ) 
    (k4 : (¬ (z0 = (0 : Int32))) → (8 ≤ (x3 : Int32)) → J l mX12_cut (jZ0 2 G (pV φ)) G 0 0 85 [.ref 112, .int x1, .null, .int (x3 + 1), .long x4, .null, .null, .null] [] μ) 
    (e5 : (¬ (z0 = (0 : Int32))) → (¬ (8 ≤ (x3 : Int32))) → jC0 l mX12_byteAt 0 G [.ref 112, .int (x1 + x3)] μ (pI ψ5)) 
    (k5 : (¬ (z0 = (0 : Int32))) → (¬ (8 ≤ (x3 : Int32))) → ∀ v μ', ψ5 v μ' → J l mX12_cut (jZ0 2 G (pV φ)) G 0 0 113 [.ref 112, .int x1, .null, .int x3, .null, .null, .null, .null] [.int v, .long x4] μ') :
    J l mX12_cut (jZ0 2 G (pV φ)) G 0 0 95 [.ref 112, .int x1, .null, .int x3, .long x4, .null, .null, .null] [.int z0] μ := by
  refine j_if_eq 124 dX12_cut_95 rfl (by decide) (fun c0 => ?_) (fun c0 => ?_)
  · skip
    refine j_iload_n dX12_cut_124 rfl rfl ?_
    refine j_bipush 8 dX12_cut_125 rfl (by decide) ?_
    refine j_icmp_le 134 dX12_cut_127 rfl (by decide) (fun c1 => ?_) (fun c1 => ?_)
    · skip
      refine j_iconst 1 dX12_cut_134 rfl (by decide) ?_
      refine j_istore (ls' := [.ref 112, .int x1, .null, .int x3, .long x4, .null, .int 1, .null]) dX12_cut_135 rfl (Nat.le_of_ble_eq_true rfl) rfl ?_
      refine j_iload_n dX12_cut_137 rfl rfl ?_
      refine j_bipush 7 dX12_cut_138 rfl (by decide) ?_
      refine j_icmp_gt 179 dX12_cut_140 rfl (by decide) (fun c2 => ?_) (fun c2 => ?_)
      · skip
        refine j_aload_n dX12_cut_179 rfl rfl ?_
        refine j_iload dX12_cut_180 rfl rfl ?_
        refine j_iload_n dX12_cut_182 rfl rfl ?_
        refine j_iconst 0 dX12_cut_183 rfl (by decide) ?_
        refine j_lload dX12_cut_184 rfl rfl ?_
        refine j_cV (as := [.int 1, .int x1, .int 0, .long x4]) (rest := []) dX12_cut_186 rfl vw_X12_218 (hG 112 (17, 80) rfl) rfl ⟨Nat.le_of_ble_eq_true rfl, Nat.le_of_ble_eq_true rfl⟩ rfl rfl (fun _ _ => Nat.le_of_ble_eq_true rfl) (e0 c0 c1 c2) (fun r μ' hr => ?_)
        obtain ⟨rfl, hr⟩ := hr
        refine j_forget (ls' := [.ref 112, .int x1, .null, .int x3, .null, .null, .null, .null]) ⟨Or.inr rfl, Or.inr rfl, Or.inr rfl, Or.inr rfl, Or.inl rfl, Or.inr rfl, Or.inl rfl, Or.inr rfl, trivial⟩ ?_
        exact k0 c0 c1 c2 μ' hr
      · skip
        refine j_iconst 0 dX12_cut_143 rfl (by decide) ?_
        refine j_istore (ls' := [.ref 112, .int x1, .null, .int x3, .long x4, .null, .int 1, .int 0]) dX12_cut_144 rfl (Nat.le_of_ble_eq_true rfl) rfl ?_
        exact k1 c0 c1 c2
    · skip
      refine j_iconst 3 dX12_cut_130 rfl (by decide) ?_
      refine j_goto 135 dX12_cut_131 (by decide) ?_
      refine j_istore (ls' := [.ref 112, .int x1, .null, .int x3, .long x4, .null, .int 3, .null]) dX12_cut_135 rfl (Nat.le_of_ble_eq_true rfl) rfl ?_
      refine j_iload_n dX12_cut_137 rfl rfl ?_
      refine j_bipush 7 dX12_cut_138 rfl (by decide) ?_
      refine j_icmp_gt 179 dX12_cut_140 rfl (by decide) (fun c3 => ?_) (fun c3 => ?_)
      · skip
        refine j_aload_n dX12_cut_179 rfl rfl ?_
        refine j_iload dX12_cut_180 rfl rfl ?_
        refine j_iload_n dX12_cut_182 rfl rfl ?_
        refine j_iconst 0 dX12_cut_183 rfl (by decide) ?_
        refine j_lload dX12_cut_184 rfl rfl ?_
        refine j_cV (as := [.int 3, .int x1, .int 0, .long x4]) (rest := []) dX12_cut_186 rfl vw_X12_218 (hG 112 (17, 80) rfl) rfl ⟨Nat.le_of_ble_eq_true rfl, Nat.le_of_ble_eq_true rfl⟩ rfl rfl (fun _ _ => Nat.le_of_ble_eq_true rfl) (e2 c0 c1 c3) (fun r μ' hr => ?_)
        obtain ⟨rfl, hr⟩ := hr
        refine j_forget (ls' := [.ref 112, .int x1, .null, .int x3, .null, .null, .null, .null]) ⟨Or.inr rfl, Or.inr rfl, Or.inr rfl, Or.inr rfl, Or.inl rfl, Or.inr rfl, Or.inl rfl, Or.inr rfl, trivial⟩ ?_
        exact k2 c0 c1 c3 μ' hr
      · skip
        refine j_iconst 0 dX12_cut_143 rfl (by decide) ?_
        refine j_istore (ls' := [.ref 112, .int x1, .null, .int x3, .long x4, .null, .int 3, .int 0]) dX12_cut_144 rfl (Nat.le_of_ble_eq_true rfl) rfl ?_
        exact k3 c0 c1 c3
  · skip
    refine j_iload_n dX12_cut_98 rfl rfl ?_
    refine j_bipush 8 dX12_cut_99 rfl (by decide) ?_
    refine j_icmp_ge 118 dX12_cut_101 rfl (by decide) (fun c4 => ?_) (fun c4 => ?_)
    · skip
      refine j_iinc (x3 + 1) (ls' := [.ref 112, .int x1, .null, .int (x3 + 1), .long x4, .null, .null, .null]) dX12_cut_118 rfl rfl rfl (Nat.le_of_ble_eq_true rfl) rfl ?_
      refine j_goto 85 dX12_cut_121 (by decide) ?_
      exact k4 c0 c4
    · skip
      refine j_lload dX12_cut_104 rfl rfl ?_
      refine j_aload_n dX12_cut_106 rfl rfl ?_
      refine j_iload_n dX12_cut_107 rfl rfl ?_
      refine j_iload_n dX12_cut_108 rfl rfl ?_
      refine j_iadd dX12_cut_109 rfl ?_
      refine j_cV (as := [.int (x1 + x3)]) (rest := [.long x4]) dX12_cut_110 rfl vw_X12_214 (hG 112 (17, 80) rfl) rfl ⟨Nat.le_of_ble_eq_true rfl, Nat.le_of_ble_eq_true rfl⟩ rfl rfl (fun _ _ => Nat.le_of_ble_eq_true rfl) (e5 c0 c4) (fun r μ' hr => ?_)
      obtain ⟨v, rfl, hr⟩ := hr
      refine j_forget (ls' := [.ref 112, .int x1, .null, .int x3, .null, .null, .null, .null]) ⟨Or.inr rfl, Or.inr rfl, Or.inr rfl, Or.inr rfl, Or.inl rfl, Or.inr rfl, Or.inr rfl, Or.inr rfl, trivial⟩ ?_
      exact k5 c0 c4 v μ' hr
theorem b_X12_cut_113 {l : Launch} {G : jG} {μ : jM} {φ : jM → Prop} {x1 x3 z0 : Int32} {z1 : Int64} {ψ0 : Int64 → jM → Prop} (hG : gMM G) (hP : gNN μ) 
    (e0 : jC0 l mX12_appends 0 G [.long z1, .int z0] μ (pJ ψ0)) 
    (k0 : ∀ v μ', ψ0 v μ' → J l mX12_cut (jZ0 2 G (pV φ)) G 0 0 116 [.ref 112, .int x1, .null, .int x3, .null, .null, .null, .null] [.long v] μ') :
    J l mX12_cut (jZ0 2 G (pV φ)) G 0 0 113 [.ref 112, .int x1, .null, .int x3, .null, .null, .null, .null] [.int z0, .long z1] μ := by
  refine j_cS (as := [.long z1, .int z0]) (rest := []) dX12_cut_113 rfl vw_X12_207 ⟨Nat.le_of_ble_eq_true rfl, Nat.le_of_ble_eq_true rfl⟩ rfl rfl (fun _ _ => Nat.le_of_ble_eq_true rfl) (e0 ) (fun r μ' hr => ?_)
  obtain ⟨v, rfl, hr⟩ := hr
  exact k0  v μ' hr
theorem b_X12_cut_116 {l : Launch} {G : jG} {μ : jM} {φ : jM → Prop} {x1 x3 : Int32} {z0 : Int64} (hG : gMM G) (hP : gNN μ) 
    (k0 : J l mX12_cut (jZ0 2 G (pV φ)) G 0 0 85 [.ref 112, .int x1, .null, .int (x3 + 1), .long z0, .null, .null, .null] [] μ) :
    J l mX12_cut (jZ0 2 G (pV φ)) G 0 0 116 [.ref 112, .int x1, .null, .int x3, .null, .null, .null, .null] [.long z0] μ := by
  refine j_lstore (ls' := [.ref 112, .int x1, .null, .int x3, .long z0, .null, .null, .null]) dX12_cut_116 rfl (Nat.le_of_ble_eq_true rfl) rfl ?_
  refine j_iinc (x3 + 1) (ls' := [.ref 112, .int x1, .null, .int (x3 + 1), .long z0, .null, .null, .null]) dX12_cut_118 rfl rfl rfl (Nat.le_of_ble_eq_true rfl) rfl ?_
  refine j_goto 85 dX12_cut_121 (by decide) ?_
  exact k0 
theorem b_X12_cut_146 {l : Launch} {G : jG} {μ : jM} {φ : jM → Prop} {x1 x3 x6 x7 : Int32} {x4 : Int64} {ψ0 : jM → Prop} (hG : gMM G) (hP : gNN μ) 
    (e0 : (23 ≤ (x7 : Int32)) → jC0 l mX12_token 0 G [.ref 112, .int x6, .int x1, .int 0, .long x4] μ (pV ψ0)) 
    (k0 : (23 ≤ (x7 : Int32)) → ∀ μ', ψ0 μ' → J l mX12_cut (jZ0 2 G (pV φ)) G 0 0 189 [.ref 112, .int x1, .null, .int x3, .null, .null, .null, .null] [] μ') 
    (o0 : (¬ (23 ≤ (x7 : Int32))) → vp_in x7 23) 
    (k1 : (¬ (23 ≤ (x7 : Int32))) → (¬ (lg_cmp (μ.2.1 119 (Int32.toNatClampNeg x7)) x4) = (0 : Int32)) → J l mX12_cut (jZ0 2 G (pV φ)) G 0 0 146 [.ref 112, .int x1, .null, .int x3, .long x4, .null, .int x6, .int (x7 + 1)] [] μ) 
    (k2 : (¬ (23 ≤ (x7 : Int32))) → ((lg_cmp (μ.2.1 119 (Int32.toNatClampNeg x7)) x4) = (0 : Int32)) → J l mX12_cut (jZ0 2 G (pV φ)) G 0 0 146 [.ref 112, .int x1, .null, .int x3, .long x4, .null, .int (20 + x7), .int (x7 + 1)] [] μ) :
    J l mX12_cut (jZ0 2 G (pV φ)) G 0 0 146 [.ref 112, .int x1, .null, .int x3, .long x4, .null, .int x6, .int x7] [] μ := by
  refine j_iload dX12_cut_146 rfl rfl ?_
  refine j_bipush 23 dX12_cut_148 rfl (by decide) ?_
  refine j_icmp_ge 179 dX12_cut_150 rfl (by decide) (fun c0 => ?_) (fun c0 => ?_)
  · skip
    refine j_aload_n dX12_cut_179 rfl rfl ?_
    refine j_iload dX12_cut_180 rfl rfl ?_
    refine j_iload_n dX12_cut_182 rfl rfl ?_
    refine j_iconst 0 dX12_cut_183 rfl (by decide) ?_
    refine j_lload dX12_cut_184 rfl rfl ?_
    refine j_cV (as := [.int x6, .int x1, .int 0, .long x4]) (rest := []) dX12_cut_186 rfl vw_X12_218 (hG 112 (17, 80) rfl) rfl ⟨Nat.le_of_ble_eq_true rfl, Nat.le_of_ble_eq_true rfl⟩ rfl rfl (fun _ _ => Nat.le_of_ble_eq_true rfl) (e0 c0) (fun r μ' hr => ?_)
    obtain ⟨rfl, hr⟩ := hr
    refine j_forget (ls' := [.ref 112, .int x1, .null, .int x3, .null, .null, .null, .null]) ⟨Or.inr rfl, Or.inr rfl, Or.inr rfl, Or.inr rfl, Or.inl rfl, Or.inr rfl, Or.inl rfl, Or.inl rfl, trivial⟩ ?_
    exact k0 c0 μ' hr
  · skip
    refine j_aload_n dX12_cut_153 rfl rfl ?_
    refine j_getR (ci := 12) (N := 80) (f := 9) (T := TX12) 119 dX12_cut_154 rfl (hG 112 (17, 80) rfl) rfl (by decide) fl_X12_34 rfl (hP 112 9 119 rfl) ?_
    refine j_iload dX12_cut_157 rfl rfl ?_
    refine j_lald' (j := (Int32.toNatClampNeg x7)) dX12_cut_159 rfl (hG 119 (3, 23) rfl) (o0 c0) rfl ?_
    refine j_lload dX12_cut_160 rfl rfl ?_
    refine j_lcmp dX12_cut_162 rfl ?_
    refine j_if_ne 173 dX12_cut_163 rfl (by decide) (fun c1 => ?_) (fun c1 => ?_)
    · skip
      refine j_iinc (x7 + 1) (ls' := [.ref 112, .int x1, .null, .int x3, .long x4, .null, .int x6, .int (x7 + 1)]) dX12_cut_173 rfl rfl rfl (Nat.le_of_ble_eq_true rfl) rfl ?_
      refine j_goto 146 dX12_cut_176 (by decide) ?_
      exact k1 c0 c1
    · skip
      refine j_bipush 20 dX12_cut_166 rfl (by decide) ?_
      refine j_iload dX12_cut_168 rfl rfl ?_
      refine j_iadd dX12_cut_170 rfl ?_
      refine j_istore (ls' := [.ref 112, .int x1, .null, .int x3, .long x4, .null, .int (20 + x7), .int x7]) dX12_cut_171 rfl (Nat.le_of_ble_eq_true rfl) rfl ?_
      refine j_iinc (x7 + 1) (ls' := [.ref 112, .int x1, .null, .int x3, .long x4, .null, .int (20 + x7), .int (x7 + 1)]) dX12_cut_173 rfl rfl rfl (Nat.le_of_ble_eq_true rfl) rfl ?_
      refine j_goto 146 dX12_cut_176 (by decide) ?_
      exact k2 c0 c1
theorem b_X12_cut_189 {l : Launch} {G : jG} {μ : jM} {φ : jM → Prop} {x1 x3 : Int32} (hG : gMM G) (hP : gNN μ) 
    (k0 : J l mX12_cut (jZ0 2 G (pV φ)) G 0 0 7 [.ref 112, .int (x1 + x3), .null, .null, .null, .null, .null, .null] [] μ) :
    J l mX12_cut (jZ0 2 G (pV φ)) G 0 0 189 [.ref 112, .int x1, .null, .int x3, .null, .null, .null, .null] [] μ := by
  refine j_iload_n dX12_cut_189 rfl rfl ?_
  refine j_iload_n dX12_cut_190 rfl rfl ?_
  refine j_iadd dX12_cut_191 rfl ?_
  refine j_istore_n (ls' := [.ref 112, .int (x1 + x3), .null, .int x3, .null, .null, .null, .null]) dX12_cut_192 rfl rfl (Nat.le_of_ble_eq_true rfl) rfl ?_
  refine j_goto 291 dX12_cut_193 (by decide) ?_
  refine j_goto 7 dX12_cut_291 (by decide) ?_
  refine j_forget (ls' := [.ref 112, .int (x1 + x3), .null, .null, .null, .null, .null, .null]) ⟨Or.inr rfl, Or.inr rfl, Or.inr rfl, Or.inl rfl, Or.inr rfl, Or.inr rfl, Or.inr rfl, Or.inr rfl, trivial⟩ ?_
  exact k0 
theorem b_X12_cut_200 {l : Launch} {G : jG} {μ : jM} {φ : jM → Prop} {x1 x2 z0 : Int32} {ψ0 : Int32 → jM → Prop} (hG : gMM G) (hP : gNN μ) 
    (e0 : (z0 = (0 : Int32)) → jC0 l mX12_byteAt 0 G [.ref 112, .int (x1 + 1)] μ (pI ψ0)) 
    (k0 : (z0 = (0 : Int32)) → ∀ v μ', ψ0 v μ' → J l mX12_cut (jZ0 2 G (pV φ)) G 0 0 286 [.ref 112, .null, .null, .null, .null, .null, .null, .null] [.int v, .int x2, .int x1, .ref 112, .int x1] μ') 
    (k1 : (¬ (z0 = (0 : Int32))) → J l mX12_cut (jZ0 2 G (pV φ)) G 0 0 208 [.ref 112, .int x1, .null, .int 0, .int 0, .null, .null, .null] [] μ) :
    J l mX12_cut (jZ0 2 G (pV φ)) G 0 0 200 [.ref 112, .int x1, .int x2, .null, .null, .null, .null, .null] [.int z0] μ := by
  refine j_if_eq 275 dX12_cut_200 rfl (by decide) (fun c0 => ?_) (fun c0 => ?_)
  · skip
    refine j_iload_n dX12_cut_275 rfl rfl ?_
    refine j_aload_n dX12_cut_276 rfl rfl ?_
    refine j_iload_n dX12_cut_277 rfl rfl ?_
    refine j_iload_n dX12_cut_278 rfl rfl ?_
    refine j_aload_n dX12_cut_279 rfl rfl ?_
    refine j_iload_n dX12_cut_280 rfl rfl ?_
    refine j_iconst 1 dX12_cut_281 rfl (by decide) ?_
    refine j_iadd dX12_cut_282 rfl ?_
    refine j_cV (as := [.int (x1 + 1)]) (rest := [.int x2, .int x1, .ref 112, .int x1]) dX12_cut_283 rfl vw_X12_214 (hG 112 (17, 80) rfl) rfl ⟨Nat.le_of_ble_eq_true rfl, Nat.le_of_ble_eq_true rfl⟩ rfl rfl (fun _ _ => Nat.le_of_ble_eq_true rfl) (e0 c0) (fun r μ' hr => ?_)
    obtain ⟨v, rfl, hr⟩ := hr
    refine j_forget (ls' := [.ref 112, .null, .null, .null, .null, .null, .null, .null]) ⟨Or.inr rfl, Or.inl rfl, Or.inl rfl, Or.inr rfl, Or.inr rfl, Or.inr rfl, Or.inr rfl, Or.inr rfl, trivial⟩ ?_
    exact k0 c0 v μ' hr
  · skip
    refine j_iconst 0 dX12_cut_203 rfl (by decide) ?_
    refine j_istore_n (ls' := [.ref 112, .int x1, .int x2, .int 0, .null, .null, .null, .null]) dX12_cut_204 rfl rfl (Nat.le_of_ble_eq_true rfl) rfl ?_
    refine j_iconst 0 dX12_cut_205 rfl (by decide) ?_
    refine j_istore (ls' := [.ref 112, .int x1, .int x2, .int 0, .int 0, .null, .null, .null]) dX12_cut_206 rfl (Nat.le_of_ble_eq_true rfl) rfl ?_
    refine j_forget (ls' := [.ref 112, .int x1, .null, .int 0, .int 0, .null, .null, .null]) ⟨Or.inr rfl, Or.inr rfl, Or.inl rfl, Or.inr rfl, Or.inr rfl, Or.inr rfl, Or.inr rfl, Or.inr rfl, trivial⟩ ?_
    exact k1 c0
theorem b_X12_cut_208 {l : Launch} {G : jG} {μ : jM} {φ : jM → Prop} {x1 x3 x4 : Int32} {ψ0 : Int32 → jM → Prop} (hG : gMM G) (hP : gNN μ) 
    (e0 : jC0 l mX12_byteAt 0 G [.ref 112, .int (x1 + x3)] μ (pI ψ0)) 
    (k0 : ∀ v μ', ψ0 v μ' → J l mX12_cut (jZ0 2 G (pV φ)) G 0 0 215 [.ref 112, .int x1, .null, .int x3, .int x4, .null, .null, .null] [.int v] μ') :
    J l mX12_cut (jZ0 2 G (pV φ)) G 0 0 208 [.ref 112, .int x1, .null, .int x3, .int x4, .null, .null, .null] [] μ := by
  refine j_aload_n dX12_cut_208 rfl rfl ?_
  refine j_iload_n dX12_cut_209 rfl rfl ?_
  refine j_iload_n dX12_cut_210 rfl rfl ?_
  refine j_iadd dX12_cut_211 rfl ?_
  refine j_cV (as := [.int (x1 + x3)]) (rest := []) dX12_cut_212 rfl vw_X12_214 (hG 112 (17, 80) rfl) rfl ⟨Nat.le_of_ble_eq_true rfl, Nat.le_of_ble_eq_true rfl⟩ rfl rfl (fun _ _ => Nat.le_of_ble_eq_true rfl) (e0 ) (fun r μ' hr => ?_)
  obtain ⟨v, rfl, hr⟩ := hr
  exact k0  v μ' hr
theorem b_X12_cut_215 {l : Launch} {G : jG} {μ : jM} {φ : jM → Prop} {x1 x3 x4 z0 : Int32} {ψ0 : Int32 → jM → Prop} (hG : gMM G) (hP : gNN μ) 
    (e0 : jC0 l mX12_isDigit 0 G [.int z0] μ (pI ψ0)) 
    (k0 : ∀ v μ', ψ0 v μ' → J l mX12_cut (jZ0 2 G (pV φ)) G 0 0 218 [.ref 112, .int x1, .null, .int x3, .int x4, .null, .null, .null] [.int v] μ') :
    J l mX12_cut (jZ0 2 G (pV φ)) G 0 0 215 [.ref 112, .int x1, .null, .int x3, .int x4, .null, .null, .null] [.int z0] μ := by
  refine j_cS (as := [.int z0]) (rest := []) dX12_cut_215 rfl vw_X12_226 ⟨Nat.le_of_ble_eq_true rfl, Nat.le_of_ble_eq_true rfl⟩ rfl rfl (fun _ _ => Nat.le_of_ble_eq_true rfl) (e0 ) (fun r μ' hr => ?_)
  obtain ⟨v, rfl, hr⟩ := hr
  exact k0  v μ' hr
theorem b_X12_cut_218 {l : Launch} {G : jG} {μ : jM} {φ : jM → Prop} {x1 x3 x4 z0 : Int32} {ψ0 : jM → Prop} {ψ1 : jM → Prop} {ψ3 : Int32 → jM → Prop} (hG : gMM G) (hP : gNN μ) 
    (e0 : (z0 = (0 : Int32)) → (x3 ≤ (4 : Int32)) → jC0 l mX12_token 0 G [.ref 112, .int 2, .int x1, .int x4, .long 0] μ (pV ψ0)) 
    (k0 : (z0 = (0 : Int32)) → (x3 ≤ (4 : Int32)) → ∀ μ', ψ0 μ' → J l mX12_cut (jZ0 2 G (pV φ)) G 0 0 268 [.ref 112, .int x1, .null, .int x3, .null, .null, .null, .null] [] μ') 
    (e1 : (z0 = (0 : Int32)) → (¬ (x3 ≤ (4 : Int32))) → jC0 l mX12_token 0 G [.ref 112, .int 3, .int x1, .int x4, .long 0] μ (pV ψ1)) 
    (k1 : (z0 = (0 : Int32)) → (¬ (x3 ≤ (4 : Int32))) → ∀ μ', ψ1 μ' → J l mX12_cut (jZ0 2 G (pV φ)) G 0 0 268 [.ref 112, .int x1, .null, .int x3, .null, .null, .null, .null] [] μ') 
    (k2 : (¬ (z0 = (0 : Int32))) → (4 ≤ (x3 : Int32)) → J l mX12_cut (jZ0 2 G (pV φ)) G 0 0 208 [.ref 112, .int x1, .null, .int (x3 + 1), .int x4, .null, .null, .null] [] μ) 
    (e3 : (¬ (z0 = (0 : Int32))) → (¬ (4 ≤ (x3 : Int32))) → jC0 l mX12_byteAt 0 G [.ref 112, .int (x1 + x3)] μ (pI ψ3)) 
    (k3 : (¬ (z0 = (0 : Int32))) → (¬ (4 ≤ (x3 : Int32))) → ∀ v μ', ψ3 v μ' → J l mX12_cut (jZ0 2 G (pV φ)) G 0 0 238 [.ref 112, .int x1, .null, .int x3, .null, .null, .null, .null] [.int v, .int (10 * x4)] μ') :
    J l mX12_cut (jZ0 2 G (pV φ)) G 0 0 218 [.ref 112, .int x1, .null, .int x3, .int x4, .null, .null, .null] [.int z0] μ := by
  refine j_if_eq 250 dX12_cut_218 rfl (by decide) (fun c0 => ?_) (fun c0 => ?_)
  · skip
    refine j_aload_n dX12_cut_250 rfl rfl ?_
    refine j_iload_n dX12_cut_251 rfl rfl ?_
    refine j_iconst 4 dX12_cut_252 rfl (by decide) ?_
    refine j_icmp_le 260 dX12_cut_253 rfl (by decide) (fun c1 => ?_) (fun c1 => ?_)
    · skip
      refine j_iconst 2 dX12_cut_260 rfl (by decide) ?_
      refine j_iload_n dX12_cut_261 rfl rfl ?_
      refine j_iload dX12_cut_262 rfl rfl ?_
      refine j_lconst 0 dX12_cut_264 rfl (by decide) ?_
      refine j_cV (as := [.int 2, .int x1, .int x4, .long 0]) (rest := []) dX12_cut_265 rfl vw_X12_218 (hG 112 (17, 80) rfl) rfl ⟨Nat.le_of_ble_eq_true rfl, Nat.le_of_ble_eq_true rfl⟩ rfl rfl (fun _ _ => Nat.le_of_ble_eq_true rfl) (e0 c0 c1) (fun r μ' hr => ?_)
      obtain ⟨rfl, hr⟩ := hr
      refine j_forget (ls' := [.ref 112, .int x1, .null, .int x3, .null, .null, .null, .null]) ⟨Or.inr rfl, Or.inr rfl, Or.inr rfl, Or.inr rfl, Or.inl rfl, Or.inr rfl, Or.inr rfl, Or.inr rfl, trivial⟩ ?_
      exact k0 c0 c1 μ' hr
    · skip
      refine j_iconst 3 dX12_cut_256 rfl (by decide) ?_
      refine j_goto 261 dX12_cut_257 (by decide) ?_
      refine j_iload_n dX12_cut_261 rfl rfl ?_
      refine j_iload dX12_cut_262 rfl rfl ?_
      refine j_lconst 0 dX12_cut_264 rfl (by decide) ?_
      refine j_cV (as := [.int 3, .int x1, .int x4, .long 0]) (rest := []) dX12_cut_265 rfl vw_X12_218 (hG 112 (17, 80) rfl) rfl ⟨Nat.le_of_ble_eq_true rfl, Nat.le_of_ble_eq_true rfl⟩ rfl rfl (fun _ _ => Nat.le_of_ble_eq_true rfl) (e1 c0 c1) (fun r μ' hr => ?_)
      obtain ⟨rfl, hr⟩ := hr
      refine j_forget (ls' := [.ref 112, .int x1, .null, .int x3, .null, .null, .null, .null]) ⟨Or.inr rfl, Or.inr rfl, Or.inr rfl, Or.inr rfl, Or.inl rfl, Or.inr rfl, Or.inr rfl, Or.inr rfl, trivial⟩ ?_
      exact k1 c0 c1 μ' hr
  · skip
    refine j_iload_n dX12_cut_221 rfl rfl ?_
    refine j_iconst 4 dX12_cut_222 rfl (by decide) ?_
    refine j_icmp_ge 244 dX12_cut_223 rfl (by decide) (fun c2 => ?_) (fun c2 => ?_)
    · skip
      refine j_iinc (x3 + 1) (ls' := [.ref 112, .int x1, .null, .int (x3 + 1), .int x4, .null, .null, .null]) dX12_cut_244 rfl rfl rfl (Nat.le_of_ble_eq_true rfl) rfl ?_
      refine j_goto 208 dX12_cut_247 (by decide) ?_
      exact k2 c0 c2
    · skip
      refine j_bipush 10 dX12_cut_226 rfl (by decide) ?_
      refine j_iload dX12_cut_228 rfl rfl ?_
      refine j_imul dX12_cut_230 rfl ?_
      refine j_aload_n dX12_cut_231 rfl rfl ?_
      refine j_iload_n dX12_cut_232 rfl rfl ?_
      refine j_iload_n dX12_cut_233 rfl rfl ?_
      refine j_iadd dX12_cut_234 rfl ?_
      refine j_cV (as := [.int (x1 + x3)]) (rest := [.int (10 * x4)]) dX12_cut_235 rfl vw_X12_214 (hG 112 (17, 80) rfl) rfl ⟨Nat.le_of_ble_eq_true rfl, Nat.le_of_ble_eq_true rfl⟩ rfl rfl (fun _ _ => Nat.le_of_ble_eq_true rfl) (e3 c0 c2) (fun r μ' hr => ?_)
      obtain ⟨v, rfl, hr⟩ := hr
      refine j_forget (ls' := [.ref 112, .int x1, .null, .int x3, .null, .null, .null, .null]) ⟨Or.inr rfl, Or.inr rfl, Or.inr rfl, Or.inr rfl, Or.inl rfl, Or.inr rfl, Or.inr rfl, Or.inr rfl, trivial⟩ ?_
      exact k3 c0 c2 v μ' hr
theorem b_X12_cut_238 {l : Launch} {G : jG} {μ : jM} {φ : jM → Prop} {x1 x3 z0 z1 : Int32} (hG : gMM G) (hP : gNN μ) 
    (k0 : J l mX12_cut (jZ0 2 G (pV φ)) G 0 0 208 [.ref 112, .int x1, .null, .int (x3 + 1), .int ((z1 + z0) - 48), .null, .null, .null] [] μ) :
    J l mX12_cut (jZ0 2 G (pV φ)) G 0 0 238 [.ref 112, .int x1, .null, .int x3, .null, .null, .null, .null] [.int z0, .int z1] μ := by
  refine j_iadd dX12_cut_238 rfl ?_
  refine j_bipush 48 dX12_cut_239 rfl (by decide) ?_
  refine j_isub dX12_cut_241 rfl ?_
  refine j_istore (ls' := [.ref 112, .int x1, .null, .int x3, .int ((z1 + z0) - 48), .null, .null, .null]) dX12_cut_242 rfl (Nat.le_of_ble_eq_true rfl) rfl ?_
  refine j_iinc (x3 + 1) (ls' := [.ref 112, .int x1, .null, .int (x3 + 1), .int ((z1 + z0) - 48), .null, .null, .null]) dX12_cut_244 rfl rfl rfl (Nat.le_of_ble_eq_true rfl) rfl ?_
  refine j_goto 208 dX12_cut_247 (by decide) ?_
  exact k0 
theorem b_X12_cut_268 {l : Launch} {G : jG} {μ : jM} {φ : jM → Prop} {x1 x3 : Int32} (hG : gMM G) (hP : gNN μ) 
    (k0 : J l mX12_cut (jZ0 2 G (pV φ)) G 0 0 7 [.ref 112, .int (x1 + x3), .null, .null, .null, .null, .null, .null] [] μ) :
    J l mX12_cut (jZ0 2 G (pV φ)) G 0 0 268 [.ref 112, .int x1, .null, .int x3, .null, .null, .null, .null] [] μ := by
  refine j_iload_n dX12_cut_268 rfl rfl ?_
  refine j_iload_n dX12_cut_269 rfl rfl ?_
  refine j_iadd dX12_cut_270 rfl ?_
  refine j_istore_n (ls' := [.ref 112, .int (x1 + x3), .null, .int x3, .null, .null, .null, .null]) dX12_cut_271 rfl rfl (Nat.le_of_ble_eq_true rfl) rfl ?_
  refine j_goto 291 dX12_cut_272 (by decide) ?_
  refine j_goto 7 dX12_cut_291 (by decide) ?_
  refine j_forget (ls' := [.ref 112, .int (x1 + x3), .null, .null, .null, .null, .null, .null]) ⟨Or.inr rfl, Or.inr rfl, Or.inr rfl, Or.inl rfl, Or.inr rfl, Or.inr rfl, Or.inr rfl, Or.inr rfl, trivial⟩ ?_
  exact k0 
theorem b_X12_cut_286 {l : Launch} {G : jG} {μ : jM} {φ : jM → Prop} {z0 z1 z2 z4 : Int32} {ψ0 : Int32 → jM → Prop} (hG : gMM G) (hP : gNN μ) 
    (e0 : jC0 l mX12_sign 1 G [.ref 112, .int z2, .int z1, .int z0] μ (pI ψ0)) 
    (k0 : ∀ v μ', ψ0 v μ' → J l mX12_cut (jZ0 2 G (pV φ)) G 0 0 289 [.ref 112, .null, .null, .null, .null, .null, .null, .null] [.int v, .int z4] μ') :
    J l mX12_cut (jZ0 2 G (pV φ)) G 0 0 286 [.ref 112, .null, .null, .null, .null, .null, .null, .null] [.int z0, .int z1, .int z2, .ref 112, .int z4] μ := by
  refine j_cV (as := [.int z2, .int z1, .int z0]) (rest := [.int z4]) dX12_cut_286 rfl vw_X12_229 (hG 112 (17, 80) rfl) rfl ⟨Nat.le_of_ble_eq_true rfl, Nat.le_of_ble_eq_true rfl⟩ rfl rfl (fun _ _ => Nat.le_of_ble_eq_true rfl) (e0 ) (fun r μ' hr => ?_)
  obtain ⟨v, rfl, hr⟩ := hr
  exact k0  v μ' hr
theorem b_X12_cut_289 {l : Launch} {G : jG} {μ : jM} {φ : jM → Prop} {z0 z1 : Int32} (hG : gMM G) (hP : gNN μ) 
    (k0 : J l mX12_cut (jZ0 2 G (pV φ)) G 0 0 7 [.ref 112, .int (z1 + z0), .null, .null, .null, .null, .null, .null] [] μ) :
    J l mX12_cut (jZ0 2 G (pV φ)) G 0 0 289 [.ref 112, .null, .null, .null, .null, .null, .null, .null] [.int z0, .int z1] μ := by
  refine j_iadd dX12_cut_289 rfl ?_
  refine j_istore_n (ls' := [.ref 112, .int (z1 + z0), .null, .null, .null, .null, .null, .null]) dX12_cut_290 rfl rfl (Nat.le_of_ble_eq_true rfl) rfl ?_
  refine j_goto 7 dX12_cut_291 (by decide) ?_
  exact k0 
theorem b_X12_sign_0 {l : Launch} {G : jG} {μ : jM} {φ : Int32 → jM → Prop} {x1 x2 x3 : Int32} (hG : gMM G) (hP : gNN μ) 
    (k0 : (¬ x2 = (59 : Int32)) → (¬ x2 = (61 : Int32)) → (¬ x2 = (40 : Int32)) → (¬ x2 = (41 : Int32)) → J l mX12_sign (jZ0 1 G (pI φ)) G 0 0 43 [.ref 112, .int x1, .int x2, .null, .null] [.int 3] μ) 
    (k1 : (¬ x2 = (59 : Int32)) → (¬ x2 = (61 : Int32)) → (¬ x2 = (40 : Int32)) → (x2 = (41 : Int32)) → J l mX12_sign (jZ0 1 G (pI φ)) G 0 0 43 [.ref 112, .int x1, .int x2, .null, .null] [.int 7] μ) 
    (k2 : (¬ x2 = (59 : Int32)) → (¬ x2 = (61 : Int32)) → (x2 = (40 : Int32)) → J l mX12_sign (jZ0 1 G (pI φ)) G 0 0 43 [.ref 112, .int x1, .int x2, .null, .null] [.int 6] μ) 
    (k3 : (¬ x2 = (59 : Int32)) → (x2 = (61 : Int32)) → J l mX12_sign (jZ0 1 G (pI φ)) G 0 0 43 [.ref 112, .int x1, .int x2, .null, .null] [.int 5] μ) 
    (k4 : (x2 = (59 : Int32)) → J l mX12_sign (jZ0 1 G (pI φ)) G 0 0 43 [.ref 112, .int x1, .int x2, .null, .null] [.int 4] μ) :
    J l mX12_sign (jZ0 1 G (pI φ)) G 0 0 0 [.ref 112, .int x1, .int x2, .int x3, .null] [] μ := by
  refine j_iload_n dX12_sign_0 rfl rfl ?_
  refine j_bipush 59 dX12_sign_1 rfl (by decide) ?_
  refine j_icmp_ne 10 dX12_sign_3 rfl (by decide) (fun c0 => ?_) (fun c0 => ?_)
  · skip
    refine j_iload_n dX12_sign_10 rfl rfl ?_
    refine j_bipush 61 dX12_sign_11 rfl (by decide) ?_
    refine j_icmp_ne 20 dX12_sign_13 rfl (by decide) (fun c1 => ?_) (fun c1 => ?_)
    · skip
      refine j_iload_n dX12_sign_20 rfl rfl ?_
      refine j_bipush 40 dX12_sign_21 rfl (by decide) ?_
      refine j_icmp_ne 31 dX12_sign_23 rfl (by decide) (fun c2 => ?_) (fun c2 => ?_)
      · skip
        refine j_iload_n dX12_sign_31 rfl rfl ?_
        refine j_bipush 41 dX12_sign_32 rfl (by decide) ?_
        refine j_icmp_ne 42 dX12_sign_34 rfl (by decide) (fun c3 => ?_) (fun c3 => ?_)
        · skip
          refine j_iconst 3 dX12_sign_42 rfl (by decide) ?_
          refine j_forget (ls' := [.ref 112, .int x1, .int x2, .null, .null]) ⟨Or.inr rfl, Or.inr rfl, Or.inr rfl, Or.inl rfl, Or.inr rfl, trivial⟩ ?_
          exact k0 c0 c1 c2 c3
        · skip
          refine j_bipush 7 dX12_sign_37 rfl (by decide) ?_
          refine j_goto 43 dX12_sign_39 (by decide) ?_
          refine j_forget (ls' := [.ref 112, .int x1, .int x2, .null, .null]) ⟨Or.inr rfl, Or.inr rfl, Or.inr rfl, Or.inl rfl, Or.inr rfl, trivial⟩ ?_
          exact k1 c0 c1 c2 c3
      · skip
        refine j_bipush 6 dX12_sign_26 rfl (by decide) ?_
        refine j_goto 43 dX12_sign_28 (by decide) ?_
        refine j_forget (ls' := [.ref 112, .int x1, .int x2, .null, .null]) ⟨Or.inr rfl, Or.inr rfl, Or.inr rfl, Or.inl rfl, Or.inr rfl, trivial⟩ ?_
        exact k2 c0 c1 c2
    · skip
      refine j_iconst 5 dX12_sign_16 rfl (by decide) ?_
      refine j_goto 43 dX12_sign_17 (by decide) ?_
      refine j_forget (ls' := [.ref 112, .int x1, .int x2, .null, .null]) ⟨Or.inr rfl, Or.inr rfl, Or.inr rfl, Or.inl rfl, Or.inr rfl, trivial⟩ ?_
      exact k3 c0 c1
  · skip
    refine j_iconst 4 dX12_sign_6 rfl (by decide) ?_
    refine j_goto 43 dX12_sign_7 (by decide) ?_
    refine j_forget (ls' := [.ref 112, .int x1, .int x2, .null, .null]) ⟨Or.inr rfl, Or.inr rfl, Or.inr rfl, Or.inl rfl, Or.inr rfl, trivial⟩ ?_
    exact k4 c0
theorem b_X12_sign_43 {l : Launch} {G : jG} {μ : jM} {φ : Int32 → jM → Prop} {x1 x2 z0 : Int32} (hG : gMM G) (hP : gNN μ) 
    (k0 : (¬ x2 = (43 : Int32)) → J l mX12_sign (jZ0 1 G (pI φ)) G 0 0 55 [.ref 112, .int x1, .int x2, .null, .int z0] [] μ) 
    (k1 : (x2 = (43 : Int32)) → J l mX12_sign (jZ0 1 G (pI φ)) G 0 0 55 [.ref 112, .int x1, .int x2, .null, .int 8] [] μ) :
    J l mX12_sign (jZ0 1 G (pI φ)) G 0 0 43 [.ref 112, .int x1, .int x2, .null, .null] [.int z0] μ := by
  refine j_istore (ls' := [.ref 112, .int x1, .int x2, .null, .int z0]) dX12_sign_43 rfl (Nat.le_of_ble_eq_true rfl) rfl ?_
  refine j_iload_n dX12_sign_45 rfl rfl ?_
  refine j_bipush 43 dX12_sign_46 rfl (by decide) ?_
  refine j_icmp_ne 55 dX12_sign_48 rfl (by decide) (fun c0 => ?_) (fun c0 => ?_)
  · skip
    exact k0 c0
  · skip
    refine j_bipush 8 dX12_sign_51 rfl (by decide) ?_
    refine j_istore (ls' := [.ref 112, .int x1, .int x2, .null, .int 8]) dX12_sign_53 rfl (Nat.le_of_ble_eq_true rfl) rfl ?_
    exact k1 c0
theorem b_X12_sign_55 {l : Launch} {G : jG} {μ : jM} {φ : Int32 → jM → Prop} {x1 x2 x4 : Int32} (hG : gMM G) (hP : gNN μ) 
    (k0 : (¬ x2 = (45 : Int32)) → J l mX12_sign (jZ0 1 G (pI φ)) G 0 0 65 [.ref 112, .int x1, .int x2, .null, .int x4] [] μ) 
    (k1 : (x2 = (45 : Int32)) → J l mX12_sign (jZ0 1 G (pI φ)) G 0 0 65 [.ref 112, .int x1, .int x2, .null, .int 9] [] μ) :
    J l mX12_sign (jZ0 1 G (pI φ)) G 0 0 55 [.ref 112, .int x1, .int x2, .null, .int x4] [] μ := by
  refine j_iload_n dX12_sign_55 rfl rfl ?_
  refine j_bipush 45 dX12_sign_56 rfl (by decide) ?_
  refine j_icmp_ne 65 dX12_sign_58 rfl (by decide) (fun c0 => ?_) (fun c0 => ?_)
  · skip
    exact k0 c0
  · skip
    refine j_bipush 9 dX12_sign_61 rfl (by decide) ?_
    refine j_istore (ls' := [.ref 112, .int x1, .int x2, .null, .int 9]) dX12_sign_63 rfl (Nat.le_of_ble_eq_true rfl) rfl ?_
    exact k1 c0
theorem b_X12_sign_65 {l : Launch} {G : jG} {μ : jM} {φ : Int32 → jM → Prop} {x1 x2 x4 : Int32} (hG : gMM G) (hP : gNN μ) 
    (k0 : (¬ x2 = (42 : Int32)) → J l mX12_sign (jZ0 1 G (pI φ)) G 0 0 75 [.ref 112, .int x1, .int x2, .null, .int x4] [] μ) 
    (k1 : (x2 = (42 : Int32)) → J l mX12_sign (jZ0 1 G (pI φ)) G 0 0 75 [.ref 112, .int x1, .int x2, .null, .int 10] [] μ) :
    J l mX12_sign (jZ0 1 G (pI φ)) G 0 0 65 [.ref 112, .int x1, .int x2, .null, .int x4] [] μ := by
  refine j_iload_n dX12_sign_65 rfl rfl ?_
  refine j_bipush 42 dX12_sign_66 rfl (by decide) ?_
  refine j_icmp_ne 75 dX12_sign_68 rfl (by decide) (fun c0 => ?_) (fun c0 => ?_)
  · skip
    exact k0 c0
  · skip
    refine j_bipush 10 dX12_sign_71 rfl (by decide) ?_
    refine j_istore (ls' := [.ref 112, .int x1, .int x2, .null, .int 10]) dX12_sign_73 rfl (Nat.le_of_ble_eq_true rfl) rfl ?_
    exact k1 c0
theorem b_X12_sign_75 {l : Launch} {G : jG} {μ : jM} {φ : Int32 → jM → Prop} {x1 x2 x4 : Int32} (hG : gMM G) (hP : gNN μ) 
    (k0 : (¬ x2 = (47 : Int32)) → J l mX12_sign (jZ0 1 G (pI φ)) G 0 0 85 [.ref 112, .int x1, .int x2, .null, .int x4] [] μ) 
    (k1 : (x2 = (47 : Int32)) → J l mX12_sign (jZ0 1 G (pI φ)) G 0 0 85 [.ref 112, .int x1, .int x2, .null, .int 15] [] μ) :
    J l mX12_sign (jZ0 1 G (pI φ)) G 0 0 75 [.ref 112, .int x1, .int x2, .null, .int x4] [] μ := by
  refine j_iload_n dX12_sign_75 rfl rfl ?_
  refine j_bipush 47 dX12_sign_76 rfl (by decide) ?_
  refine j_icmp_ne 85 dX12_sign_78 rfl (by decide) (fun c0 => ?_) (fun c0 => ?_)
  · skip
    exact k0 c0
  · skip
    refine j_bipush 15 dX12_sign_81 rfl (by decide) ?_
    refine j_istore (ls' := [.ref 112, .int x1, .int x2, .null, .int 15]) dX12_sign_83 rfl (Nat.le_of_ble_eq_true rfl) rfl ?_
    exact k1 c0
theorem b_X12_sign_85 {l : Launch} {G : jG} {μ : jM} {φ : Int32 → jM → Prop} {x1 x2 x4 : Int32} (hG : gMM G) (hP : gNN μ) 
    (k0 : (¬ x2 = (60 : Int32)) → J l mX12_sign (jZ0 1 G (pI φ)) G 0 0 95 [.ref 112, .int x1, .null, .null, .int x4] [] μ) 
    (k1 : (x2 = (60 : Int32)) → J l mX12_sign (jZ0 1 G (pI φ)) G 0 0 95 [.ref 112, .int x1, .null, .null, .int 13] [] μ) :
    J l mX12_sign (jZ0 1 G (pI φ)) G 0 0 85 [.ref 112, .int x1, .int x2, .null, .int x4] [] μ := by
  refine j_iload_n dX12_sign_85 rfl rfl ?_
  refine j_bipush 60 dX12_sign_86 rfl (by decide) ?_
  refine j_icmp_ne 95 dX12_sign_88 rfl (by decide) (fun c0 => ?_) (fun c0 => ?_)
  · skip
    refine j_forget (ls' := [.ref 112, .int x1, .null, .null, .int x4]) ⟨Or.inr rfl, Or.inr rfl, Or.inl rfl, Or.inr rfl, Or.inr rfl, trivial⟩ ?_
    exact k0 c0
  · skip
    refine j_bipush 13 dX12_sign_91 rfl (by decide) ?_
    refine j_istore (ls' := [.ref 112, .int x1, .int x2, .null, .int 13]) dX12_sign_93 rfl (Nat.le_of_ble_eq_true rfl) rfl ?_
    refine j_forget (ls' := [.ref 112, .int x1, .null, .null, .int 13]) ⟨Or.inr rfl, Or.inr rfl, Or.inl rfl, Or.inr rfl, Or.inr rfl, trivial⟩ ?_
    exact k1 c0
theorem b_X12_sign_95 {l : Launch} {G : jG} {μ : jM} {φ : Int32 → jM → Prop} {x1 x4 : Int32} {ψ0 : jM → Prop} (hG : gMM G) (hP : gNN μ) 
    (e0 : jC0 l mX12_token 0 G [.ref 112, .int x4, .int x1, .int 0, .long 0] μ (pV ψ0)) 
    (k0 : ∀ μ', ψ0 μ' → J l mX12_sign (jZ0 1 G (pI φ)) G 0 0 104 [.null, .null, .null, .null, .null] [] μ') :
    J l mX12_sign (jZ0 1 G (pI φ)) G 0 0 95 [.ref 112, .int x1, .null, .null, .int x4] [] μ := by
  refine j_aload_n dX12_sign_95 rfl rfl ?_
  refine j_iload dX12_sign_96 rfl rfl ?_
  refine j_iload_n dX12_sign_98 rfl rfl ?_
  refine j_iconst 0 dX12_sign_99 rfl (by decide) ?_
  refine j_lconst 0 dX12_sign_100 rfl (by decide) ?_
  refine j_cV (as := [.int x4, .int x1, .int 0, .long 0]) (rest := []) dX12_sign_101 rfl vw_X12_218 (hG 112 (17, 80) rfl) rfl ⟨Nat.le_of_ble_eq_true rfl, Nat.le_of_ble_eq_true rfl⟩ rfl rfl (fun _ _ => Nat.le_of_ble_eq_true rfl) (e0 ) (fun r μ' hr => ?_)
  obtain ⟨rfl, hr⟩ := hr
  refine j_forget (ls' := [.null, .null, .null, .null, .null]) ⟨Or.inl rfl, Or.inl rfl, Or.inr rfl, Or.inr rfl, Or.inl rfl, trivial⟩ ?_
  exact k0  μ' hr
theorem b_X12_sign_104 {l : Launch} {G : jG} {μ : jM} {φ : Int32 → jM → Prop} (hG : gMM G) (hP : gNN μ) 
    (k0 : φ 1 μ) :
    J l mX12_sign (jZ0 1 G (pI φ)) G 0 0 104 [.null, .null, .null, .null, .null] [] μ := by
  refine j_iconst 1 dX12_sign_104 rfl (by decide) ?_
  exact j_iret dX12_sign_105 rfl (k0 )
theorem b_X12_is_0 {l : Launch} {G : jG} {μ : jM} {φ : Int32 → jM → Prop} {x1 : Int32} (hG : gMM G) (hP : gNN μ) 
    (k0 : (¬ (μ.1 112 13) = (0 : Int32)) → φ 0 μ) 
    (o0 : ((μ.1 112 13) = (0 : Int32)) → vp_in (μ.1 112 11) 403) 
    (k1 : ((μ.1 112 13) = (0 : Int32)) → (¬ (μ.1 115 (Int32.toNatClampNeg (μ.1 112 11))) = (x1 : Int32)) → φ 0 μ) 
    (k2 : ((μ.1 112 13) = (0 : Int32)) → ((μ.1 115 (Int32.toNatClampNeg (μ.1 112 11))) = (x1 : Int32)) → φ 1 μ) :
    J l mX12_is (jZ0 0 G (pI φ)) G 0 0 0 [.ref 112, .int x1] [] μ := by
  refine j_aload_n dX12_is_0 rfl rfl ?_
  refine j_getI (ci := 12) (N := 80) (f := 13) (T := TX12) dX12_is_1 rfl (hG 112 (17, 80) rfl) rfl (by decide) fl_X12_233 rfl ?_
  refine j_if_ne 24 dX12_is_4 rfl (by decide) (fun c0 => ?_) (fun c0 => ?_)
  · skip
    refine j_iconst 0 dX12_is_24 rfl (by decide) ?_
    exact j_zret dX12_is_25 rfl (by decide) (k0 c0)
  · skip
    refine j_aload_n dX12_is_7 rfl rfl ?_
    refine j_getR (ci := 12) (N := 80) (f := 5) (T := TX12) 115 dX12_is_8 rfl (hG 112 (17, 80) rfl) rfl (by decide) fl_X12_20 rfl (hP 112 5 115 rfl) ?_
    refine j_aload_n dX12_is_11 rfl rfl ?_
    refine j_getI (ci := 12) (N := 80) (f := 11) (T := TX12) dX12_is_12 rfl (hG 112 (17, 80) rfl) rfl (by decide) fl_X12_236 rfl ?_
    refine j_iald' (j := (Int32.toNatClampNeg (μ.1 112 11))) dX12_is_15 rfl (hG 115 (0, 403) rfl) (o0 c0) rfl ?_
    refine j_iload_n dX12_is_16 rfl rfl ?_
    refine j_icmp_ne 24 dX12_is_17 rfl (by decide) (fun c1 => ?_) (fun c1 => ?_)
    · skip
      refine j_iconst 0 dX12_is_24 rfl (by decide) ?_
      exact j_zret dX12_is_25 rfl (by decide) (k1 c0 c1)
    · skip
      refine j_iconst 1 dX12_is_20 rfl (by decide) ?_
      refine j_goto 25 dX12_is_21 (by decide) ?_
      exact j_zret dX12_is_25 rfl (by decide) (k2 c0 c1)
theorem b_X12_fail_0 {l : Launch} {G : jG} {μ : jM} {φ : jM → Prop} {x1 : Int32} (hG : gMM G) (hP : gNN μ) 
    (o0 : ((μ.1 112 13) ≤ (0 : Int32)) → vp_in (μ.1 112 11) 403) 
    (k0 : ((μ.1 112 13) ≤ (0 : Int32)) → φ (wI (wI μ 112 13 x1) 112 14 (μ.1 116 (Int32.toNatClampNeg (μ.1 112 11))))) 
    (k1 : (¬ ((μ.1 112 13) ≤ (0 : Int32))) → φ μ) :
    J l mX12_fail (jZ0 0 G (pV φ)) G 0 0 0 [.ref 112, .int x1] [] μ := by
  refine j_aload_n dX12_fail_0 rfl rfl ?_
  refine j_getI (ci := 12) (N := 80) (f := 13) (T := TX12) dX12_fail_1 rfl (hG 112 (17, 80) rfl) rfl (by decide) fl_X12_233 rfl ?_
  refine j_if_le 8 dX12_fail_4 rfl (by decide) (fun c0 => ?_) (fun c0 => ?_)
  · skip
    refine j_aload_n dX12_fail_8 rfl rfl ?_
    refine j_iload_n dX12_fail_9 rfl rfl ?_
    refine j_putI (ci := 12) (N := 80) (f := 13) (T := TX12) dX12_fail_10 rfl (hG 112 (17, 80) rfl) rfl (by decide) fl_X12_233 rfl rfl ?_
    refine j_aload_n dX12_fail_13 rfl rfl ?_
    refine j_aload_n dX12_fail_14 rfl rfl ?_
    refine j_getR (ci := 12) (N := 80) (f := 6) (T := TX12) 116 dX12_fail_15 rfl (hG 112 (17, 80) rfl) rfl (by decide) fl_X12_24 rfl (hP 112 6 116 rfl) ?_
    refine j_aload_n dX12_fail_18 rfl rfl ?_
    refine j_getI (ci := 12) (N := 80) (f := 11) (T := TX12) dX12_fail_19 rfl (hG 112 (17, 80) rfl) rfl (by decide) fl_X12_236 rfl ?_
    refine j_iald' (j := (Int32.toNatClampNeg (μ.1 112 11))) dX12_fail_22 rfl (hG 116 (0, 403) rfl) (o0 c0) rfl ?_
    refine j_putI (ci := 12) (N := 80) (f := 14) (T := TX12) dX12_fail_23 rfl (hG 112 (17, 80) rfl) rfl (by decide) fl_X12_239 rfl rfl ?_
    exact j_vret dX12_fail_26 rfl (k0 c0)
  · skip
    exact j_vret dX12_fail_7 rfl (k1 c0)
theorem b_X12_wrong_0 {l : Launch} {G : jG} {μ : jM} {φ : jM → Prop} {x1 x2 : Int32} (hG : gMM G) (hP : gNN μ) 
    (o0 : vp_in x2 403) 
    (k0 : (0 < ((μ.1 112 13) : Int32)) → φ μ) 
    (k1 : (¬ (0 < ((μ.1 112 13) : Int32))) → ((μ.1 112 15) = (0 : Int32)) → φ (wI (wI μ 112 15 x1) 112 16 (μ.1 116 (Int32.toNatClampNeg x2)))) 
    (k2 : (¬ (0 < ((μ.1 112 13) : Int32))) → (¬ ((μ.1 112 15) = (0 : Int32))) → ((μ.1 112 16) < ((μ.1 116 (Int32.toNatClampNeg x2)) : Int32)) → φ μ) 
    (k3 : (¬ (0 < ((μ.1 112 13) : Int32))) → (¬ ((μ.1 112 15) = (0 : Int32))) → (¬ ((μ.1 112 16) < ((μ.1 116 (Int32.toNatClampNeg x2)) : Int32))) → (¬ (μ.1 116 (Int32.toNatClampNeg x2)) = ((μ.1 112 16) : Int32)) → φ (wI (wI μ 112 15 x1) 112 16 (μ.1 116 (Int32.toNatClampNeg x2)))) 
    (k4 : (¬ (0 < ((μ.1 112 13) : Int32))) → (¬ ((μ.1 112 15) = (0 : Int32))) → (¬ ((μ.1 112 16) < ((μ.1 116 (Int32.toNatClampNeg x2)) : Int32))) → ((μ.1 116 (Int32.toNatClampNeg x2)) = ((μ.1 112 16) : Int32)) → (x1 < ((μ.1 112 15) : Int32)) → φ (wI (wI μ 112 15 x1) 112 16 (μ.1 116 (Int32.toNatClampNeg x2)))) 
    (k5 : (¬ (0 < ((μ.1 112 13) : Int32))) → (¬ ((μ.1 112 15) = (0 : Int32))) → (¬ ((μ.1 112 16) < ((μ.1 116 (Int32.toNatClampNeg x2)) : Int32))) → ((μ.1 116 (Int32.toNatClampNeg x2)) = ((μ.1 112 16) : Int32)) → (¬ (x1 < ((μ.1 112 15) : Int32))) → φ μ) :
    J l mX12_wrong (jZ0 0 G (pV φ)) G 0 0 0 [.ref 112, .int x1, .int x2, .null] [] μ := by
  refine j_aload_n dX12_wrong_0 rfl rfl ?_
  refine j_getR (ci := 12) (N := 80) (f := 6) (T := TX12) 116 dX12_wrong_1 rfl (hG 112 (17, 80) rfl) rfl (by decide) fl_X12_24 rfl (hP 112 6 116 rfl) ?_
  refine j_iload_n dX12_wrong_4 rfl rfl ?_
  refine j_iald' (j := (Int32.toNatClampNeg x2)) dX12_wrong_5 rfl (hG 116 (0, 403) rfl) o0 rfl ?_
  refine j_istore_n (ls' := [.ref 112, .int x1, .int x2, .int (μ.1 116 (Int32.toNatClampNeg x2))]) dX12_wrong_6 rfl rfl (Nat.le_of_ble_eq_true rfl) rfl ?_
  refine j_aload_n dX12_wrong_7 rfl rfl ?_
  refine j_getI (ci := 12) (N := 80) (f := 13) (T := TX12) dX12_wrong_8 rfl (hG 112 (17, 80) rfl) rfl (by decide) fl_X12_233 rfl ?_
  refine j_if_gt 45 dX12_wrong_11 rfl (by decide) (fun c0 => ?_) (fun c0 => ?_)
  · skip
    exact j_vret dX12_wrong_45 rfl (k0 c0)
  · skip
    refine j_aload_n dX12_wrong_14 rfl rfl ?_
    refine j_getI (ci := 12) (N := 80) (f := 15) (T := TX12) dX12_wrong_15 rfl (hG 112 (17, 80) rfl) rfl (by decide) fl_X12_242 rfl ?_
    refine j_if_eq 46 dX12_wrong_18 rfl (by decide) (fun c1 => ?_) (fun c1 => ?_)
    · skip
      refine j_aload_n dX12_wrong_46 rfl rfl ?_
      refine j_iload_n dX12_wrong_47 rfl rfl ?_
      refine j_putI (ci := 12) (N := 80) (f := 15) (T := TX12) dX12_wrong_48 rfl (hG 112 (17, 80) rfl) rfl (by decide) fl_X12_242 rfl rfl ?_
      refine j_aload_n dX12_wrong_51 rfl rfl ?_
      refine j_iload_n dX12_wrong_52 rfl rfl ?_
      refine j_putI (ci := 12) (N := 80) (f := 16) (T := TX12) dX12_wrong_53 rfl (hG 112 (17, 80) rfl) rfl (by decide) fl_X12_245 rfl rfl ?_
      exact j_vret dX12_wrong_56 rfl (k1 c0 c1)
    · skip
      refine j_iload_n dX12_wrong_21 rfl rfl ?_
      refine j_aload_n dX12_wrong_22 rfl rfl ?_
      refine j_getI (ci := 12) (N := 80) (f := 16) (T := TX12) dX12_wrong_23 rfl (hG 112 (17, 80) rfl) rfl (by decide) fl_X12_245 rfl ?_
      refine j_icmp_gt 45 dX12_wrong_26 rfl (by decide) (fun c2 => ?_) (fun c2 => ?_)
      · skip
        exact j_vret dX12_wrong_45 rfl (k2 c0 c1 c2)
      · skip
        refine j_iload_n dX12_wrong_29 rfl rfl ?_
        refine j_aload_n dX12_wrong_30 rfl rfl ?_
        refine j_getI (ci := 12) (N := 80) (f := 16) (T := TX12) dX12_wrong_31 rfl (hG 112 (17, 80) rfl) rfl (by decide) fl_X12_245 rfl ?_
        refine j_icmp_ne 46 dX12_wrong_34 rfl (by decide) (fun c3 => ?_) (fun c3 => ?_)
        · skip
          refine j_aload_n dX12_wrong_46 rfl rfl ?_
          refine j_iload_n dX12_wrong_47 rfl rfl ?_
          refine j_putI (ci := 12) (N := 80) (f := 15) (T := TX12) dX12_wrong_48 rfl (hG 112 (17, 80) rfl) rfl (by decide) fl_X12_242 rfl rfl ?_
          refine j_aload_n dX12_wrong_51 rfl rfl ?_
          refine j_iload_n dX12_wrong_52 rfl rfl ?_
          refine j_putI (ci := 12) (N := 80) (f := 16) (T := TX12) dX12_wrong_53 rfl (hG 112 (17, 80) rfl) rfl (by decide) fl_X12_245 rfl rfl ?_
          exact j_vret dX12_wrong_56 rfl (k3 c0 c1 c2 c3)
        · skip
          refine j_iload_n dX12_wrong_37 rfl rfl ?_
          refine j_aload_n dX12_wrong_38 rfl rfl ?_
          refine j_getI (ci := 12) (N := 80) (f := 15) (T := TX12) dX12_wrong_39 rfl (hG 112 (17, 80) rfl) rfl (by decide) fl_X12_242 rfl ?_
          refine j_icmp_lt 46 dX12_wrong_42 rfl (by decide) (fun c4 => ?_) (fun c4 => ?_)
          · skip
            refine j_aload_n dX12_wrong_46 rfl rfl ?_
            refine j_iload_n dX12_wrong_47 rfl rfl ?_
            refine j_putI (ci := 12) (N := 80) (f := 15) (T := TX12) dX12_wrong_48 rfl (hG 112 (17, 80) rfl) rfl (by decide) fl_X12_242 rfl rfl ?_
            refine j_aload_n dX12_wrong_51 rfl rfl ?_
            refine j_iload_n dX12_wrong_52 rfl rfl ?_
            refine j_putI (ci := 12) (N := 80) (f := 16) (T := TX12) dX12_wrong_53 rfl (hG 112 (17, 80) rfl) rfl (by decide) fl_X12_245 rfl rfl ?_
            exact j_vret dX12_wrong_56 rfl (k4 c0 c1 c2 c3 c4)
          · skip
            exact j_vret dX12_wrong_45 rfl (k5 c0 c1 c2 c3 c4)
theorem b_X12_goesOn_0 {l : Launch} {G : jG} {μ : jM} {φ : jM → Prop} {ψ1 : jM → Prop} (hG : gMM G) (hP : gNN μ) 
    (k0 : (¬ (μ.1 112 11) = (400 : Int32)) → φ (wI μ 112 11 ((μ.1 112 11) + 1))) 
    (e1 : ((μ.1 112 11) = (400 : Int32)) → jC0 l mX12_fail 0 G [.ref 112, .int 2] μ (pV ψ1)) 
    (k1 : ((μ.1 112 11) = (400 : Int32)) → ∀ μ', ψ1 μ' → J l mX12_goesOn (jZ0 1 G (pV φ)) G 0 0 15 [.null] [] μ') :
    J l mX12_goesOn (jZ0 1 G (pV φ)) G 0 0 0 [.ref 112] [] μ := by
  refine j_aload_n dX12_goesOn_0 rfl rfl ?_
  refine j_getI (ci := 12) (N := 80) (f := 11) (T := TX12) dX12_goesOn_1 rfl (hG 112 (17, 80) rfl) rfl (by decide) fl_X12_236 rfl ?_
  refine j_sipush 400 dX12_goesOn_4 rfl (by decide) ?_
  refine j_icmp_ne 18 dX12_goesOn_7 rfl (by decide) (fun c0 => ?_) (fun c0 => ?_)
  · skip
    refine j_aload_n dX12_goesOn_18 rfl rfl ?_
    refine j_dup dX12_goesOn_19 rfl (fun _ _ => rfl) ?_
    refine j_getI (ci := 12) (N := 80) (f := 11) (T := TX12) dX12_goesOn_20 rfl (hG 112 (17, 80) rfl) rfl (by decide) fl_X12_236 rfl ?_
    refine j_iconst 1 dX12_goesOn_23 rfl (by decide) ?_
    refine j_iadd dX12_goesOn_24 rfl ?_
    refine j_putI (ci := 12) (N := 80) (f := 11) (T := TX12) dX12_goesOn_25 rfl (hG 112 (17, 80) rfl) rfl (by decide) fl_X12_236 rfl rfl ?_
    exact j_vret dX12_goesOn_28 rfl (k0 c0)
  · skip
    refine j_aload_n dX12_goesOn_10 rfl rfl ?_
    refine j_iconst 2 dX12_goesOn_11 rfl (by decide) ?_
    refine j_cV (as := [.int 2]) (rest := []) dX12_goesOn_12 rfl vw_X12_248 (hG 112 (17, 80) rfl) rfl ⟨Nat.le_of_ble_eq_true rfl, Nat.le_of_ble_eq_true rfl⟩ rfl rfl (fun _ _ => Nat.le_of_ble_eq_true rfl) (e1 c0) (fun r μ' hr => ?_)
    obtain ⟨rfl, hr⟩ := hr
    refine j_forget (ls' := [.null]) ⟨Or.inl rfl, trivial⟩ ?_
    exact k1 c0 μ' hr
theorem b_X12_goesOn_15 {l : Launch} {G : jG} {μ : jM} {φ : jM → Prop} (hG : gMM G) (hP : gNN μ) 
    (k0 : φ μ) :
    J l mX12_goesOn (jZ0 1 G (pV φ)) G 0 0 15 [.null] [] μ := by
  refine j_goto 28 dX12_goesOn_15 (by decide) ?_
  exact j_vret dX12_goesOn_28 rfl (k0 )
theorem b_X12_must_0 {l : Launch} {G : jG} {μ : jM} {φ : jM → Prop} {x1 : Int32} {ψ0 : Int32 → jM → Prop} (hG : gMM G) (hP : gNN μ) 
    (e0 : jC0 l mX12_is 0 G [.ref 112, .int x1] μ (pI ψ0)) 
    (k0 : ∀ v μ', ψ0 v μ' → J l mX12_must (jZ0 2 G (pV φ)) G 0 0 5 [.ref 112, .null] [.int v] μ') :
    J l mX12_must (jZ0 2 G (pV φ)) G 0 0 0 [.ref 112, .int x1] [] μ := by
  refine j_aload_n dX12_must_0 rfl rfl ?_
  refine j_iload_n dX12_must_1 rfl rfl ?_
  refine j_cV (as := [.int x1]) (rest := []) dX12_must_2 rfl vw_X12_251 (hG 112 (17, 80) rfl) rfl ⟨Nat.le_of_ble_eq_true rfl, Nat.le_of_ble_eq_true rfl⟩ rfl rfl (fun _ _ => Nat.le_of_ble_eq_true rfl) (e0 ) (fun r μ' hr => ?_)
  obtain ⟨v, rfl, hr⟩ := hr
  refine j_forget (ls' := [.ref 112, .null]) ⟨Or.inr rfl, Or.inl rfl, trivial⟩ ?_
  exact k0  v μ' hr
theorem b_X12_must_5 {l : Launch} {G : jG} {μ : jM} {φ : jM → Prop} {z0 : Int32} {ψ0 : jM → Prop} {ψ1 : jM → Prop} (hG : gMM G) (hP : gNN μ) 
    (e0 : (z0 = (0 : Int32)) → jC0 l mX12_fail 0 G [.ref 112, .int 1] μ (pV ψ0)) 
    (k0 : (z0 = (0 : Int32)) → ∀ μ', ψ0 μ' → J l mX12_must (jZ0 2 G (pV φ)) G 0 0 20 [.null, .null] [] μ') 
    (e1 : (¬ (z0 = (0 : Int32))) → jC0 l mX12_goesOn 1 G [.ref 112] μ (pV ψ1)) 
    (k1 : (¬ (z0 = (0 : Int32))) → ∀ μ', ψ1 μ' → J l mX12_must (jZ0 2 G (pV φ)) G 0 0 12 [.null, .null] [] μ') :
    J l mX12_must (jZ0 2 G (pV φ)) G 0 0 5 [.ref 112, .null] [.int z0] μ := by
  refine j_if_eq 15 dX12_must_5 rfl (by decide) (fun c0 => ?_) (fun c0 => ?_)
  · skip
    refine j_aload_n dX12_must_15 rfl rfl ?_
    refine j_iconst 1 dX12_must_16 rfl (by decide) ?_
    refine j_cV (as := [.int 1]) (rest := []) dX12_must_17 rfl vw_X12_248 (hG 112 (17, 80) rfl) rfl ⟨Nat.le_of_ble_eq_true rfl, Nat.le_of_ble_eq_true rfl⟩ rfl rfl (fun _ _ => Nat.le_of_ble_eq_true rfl) (e0 c0) (fun r μ' hr => ?_)
    obtain ⟨rfl, hr⟩ := hr
    refine j_forget (ls' := [.null, .null]) ⟨Or.inl rfl, Or.inr rfl, trivial⟩ ?_
    exact k0 c0 μ' hr
  · skip
    refine j_aload_n dX12_must_8 rfl rfl ?_
    refine j_cV (as := []) (rest := []) dX12_must_9 rfl vw_X12_254 (hG 112 (17, 80) rfl) rfl ⟨Nat.le_of_ble_eq_true rfl, Nat.le_of_ble_eq_true rfl⟩ rfl rfl (fun _ _ => Nat.le_of_ble_eq_true rfl) (e1 c0) (fun r μ' hr => ?_)
    obtain ⟨rfl, hr⟩ := hr
    refine j_forget (ls' := [.null, .null]) ⟨Or.inl rfl, Or.inr rfl, trivial⟩ ?_
    exact k1 c0 μ' hr
theorem b_X12_must_12 {l : Launch} {G : jG} {μ : jM} {φ : jM → Prop} (hG : gMM G) (hP : gNN μ) 
    (k0 : φ μ) :
    J l mX12_must (jZ0 2 G (pV φ)) G 0 0 12 [.null, .null] [] μ := by
  refine j_goto 20 dX12_must_12 (by decide) ?_
  exact j_vret dX12_must_20 rfl (k0 )
theorem b_X12_must_20 {l : Launch} {G : jG} {μ : jM} {φ : jM → Prop} (hG : gMM G) (hP : gNN μ) 
    (k0 : φ μ) :
    J l mX12_must (jZ0 2 G (pV φ)) G 0 0 20 [.null, .null] [] μ := by
  exact j_vret dX12_must_20 rfl (k0 )
theorem b_X12_plain_0 {l : Launch} {G : jG} {μ : jM} {φ : jM → Prop} {x1 : Int32} (hG : gMM G) (hP : gNN μ) 
    (o0 : vp_in x1 2) 
    (k0 : J l mX12_plain (jZ0 0 G (pV φ)) G 0 0 60 [.ref 112, .int x1, .int 0] [] (wI (wI (wI (wI (wI (wI (wI (wI μ 122 (Int32.toNatClampNeg x1) 0) 123 (Int32.toNatClampNeg x1) 0) 128 (Int32.toNatClampNeg x1) 0) 129 (Int32.toNatClampNeg x1) 0) 135 (Int32.toNatClampNeg x1) 0) 136 (Int32.toNatClampNeg x1) 10) 137 (Int32.toNatClampNeg x1) 20) 138 (Int32.toNatClampNeg x1) 0)) :
    J l mX12_plain (jZ0 0 G (pV φ)) G 0 0 0 [.ref 112, .int x1, .null] [] μ := by
  refine j_aload_n dX12_plain_0 rfl rfl ?_
  refine j_getR (ci := 12) (N := 80) (f := 23) (T := TX12) 122 dX12_plain_1 rfl (hG 112 (17, 80) rfl) rfl (by decide) fl_X12_46 rfl (hP 112 23 122 rfl) ?_
  refine j_iload_n dX12_plain_4 rfl rfl ?_
  refine j_iconst 0 dX12_plain_5 rfl (by decide) ?_
  refine j_iast' (j := (Int32.toNatClampNeg x1)) dX12_plain_6 rfl (hG 122 (0, 2) rfl) o0 rfl ?_
  refine j_aload_n dX12_plain_7 rfl rfl ?_
  refine j_getR (ci := 12) (N := 80) (f := 24) (T := TX12) 123 dX12_plain_8 rfl (hG 112 (17, 80) rfl) rfl (by decide) fl_X12_49 rfl (hP 112 24 123 rfl) ?_
  refine j_iload_n dX12_plain_11 rfl rfl ?_
  refine j_iconst 0 dX12_plain_12 rfl (by decide) ?_
  refine j_iast' (j := (Int32.toNatClampNeg x1)) dX12_plain_13 rfl (hG 123 (0, 2) rfl) o0 rfl ?_
  refine j_aload_n dX12_plain_14 rfl rfl ?_
  refine j_getR (ci := 12) (N := 80) (f := 29) (T := TX12) 128 dX12_plain_15 rfl (hG 112 (17, 80) rfl) rfl (by decide) fl_X12_65 rfl (hP 112 29 128 rfl) ?_
  refine j_iload_n dX12_plain_18 rfl rfl ?_
  refine j_iconst 0 dX12_plain_19 rfl (by decide) ?_
  refine j_iast' (j := (Int32.toNatClampNeg x1)) dX12_plain_20 rfl (hG 128 (0, 2) rfl) o0 rfl ?_
  refine j_aload_n dX12_plain_21 rfl rfl ?_
  refine j_getR (ci := 12) (N := 80) (f := 30) (T := TX12) 129 dX12_plain_22 rfl (hG 112 (17, 80) rfl) rfl (by decide) fl_X12_68 rfl (hP 112 30 129 rfl) ?_
  refine j_iload_n dX12_plain_25 rfl rfl ?_
  refine j_iconst 0 dX12_plain_26 rfl (by decide) ?_
  refine j_iast' (j := (Int32.toNatClampNeg x1)) dX12_plain_27 rfl (hG 129 (0, 2) rfl) o0 rfl ?_
  refine j_aload_n dX12_plain_28 rfl rfl ?_
  refine j_getR (ci := 12) (N := 80) (f := 36) (T := TX12) 135 dX12_plain_29 rfl (hG 112 (17, 80) rfl) rfl (by decide) fl_X12_86 rfl (hP 112 36 135 rfl) ?_
  refine j_iload_n dX12_plain_32 rfl rfl ?_
  refine j_iconst 0 dX12_plain_33 rfl (by decide) ?_
  refine j_iast' (j := (Int32.toNatClampNeg x1)) dX12_plain_34 rfl (hG 135 (0, 2) rfl) o0 rfl ?_
  refine j_aload_n dX12_plain_35 rfl rfl ?_
  refine j_getR (ci := 12) (N := 80) (f := 37) (T := TX12) 136 dX12_plain_36 rfl (hG 112 (17, 80) rfl) rfl (by decide) fl_X12_89 rfl (hP 112 37 136 rfl) ?_
  refine j_iload_n dX12_plain_39 rfl rfl ?_
  refine j_bipush 10 dX12_plain_40 rfl (by decide) ?_
  refine j_iast' (j := (Int32.toNatClampNeg x1)) dX12_plain_42 rfl (hG 136 (0, 2) rfl) o0 rfl ?_
  refine j_aload_n dX12_plain_43 rfl rfl ?_
  refine j_getR (ci := 12) (N := 80) (f := 38) (T := TX12) 137 dX12_plain_44 rfl (hG 112 (17, 80) rfl) rfl (by decide) fl_X12_92 rfl (hP 112 38 137 rfl) ?_
  refine j_iload_n dX12_plain_47 rfl rfl ?_
  refine j_bipush 20 dX12_plain_48 rfl (by decide) ?_
  refine j_iast' (j := (Int32.toNatClampNeg x1)) dX12_plain_50 rfl (hG 137 (0, 2) rfl) o0 rfl ?_
  refine j_aload_n dX12_plain_51 rfl rfl ?_
  refine j_getR (ci := 12) (N := 80) (f := 39) (T := TX12) 138 dX12_plain_52 rfl (hG 112 (17, 80) rfl) rfl (by decide) fl_X12_95 rfl (hP 112 39 138 rfl) ?_
  refine j_iload_n dX12_plain_55 rfl rfl ?_
  refine j_iconst 0 dX12_plain_56 rfl (by decide) ?_
  refine j_iast' (j := (Int32.toNatClampNeg x1)) dX12_plain_57 rfl (hG 138 (0, 2) rfl) o0 rfl ?_
  refine j_iconst 0 dX12_plain_58 rfl (by decide) ?_
  refine j_istore_n (ls' := [.ref 112, .int x1, .int 0]) dX12_plain_59 rfl rfl (Nat.le_of_ble_eq_true rfl) rfl ?_
  exact k0 
theorem b_X12_plain_60 {l : Launch} {G : jG} {μ : jM} {φ : jM → Prop} {x1 x2 : Int32} (hG : gMM G) (hP : gNN μ) 
    (k0 : (3 ≤ (x2 : Int32)) → φ μ) 
    (o0 : (¬ (3 ≤ (x2 : Int32))) → vp_in ((3 * x1) + x2) 6) 
    (k1 : (¬ (3 ≤ (x2 : Int32))) → J l mX12_plain (jZ0 0 G (pV φ)) G 0 0 60 [.ref 112, .int x1, .int (x2 + 1)] [] (wI (wI μ 139 (Int32.toNatClampNeg ((3 * x1) + x2)) 0) 140 (Int32.toNatClampNeg ((3 * x1) + x2)) 0)) :
    J l mX12_plain (jZ0 0 G (pV φ)) G 0 0 60 [.ref 112, .int x1, .int x2] [] μ := by
  refine j_iload_n dX12_plain_60 rfl rfl ?_
  refine j_iconst 3 dX12_plain_61 rfl (by decide) ?_
  refine j_icmp_ge 93 dX12_plain_62 rfl (by decide) (fun c0 => ?_) (fun c0 => ?_)
  · skip
    exact j_vret dX12_plain_93 rfl (k0 c0)
  · skip
    refine j_aload_n dX12_plain_65 rfl rfl ?_
    refine j_getR (ci := 12) (N := 80) (f := 40) (T := TX12) 139 dX12_plain_66 rfl (hG 112 (17, 80) rfl) rfl (by decide) fl_X12_98 rfl (hP 112 40 139 rfl) ?_
    refine j_iconst 3 dX12_plain_69 rfl (by decide) ?_
    refine j_iload_n dX12_plain_70 rfl rfl ?_
    refine j_imul dX12_plain_71 rfl ?_
    refine j_iload_n dX12_plain_72 rfl rfl ?_
    refine j_iadd dX12_plain_73 rfl ?_
    refine j_iconst 0 dX12_plain_74 rfl (by decide) ?_
    refine j_iast' (j := (Int32.toNatClampNeg ((3 * x1) + x2))) dX12_plain_75 rfl (hG 139 (0, 6) rfl) (o0 c0) rfl ?_
    refine j_aload_n dX12_plain_76 rfl rfl ?_
    refine j_getR (ci := 12) (N := 80) (f := 41) (T := TX12) 140 dX12_plain_77 rfl (hG 112 (17, 80) rfl) rfl (by decide) fl_X12_101 rfl (hP 112 41 140 rfl) ?_
    refine j_iconst 3 dX12_plain_80 rfl (by decide) ?_
    refine j_iload_n dX12_plain_81 rfl rfl ?_
    refine j_imul dX12_plain_82 rfl ?_
    refine j_iload_n dX12_plain_83 rfl rfl ?_
    refine j_iadd dX12_plain_84 rfl ?_
    refine j_iconst 0 dX12_plain_85 rfl (by decide) ?_
    refine j_iast' (j := (Int32.toNatClampNeg ((3 * x1) + x2))) dX12_plain_86 rfl (hG 140 (0, 6) rfl) (o0 c0) rfl ?_
    refine j_iinc (x2 + 1) (ls' := [.ref 112, .int x1, .int (x2 + 1)]) dX12_plain_87 rfl rfl rfl (Nat.le_of_ble_eq_true rfl) rfl ?_
    refine j_goto 60 dX12_plain_90 (by decide) ?_
    exact k1 c0
theorem b_X12_read_0 {l : Launch} {G : jG} {μ : jM} {φ : Int32 → jM → Prop} (hG : gMM G) (hP : gNN μ) 
    (k0 : J l mX12_read (jZ0 7 G (pI φ)) G 0 0 10 [.ref 112, .int 0] [] (wI μ 112 4 (μ.1 112 2))) :
    J l mX12_read (jZ0 7 G (pI φ)) G 0 0 0 [.ref 112, .null] [] μ := by
  refine j_aload_n dX12_read_0 rfl rfl ?_
  refine j_aload_n dX12_read_1 rfl rfl ?_
  refine j_getI (ci := 12) (N := 80) (f := 2) (T := TX12) dX12_read_2 rfl (hG 112 (17, 80) rfl) rfl (by decide) fl_X12_196 rfl ?_
  refine j_putI (ci := 12) (N := 80) (f := 4) (T := TX12) dX12_read_5 rfl (hG 112 (17, 80) rfl) rfl (by decide) fl_X12_202 rfl rfl ?_
  refine j_iconst 0 dX12_read_8 rfl (by decide) ?_
  refine j_istore_n (ls' := [.ref 112, .int 0]) dX12_read_9 rfl rfl (Nat.le_of_ble_eq_true rfl) rfl ?_
  exact k0 
theorem b_X12_read_10 {l : Launch} {G : jG} {μ : jM} {φ : Int32 → jM → Prop} {x1 : Int32} {ψ0 : jM → Prop} (hG : gMM G) (hP : gNN μ) 
    (e0 : ((μ.1 112 4) ≤ (x1 : Int32)) → jC0 l mX12_cut 2 G [.ref 112] (wI μ 112 2 0) (pV ψ0)) 
    (k0 : ((μ.1 112 4) ≤ (x1 : Int32)) → ∀ μ', ψ0 μ' → J l mX12_read (jZ0 7 G (pI φ)) G 0 0 45 [.ref 112, .null] [] μ') 
    (o0 : (¬ ((μ.1 112 4) ≤ (x1 : Int32))) → vp_in x1 2000) 
    (k1 : (¬ ((μ.1 112 4) ≤ (x1 : Int32))) → J l mX12_read (jZ0 7 G (pI φ)) G 0 0 10 [.ref 112, .int (x1 + 1)] [] (wI μ 114 (Int32.toNatClampNeg x1) (vp_nar .byte (μ.1 113 (Int32.toNatClampNeg x1))))) :
    J l mX12_read (jZ0 7 G (pI φ)) G 0 0 10 [.ref 112, .int x1] [] μ := by
  refine j_iload_n dX12_read_10 rfl rfl ?_
  refine j_aload_n dX12_read_11 rfl rfl ?_
  refine j_getI (ci := 12) (N := 80) (f := 4) (T := TX12) dX12_read_12 rfl (hG 112 (17, 80) rfl) rfl (by decide) fl_X12_202 rfl ?_
  refine j_icmp_ge 36 dX12_read_15 rfl (by decide) (fun c0 => ?_) (fun c0 => ?_)
  · skip
    refine j_aload_n dX12_read_36 rfl rfl ?_
    refine j_iconst 0 dX12_read_37 rfl (by decide) ?_
    refine j_putI (ci := 12) (N := 80) (f := 2) (T := TX12) dX12_read_38 rfl (hG 112 (17, 80) rfl) rfl (by decide) fl_X12_196 rfl rfl ?_
    refine j_aload_n dX12_read_41 rfl rfl ?_
    refine j_cV (as := []) (rest := []) dX12_read_42 rfl vw_X12_257 (hG 112 (17, 80) rfl) rfl ⟨Nat.le_of_ble_eq_true rfl, Nat.le_of_ble_eq_true rfl⟩ rfl rfl (fun _ _ => Nat.le_of_ble_eq_true rfl) (e0 c0) (fun r μ' hr => ?_)
    obtain ⟨rfl, hr⟩ := hr
    refine j_forget (ls' := [.ref 112, .null]) ⟨Or.inr rfl, Or.inl rfl, trivial⟩ ?_
    exact k0 c0 μ' hr
  · skip
    refine j_aload_n dX12_read_18 rfl rfl ?_
    refine j_getR (ci := 12) (N := 80) (f := 3) (T := TX12) 114 dX12_read_19 rfl (hG 112 (17, 80) rfl) rfl (by decide) fl_X12_17 rfl (hP 112 3 114 rfl) ?_
    refine j_iload_n dX12_read_22 rfl rfl ?_
    refine j_aload_n dX12_read_23 rfl rfl ?_
    refine j_getR (ci := 12) (N := 80) (f := 1) (T := TX12) 113 dX12_read_24 rfl (hG 112 (17, 80) rfl) rfl (by decide) fl_X12_13 rfl (hP 112 1 113 rfl) ?_
    refine j_iload_n dX12_read_27 rfl rfl ?_
    refine j_bald' (j := (Int32.toNatClampNeg x1)) dX12_read_28 rfl (hG 113 (1, 2000) rfl) (o0 c0) rfl ?_
    refine j_bast' (j := (Int32.toNatClampNeg x1)) dX12_read_29 rfl (hG 114 (1, 2000) rfl) (o0 c0) rfl ?_
    refine j_iinc (x1 + 1) (ls' := [.ref 112, .int (x1 + 1)]) dX12_read_30 rfl rfl rfl (Nat.le_of_ble_eq_true rfl) rfl ?_
    refine j_goto 10 dX12_read_33 (by decide) ?_
    exact k1 c0
theorem b_X12_read_45 {l : Launch} {G : jG} {μ : jM} {φ : Int32 → jM → Prop} {ψ0 : jM → Prop} (hG : gMM G) (hP : gNN μ) 
    (e0 : jC0 l mX12_plain 0 G [.ref 112, .int (1 - (μ.1 112 18))] (wI (wI (wI (wI (wI (wI μ 112 11 0) 112 12 0) 112 13 0) 112 15 0) 112 19 (1 - (μ.1 112 18))) 112 20 0) (pV ψ0)) 
    (k0 : ∀ μ', ψ0 μ' → J l mX12_read (jZ0 7 G (pI φ)) G 0 0 88 [.ref 112, .null] [] μ') :
    J l mX12_read (jZ0 7 G (pI φ)) G 0 0 45 [.ref 112, .null] [] μ := by
  refine j_aload_n dX12_read_45 rfl rfl ?_
  refine j_iconst 0 dX12_read_46 rfl (by decide) ?_
  refine j_putI (ci := 12) (N := 80) (f := 11) (T := TX12) dX12_read_47 rfl (hG 112 (17, 80) rfl) rfl (by decide) fl_X12_236 rfl rfl ?_
  refine j_aload_n dX12_read_50 rfl rfl ?_
  refine j_iconst 0 dX12_read_51 rfl (by decide) ?_
  refine j_putI (ci := 12) (N := 80) (f := 12) (T := TX12) dX12_read_52 rfl (hG 112 (17, 80) rfl) rfl (by decide) fl_X12_260 rfl rfl ?_
  refine j_aload_n dX12_read_55 rfl rfl ?_
  refine j_iconst 0 dX12_read_56 rfl (by decide) ?_
  refine j_putI (ci := 12) (N := 80) (f := 13) (T := TX12) dX12_read_57 rfl (hG 112 (17, 80) rfl) rfl (by decide) fl_X12_233 rfl rfl ?_
  refine j_aload_n dX12_read_60 rfl rfl ?_
  refine j_iconst 0 dX12_read_61 rfl (by decide) ?_
  refine j_putI (ci := 12) (N := 80) (f := 15) (T := TX12) dX12_read_62 rfl (hG 112 (17, 80) rfl) rfl (by decide) fl_X12_242 rfl rfl ?_
  refine j_aload_n dX12_read_65 rfl rfl ?_
  refine j_iconst 1 dX12_read_66 rfl (by decide) ?_
  refine j_aload_n dX12_read_67 rfl rfl ?_
  refine j_getI (ci := 12) (N := 80) (f := 18) (T := TX12) dX12_read_68 rfl (hG 112 (17, 80) rfl) rfl (by decide) fl_X12_263 rfl ?_
  refine j_isub dX12_read_71 rfl ?_
  refine j_putI (ci := 12) (N := 80) (f := 19) (T := TX12) dX12_read_72 rfl (hG 112 (17, 80) rfl) rfl (by decide) fl_X12_266 rfl rfl ?_
  refine j_aload_n dX12_read_75 rfl rfl ?_
  refine j_iconst 0 dX12_read_76 rfl (by decide) ?_
  refine j_putI (ci := 12) (N := 80) (f := 20) (T := TX12) dX12_read_77 rfl (hG 112 (17, 80) rfl) rfl (by decide) fl_X12_269 rfl rfl ?_
  refine j_aload_n dX12_read_80 rfl rfl ?_
  refine j_aload_n dX12_read_81 rfl rfl ?_
  refine j_getI (ci := 12) (N := 80) (f := 19) (T := TX12) dX12_read_82 rfl (hG 112 (17, 80) rfl) rfl (by decide) fl_X12_266 rfl ?_
  refine j_cV (as := [.int (1 - (μ.1 112 18))]) (rest := []) dX12_read_85 rfl vw_X12_182 (hG 112 (17, 80) rfl) rfl ⟨Nat.le_of_ble_eq_true rfl, Nat.le_of_ble_eq_true rfl⟩ rfl rfl (fun _ _ => Nat.le_of_ble_eq_true rfl) (e0 ) (fun r μ' hr => ?_)
  obtain ⟨rfl, hr⟩ := hr
  exact k0  μ' hr
theorem b_X12_read_88 {l : Launch} {G : jG} {μ : jM} {φ : Int32 → jM → Prop} (hG : gMM G) (hP : gNN μ) 
    (k0 : J l mX12_read (jZ0 7 G (pI φ)) G 0 0 112 [.ref 112, .null] [] (wI (wI μ 112 42 (130 * (μ.1 112 19))) 112 48 (420 * (μ.1 112 19)))) :
    J l mX12_read (jZ0 7 G (pI φ)) G 0 0 88 [.ref 112, .null] [] μ := by
  refine j_aload_n dX12_read_88 rfl rfl ?_
  refine j_sipush 130 dX12_read_89 rfl (by decide) ?_
  refine j_aload_n dX12_read_92 rfl rfl ?_
  refine j_getI (ci := 12) (N := 80) (f := 19) (T := TX12) dX12_read_93 rfl (hG 112 (17, 80) rfl) rfl (by decide) fl_X12_266 rfl ?_
  refine j_imul dX12_read_96 rfl ?_
  refine j_putI (ci := 12) (N := 80) (f := 42) (T := TX12) dX12_read_97 rfl (hG 112 (17, 80) rfl) rfl (by decide) fl_X12_272 rfl rfl ?_
  refine j_aload_n dX12_read_100 rfl rfl ?_
  refine j_sipush 420 dX12_read_101 rfl (by decide) ?_
  refine j_aload_n dX12_read_104 rfl rfl ?_
  refine j_getI (ci := 12) (N := 80) (f := 19) (T := TX12) dX12_read_105 rfl (hG 112 (17, 80) rfl) rfl (by decide) fl_X12_266 rfl ?_
  refine j_imul dX12_read_108 rfl ?_
  refine j_putI (ci := 12) (N := 80) (f := 48) (T := TX12) dX12_read_109 rfl (hG 112 (17, 80) rfl) rfl (by decide) fl_X12_275 rfl rfl ?_
  exact k0 
theorem b_X12_read_112 {l : Launch} {G : jG} {μ : jM} {φ : Int32 → jM → Prop} {ψ0 : jM → Prop} {ψ3 : jM → Prop} {ψ6 : jM → Prop} {ψ9 : Int32 → jM → Prop} (hG : gMM G) (hP : gNN μ) 
    (e0 : (¬ (μ.1 112 13) = (0 : Int32)) → ((μ.1 112 13) ≤ (0 : Int32)) → ((μ.1 112 15) ≤ (0 : Int32)) → ((μ.1 112 13) ≤ (0 : Int32)) → ((μ.1 112 15) ≤ (0 : Int32)) → jC0 l mX12_begins 1 G [.ref 112] (wI (wI μ 112 17 (-1)) 112 18 (μ.1 112 19)) (pV ψ0)) 
    (k0 : (¬ (μ.1 112 13) = (0 : Int32)) → ((μ.1 112 13) ≤ (0 : Int32)) → ((μ.1 112 15) ≤ (0 : Int32)) → ((μ.1 112 13) ≤ (0 : Int32)) → ((μ.1 112 15) ≤ (0 : Int32)) → ∀ μ', ψ0 μ' → J l mX12_read (jZ0 7 G (pI φ)) G 0 0 203 [.ref 112, .null] [] μ') 
    (k1 : (¬ (μ.1 112 13) = (0 : Int32)) → ((μ.1 112 13) ≤ (0 : Int32)) → ((μ.1 112 15) ≤ (0 : Int32)) → ((μ.1 112 13) ≤ (0 : Int32)) → (¬ ((μ.1 112 15) ≤ (0 : Int32))) → φ (μ.1 112 15) (wI μ 112 17 (-1))) 
    (k2 : (¬ (μ.1 112 13) = (0 : Int32)) → ((μ.1 112 13) ≤ (0 : Int32)) → ((μ.1 112 15) ≤ (0 : Int32)) → (¬ ((μ.1 112 13) ≤ (0 : Int32))) → φ (μ.1 112 13) (wI μ 112 17 (-1))) 
    (e3 : (¬ (μ.1 112 13) = (0 : Int32)) → ((μ.1 112 13) ≤ (0 : Int32)) → (¬ ((μ.1 112 15) ≤ (0 : Int32))) → ((μ.1 112 13) ≤ (0 : Int32)) → ((μ.1 112 15) ≤ (0 : Int32)) → jC0 l mX12_begins 1 G [.ref 112] (wI (wI μ 112 17 (μ.1 112 16)) 112 18 (μ.1 112 19)) (pV ψ3)) 
    (k3 : (¬ (μ.1 112 13) = (0 : Int32)) → ((μ.1 112 13) ≤ (0 : Int32)) → (¬ ((μ.1 112 15) ≤ (0 : Int32))) → ((μ.1 112 13) ≤ (0 : Int32)) → ((μ.1 112 15) ≤ (0 : Int32)) → ∀ μ', ψ3 μ' → J l mX12_read (jZ0 7 G (pI φ)) G 0 0 203 [.ref 112, .null] [] μ') 
    (k4 : (¬ (μ.1 112 13) = (0 : Int32)) → ((μ.1 112 13) ≤ (0 : Int32)) → (¬ ((μ.1 112 15) ≤ (0 : Int32))) → ((μ.1 112 13) ≤ (0 : Int32)) → (¬ ((μ.1 112 15) ≤ (0 : Int32))) → φ (μ.1 112 15) (wI μ 112 17 (μ.1 112 16))) 
    (k5 : (¬ (μ.1 112 13) = (0 : Int32)) → ((μ.1 112 13) ≤ (0 : Int32)) → (¬ ((μ.1 112 15) ≤ (0 : Int32))) → (¬ ((μ.1 112 13) ≤ (0 : Int32))) → φ (μ.1 112 13) (wI μ 112 17 (μ.1 112 16))) 
    (e6 : (¬ (μ.1 112 13) = (0 : Int32)) → (¬ ((μ.1 112 13) ≤ (0 : Int32))) → ((μ.1 112 13) ≤ (0 : Int32)) → ((μ.1 112 15) ≤ (0 : Int32)) → jC0 l mX12_begins 1 G [.ref 112] (wI (wI μ 112 17 (μ.1 112 14)) 112 18 (μ.1 112 19)) (pV ψ6)) 
    (k6 : (¬ (μ.1 112 13) = (0 : Int32)) → (¬ ((μ.1 112 13) ≤ (0 : Int32))) → ((μ.1 112 13) ≤ (0 : Int32)) → ((μ.1 112 15) ≤ (0 : Int32)) → ∀ μ', ψ6 μ' → J l mX12_read (jZ0 7 G (pI φ)) G 0 0 203 [.ref 112, .null] [] μ') 
    (k7 : (¬ (μ.1 112 13) = (0 : Int32)) → (¬ ((μ.1 112 13) ≤ (0 : Int32))) → ((μ.1 112 13) ≤ (0 : Int32)) → (¬ ((μ.1 112 15) ≤ (0 : Int32))) → φ (μ.1 112 15) (wI μ 112 17 (μ.1 112 14))) 
    (k8 : (¬ (μ.1 112 13) = (0 : Int32)) → (¬ ((μ.1 112 13) ≤ (0 : Int32))) → (¬ ((μ.1 112 13) ≤ (0 : Int32))) → φ (μ.1 112 13) (wI μ 112 17 (μ.1 112 14))) 
    (e9 : ((μ.1 112 13) = (0 : Int32)) → jC0 l mX12_is 0 G [.ref 112, .int 0] μ (pI ψ9)) 
    (k9 : ((μ.1 112 13) = (0 : Int32)) → ∀ v μ', ψ9 v μ' → J l mX12_read (jZ0 7 G (pI φ)) G 0 0 124 [.ref 112, .null] [.int v] μ') :
    J l mX12_read (jZ0 7 G (pI φ)) G 0 0 112 [.ref 112, .null] [] μ := by
  refine j_aload_n dX12_read_112 rfl rfl ?_
  refine j_getI (ci := 12) (N := 80) (f := 13) (T := TX12) dX12_read_113 rfl (hG 112 (17, 80) rfl) rfl (by decide) fl_X12_233 rfl ?_
  refine j_if_ne 134 dX12_read_116 rfl (by decide) (fun c0 => ?_) (fun c0 => ?_)
  · skip
    refine j_aload_n dX12_read_134 rfl rfl ?_
    refine j_aload_n dX12_read_135 rfl rfl ?_
    refine j_getI (ci := 12) (N := 80) (f := 13) (T := TX12) dX12_read_136 rfl (hG 112 (17, 80) rfl) rfl (by decide) fl_X12_233 rfl ?_
    refine j_if_le 149 dX12_read_139 rfl (by decide) (fun c1 => ?_) (fun c1 => ?_)
    · skip
      refine j_aload_n dX12_read_149 rfl rfl ?_
      refine j_getI (ci := 12) (N := 80) (f := 15) (T := TX12) dX12_read_150 rfl (hG 112 (17, 80) rfl) rfl (by decide) fl_X12_242 rfl ?_
      refine j_if_le 163 dX12_read_153 rfl (by decide) (fun c2 => ?_) (fun c2 => ?_)
      · skip
        refine j_iconst (-1) dX12_read_163 rfl (by decide) ?_
        refine j_putI (ci := 12) (N := 80) (f := 17) (T := TX12) dX12_read_164 rfl (hG 112 (17, 80) rfl) rfl (by decide) fl_X12_37 rfl rfl ?_
        refine j_aload_n dX12_read_167 rfl rfl ?_
        refine j_getI (ci := 12) (N := 80) (f := 13) (T := TX12) dX12_read_168 rfl (hG 112 (17, 80) rfl) rfl (by decide) fl_X12_233 rfl ?_
        refine j_if_le 179 dX12_read_171 rfl (by decide) (fun c3 => ?_) (fun c3 => ?_)
        · skip
          refine j_aload_n dX12_read_179 rfl rfl ?_
          refine j_getI (ci := 12) (N := 80) (f := 15) (T := TX12) dX12_read_180 rfl (hG 112 (17, 80) rfl) rfl (by decide) fl_X12_242 rfl ?_
          refine j_if_le 191 dX12_read_183 rfl (by decide) (fun c4 => ?_) (fun c4 => ?_)
          · skip
            refine j_aload_n dX12_read_191 rfl rfl ?_
            refine j_aload_n dX12_read_192 rfl rfl ?_
            refine j_getI (ci := 12) (N := 80) (f := 19) (T := TX12) dX12_read_193 rfl (hG 112 (17, 80) rfl) rfl (by decide) fl_X12_266 rfl ?_
            refine j_putI (ci := 12) (N := 80) (f := 18) (T := TX12) dX12_read_196 rfl (hG 112 (17, 80) rfl) rfl (by decide) fl_X12_263 rfl rfl ?_
            refine j_aload_n dX12_read_199 rfl rfl ?_
            refine j_cV (as := []) (rest := []) dX12_read_200 rfl vw_X12_190 (hG 112 (17, 80) rfl) rfl ⟨Nat.le_of_ble_eq_true rfl, Nat.le_of_ble_eq_true rfl⟩ rfl rfl (fun _ _ => Nat.le_of_ble_eq_true rfl) (e0 c0 c1 c2 c3 c4) (fun r μ' hr => ?_)
            obtain ⟨rfl, hr⟩ := hr
            exact k0 c0 c1 c2 c3 c4 μ' hr
          · skip
            refine j_aload_n dX12_read_186 rfl rfl ?_
            refine j_getI (ci := 12) (N := 80) (f := 15) (T := TX12) dX12_read_187 rfl (hG 112 (17, 80) rfl) rfl (by decide) fl_X12_242 rfl ?_
            exact j_iret dX12_read_190 rfl (k1 c0 c1 c2 c3 c4)
        · skip
          refine j_aload_n dX12_read_174 rfl rfl ?_
          refine j_getI (ci := 12) (N := 80) (f := 13) (T := TX12) dX12_read_175 rfl (hG 112 (17, 80) rfl) rfl (by decide) fl_X12_233 rfl ?_
          exact j_iret dX12_read_178 rfl (k2 c0 c1 c2 c3)
      · skip
        refine j_aload_n dX12_read_156 rfl rfl ?_
        refine j_getI (ci := 12) (N := 80) (f := 16) (T := TX12) dX12_read_157 rfl (hG 112 (17, 80) rfl) rfl (by decide) fl_X12_245 rfl ?_
        refine j_goto 164 dX12_read_160 (by decide) ?_
        refine j_putI (ci := 12) (N := 80) (f := 17) (T := TX12) dX12_read_164 rfl (hG 112 (17, 80) rfl) rfl (by decide) fl_X12_37 rfl rfl ?_
        refine j_aload_n dX12_read_167 rfl rfl ?_
        refine j_getI (ci := 12) (N := 80) (f := 13) (T := TX12) dX12_read_168 rfl (hG 112 (17, 80) rfl) rfl (by decide) fl_X12_233 rfl ?_
        refine j_if_le 179 dX12_read_171 rfl (by decide) (fun c5 => ?_) (fun c5 => ?_)
        · skip
          refine j_aload_n dX12_read_179 rfl rfl ?_
          refine j_getI (ci := 12) (N := 80) (f := 15) (T := TX12) dX12_read_180 rfl (hG 112 (17, 80) rfl) rfl (by decide) fl_X12_242 rfl ?_
          refine j_if_le 191 dX12_read_183 rfl (by decide) (fun c6 => ?_) (fun c6 => ?_)
          · skip
            refine j_aload_n dX12_read_191 rfl rfl ?_
            refine j_aload_n dX12_read_192 rfl rfl ?_
            refine j_getI (ci := 12) (N := 80) (f := 19) (T := TX12) dX12_read_193 rfl (hG 112 (17, 80) rfl) rfl (by decide) fl_X12_266 rfl ?_
            refine j_putI (ci := 12) (N := 80) (f := 18) (T := TX12) dX12_read_196 rfl (hG 112 (17, 80) rfl) rfl (by decide) fl_X12_263 rfl rfl ?_
            refine j_aload_n dX12_read_199 rfl rfl ?_
            refine j_cV (as := []) (rest := []) dX12_read_200 rfl vw_X12_190 (hG 112 (17, 80) rfl) rfl ⟨Nat.le_of_ble_eq_true rfl, Nat.le_of_ble_eq_true rfl⟩ rfl rfl (fun _ _ => Nat.le_of_ble_eq_true rfl) (e3 c0 c1 c2 c5 c6) (fun r μ' hr => ?_)
            obtain ⟨rfl, hr⟩ := hr
            exact k3 c0 c1 c2 c5 c6 μ' hr
          · skip
            refine j_aload_n dX12_read_186 rfl rfl ?_
            refine j_getI (ci := 12) (N := 80) (f := 15) (T := TX12) dX12_read_187 rfl (hG 112 (17, 80) rfl) rfl (by decide) fl_X12_242 rfl ?_
            exact j_iret dX12_read_190 rfl (k4 c0 c1 c2 c5 c6)
        · skip
          refine j_aload_n dX12_read_174 rfl rfl ?_
          refine j_getI (ci := 12) (N := 80) (f := 13) (T := TX12) dX12_read_175 rfl (hG 112 (17, 80) rfl) rfl (by decide) fl_X12_233 rfl ?_
          exact j_iret dX12_read_178 rfl (k5 c0 c1 c2 c5)
    · skip
      refine j_aload_n dX12_read_142 rfl rfl ?_
      refine j_getI (ci := 12) (N := 80) (f := 14) (T := TX12) dX12_read_143 rfl (hG 112 (17, 80) rfl) rfl (by decide) fl_X12_239 rfl ?_
      refine j_goto 164 dX12_read_146 (by decide) ?_
      refine j_putI (ci := 12) (N := 80) (f := 17) (T := TX12) dX12_read_164 rfl (hG 112 (17, 80) rfl) rfl (by decide) fl_X12_37 rfl rfl ?_
      refine j_aload_n dX12_read_167 rfl rfl ?_
      refine j_getI (ci := 12) (N := 80) (f := 13) (T := TX12) dX12_read_168 rfl (hG 112 (17, 80) rfl) rfl (by decide) fl_X12_233 rfl ?_
      refine j_if_le 179 dX12_read_171 rfl (by decide) (fun c7 => ?_) (fun c7 => ?_)
      · skip
        refine j_aload_n dX12_read_179 rfl rfl ?_
        refine j_getI (ci := 12) (N := 80) (f := 15) (T := TX12) dX12_read_180 rfl (hG 112 (17, 80) rfl) rfl (by decide) fl_X12_242 rfl ?_
        refine j_if_le 191 dX12_read_183 rfl (by decide) (fun c8 => ?_) (fun c8 => ?_)
        · skip
          refine j_aload_n dX12_read_191 rfl rfl ?_
          refine j_aload_n dX12_read_192 rfl rfl ?_
          refine j_getI (ci := 12) (N := 80) (f := 19) (T := TX12) dX12_read_193 rfl (hG 112 (17, 80) rfl) rfl (by decide) fl_X12_266 rfl ?_
          refine j_putI (ci := 12) (N := 80) (f := 18) (T := TX12) dX12_read_196 rfl (hG 112 (17, 80) rfl) rfl (by decide) fl_X12_263 rfl rfl ?_
          refine j_aload_n dX12_read_199 rfl rfl ?_
          refine j_cV (as := []) (rest := []) dX12_read_200 rfl vw_X12_190 (hG 112 (17, 80) rfl) rfl ⟨Nat.le_of_ble_eq_true rfl, Nat.le_of_ble_eq_true rfl⟩ rfl rfl (fun _ _ => Nat.le_of_ble_eq_true rfl) (e6 c0 c1 c7 c8) (fun r μ' hr => ?_)
          obtain ⟨rfl, hr⟩ := hr
          exact k6 c0 c1 c7 c8 μ' hr
        · skip
          refine j_aload_n dX12_read_186 rfl rfl ?_
          refine j_getI (ci := 12) (N := 80) (f := 15) (T := TX12) dX12_read_187 rfl (hG 112 (17, 80) rfl) rfl (by decide) fl_X12_242 rfl ?_
          exact j_iret dX12_read_190 rfl (k7 c0 c1 c7 c8)
      · skip
        refine j_aload_n dX12_read_174 rfl rfl ?_
        refine j_getI (ci := 12) (N := 80) (f := 13) (T := TX12) dX12_read_175 rfl (hG 112 (17, 80) rfl) rfl (by decide) fl_X12_233 rfl ?_
        exact j_iret dX12_read_178 rfl (k8 c0 c1 c7)
  · skip
    refine j_aload_n dX12_read_119 rfl rfl ?_
    refine j_iconst 0 dX12_read_120 rfl (by decide) ?_
    refine j_cV (as := [.int 0]) (rest := []) dX12_read_121 rfl vw_X12_251 (hG 112 (17, 80) rfl) rfl ⟨Nat.le_of_ble_eq_true rfl, Nat.le_of_ble_eq_true rfl⟩ rfl rfl (fun _ _ => Nat.le_of_ble_eq_true rfl) (e9 c0) (fun r μ' hr => ?_)
    obtain ⟨v, rfl, hr⟩ := hr
    exact k9 c0 v μ' hr
theorem b_X12_read_124 {l : Launch} {G : jG} {μ : jM} {φ : Int32 → jM → Prop} {z0 : Int32} {ψ0 : jM → Prop} {ψ3 : jM → Prop} {ψ6 : jM → Prop} {ψ9 : jM → Prop} (hG : gMM G) (hP : gNN μ) 
    (e0 : (¬ z0 = (0 : Int32)) → ((μ.1 112 13) ≤ (0 : Int32)) → ((μ.1 112 15) ≤ (0 : Int32)) → ((μ.1 112 13) ≤ (0 : Int32)) → ((μ.1 112 15) ≤ (0 : Int32)) → jC0 l mX12_begins 1 G [.ref 112] (wI (wI μ 112 17 (-1)) 112 18 (μ.1 112 19)) (pV ψ0)) 
    (k0 : (¬ z0 = (0 : Int32)) → ((μ.1 112 13) ≤ (0 : Int32)) → ((μ.1 112 15) ≤ (0 : Int32)) → ((μ.1 112 13) ≤ (0 : Int32)) → ((μ.1 112 15) ≤ (0 : Int32)) → ∀ μ', ψ0 μ' → J l mX12_read (jZ0 7 G (pI φ)) G 0 0 203 [.ref 112, .null] [] μ') 
    (k1 : (¬ z0 = (0 : Int32)) → ((μ.1 112 13) ≤ (0 : Int32)) → ((μ.1 112 15) ≤ (0 : Int32)) → ((μ.1 112 13) ≤ (0 : Int32)) → (¬ ((μ.1 112 15) ≤ (0 : Int32))) → φ (μ.1 112 15) (wI μ 112 17 (-1))) 
    (k2 : (¬ z0 = (0 : Int32)) → ((μ.1 112 13) ≤ (0 : Int32)) → ((μ.1 112 15) ≤ (0 : Int32)) → (¬ ((μ.1 112 13) ≤ (0 : Int32))) → φ (μ.1 112 13) (wI μ 112 17 (-1))) 
    (e3 : (¬ z0 = (0 : Int32)) → ((μ.1 112 13) ≤ (0 : Int32)) → (¬ ((μ.1 112 15) ≤ (0 : Int32))) → ((μ.1 112 13) ≤ (0 : Int32)) → ((μ.1 112 15) ≤ (0 : Int32)) → jC0 l mX12_begins 1 G [.ref 112] (wI (wI μ 112 17 (μ.1 112 16)) 112 18 (μ.1 112 19)) (pV ψ3)) 
    (k3 : (¬ z0 = (0 : Int32)) → ((μ.1 112 13) ≤ (0 : Int32)) → (¬ ((μ.1 112 15) ≤ (0 : Int32))) → ((μ.1 112 13) ≤ (0 : Int32)) → ((μ.1 112 15) ≤ (0 : Int32)) → ∀ μ', ψ3 μ' → J l mX12_read (jZ0 7 G (pI φ)) G 0 0 203 [.ref 112, .null] [] μ') 
    (k4 : (¬ z0 = (0 : Int32)) → ((μ.1 112 13) ≤ (0 : Int32)) → (¬ ((μ.1 112 15) ≤ (0 : Int32))) → ((μ.1 112 13) ≤ (0 : Int32)) → (¬ ((μ.1 112 15) ≤ (0 : Int32))) → φ (μ.1 112 15) (wI μ 112 17 (μ.1 112 16))) 
    (k5 : (¬ z0 = (0 : Int32)) → ((μ.1 112 13) ≤ (0 : Int32)) → (¬ ((μ.1 112 15) ≤ (0 : Int32))) → (¬ ((μ.1 112 13) ≤ (0 : Int32))) → φ (μ.1 112 13) (wI μ 112 17 (μ.1 112 16))) 
    (e6 : (¬ z0 = (0 : Int32)) → (¬ ((μ.1 112 13) ≤ (0 : Int32))) → ((μ.1 112 13) ≤ (0 : Int32)) → ((μ.1 112 15) ≤ (0 : Int32)) → jC0 l mX12_begins 1 G [.ref 112] (wI (wI μ 112 17 (μ.1 112 14)) 112 18 (μ.1 112 19)) (pV ψ6)) 
    (k6 : (¬ z0 = (0 : Int32)) → (¬ ((μ.1 112 13) ≤ (0 : Int32))) → ((μ.1 112 13) ≤ (0 : Int32)) → ((μ.1 112 15) ≤ (0 : Int32)) → ∀ μ', ψ6 μ' → J l mX12_read (jZ0 7 G (pI φ)) G 0 0 203 [.ref 112, .null] [] μ') 
    (k7 : (¬ z0 = (0 : Int32)) → (¬ ((μ.1 112 13) ≤ (0 : Int32))) → ((μ.1 112 13) ≤ (0 : Int32)) → (¬ ((μ.1 112 15) ≤ (0 : Int32))) → φ (μ.1 112 15) (wI μ 112 17 (μ.1 112 14))) 
    (k8 : (¬ z0 = (0 : Int32)) → (¬ ((μ.1 112 13) ≤ (0 : Int32))) → (¬ ((μ.1 112 13) ≤ (0 : Int32))) → φ (μ.1 112 13) (wI μ 112 17 (μ.1 112 14))) 
    (e9 : (z0 = (0 : Int32)) → jC0 l mX12_tellOne 6 G [.ref 112] μ (pV ψ9)) 
    (k9 : (z0 = (0 : Int32)) → ∀ μ', ψ9 μ' → J l mX12_read (jZ0 7 G (pI φ)) G 0 0 131 [.ref 112, .null] [] μ') :
    J l mX12_read (jZ0 7 G (pI φ)) G 0 0 124 [.ref 112, .null] [.int z0] μ := by
  refine j_if_ne 134 dX12_read_124 rfl (by decide) (fun c0 => ?_) (fun c0 => ?_)
  · skip
    refine j_aload_n dX12_read_134 rfl rfl ?_
    refine j_aload_n dX12_read_135 rfl rfl ?_
    refine j_getI (ci := 12) (N := 80) (f := 13) (T := TX12) dX12_read_136 rfl (hG 112 (17, 80) rfl) rfl (by decide) fl_X12_233 rfl ?_
    refine j_if_le 149 dX12_read_139 rfl (by decide) (fun c1 => ?_) (fun c1 => ?_)
    · skip
      refine j_aload_n dX12_read_149 rfl rfl ?_
      refine j_getI (ci := 12) (N := 80) (f := 15) (T := TX12) dX12_read_150 rfl (hG 112 (17, 80) rfl) rfl (by decide) fl_X12_242 rfl ?_
      refine j_if_le 163 dX12_read_153 rfl (by decide) (fun c2 => ?_) (fun c2 => ?_)
      · skip
        refine j_iconst (-1) dX12_read_163 rfl (by decide) ?_
        refine j_putI (ci := 12) (N := 80) (f := 17) (T := TX12) dX12_read_164 rfl (hG 112 (17, 80) rfl) rfl (by decide) fl_X12_37 rfl rfl ?_
        refine j_aload_n dX12_read_167 rfl rfl ?_
        refine j_getI (ci := 12) (N := 80) (f := 13) (T := TX12) dX12_read_168 rfl (hG 112 (17, 80) rfl) rfl (by decide) fl_X12_233 rfl ?_
        refine j_if_le 179 dX12_read_171 rfl (by decide) (fun c3 => ?_) (fun c3 => ?_)
        · skip
          refine j_aload_n dX12_read_179 rfl rfl ?_
          refine j_getI (ci := 12) (N := 80) (f := 15) (T := TX12) dX12_read_180 rfl (hG 112 (17, 80) rfl) rfl (by decide) fl_X12_242 rfl ?_
          refine j_if_le 191 dX12_read_183 rfl (by decide) (fun c4 => ?_) (fun c4 => ?_)
          · skip
            refine j_aload_n dX12_read_191 rfl rfl ?_
            refine j_aload_n dX12_read_192 rfl rfl ?_
            refine j_getI (ci := 12) (N := 80) (f := 19) (T := TX12) dX12_read_193 rfl (hG 112 (17, 80) rfl) rfl (by decide) fl_X12_266 rfl ?_
            refine j_putI (ci := 12) (N := 80) (f := 18) (T := TX12) dX12_read_196 rfl (hG 112 (17, 80) rfl) rfl (by decide) fl_X12_263 rfl rfl ?_
            refine j_aload_n dX12_read_199 rfl rfl ?_
            refine j_cV (as := []) (rest := []) dX12_read_200 rfl vw_X12_190 (hG 112 (17, 80) rfl) rfl ⟨Nat.le_of_ble_eq_true rfl, Nat.le_of_ble_eq_true rfl⟩ rfl rfl (fun _ _ => Nat.le_of_ble_eq_true rfl) (e0 c0 c1 c2 c3 c4) (fun r μ' hr => ?_)
            obtain ⟨rfl, hr⟩ := hr
            exact k0 c0 c1 c2 c3 c4 μ' hr
          · skip
            refine j_aload_n dX12_read_186 rfl rfl ?_
            refine j_getI (ci := 12) (N := 80) (f := 15) (T := TX12) dX12_read_187 rfl (hG 112 (17, 80) rfl) rfl (by decide) fl_X12_242 rfl ?_
            exact j_iret dX12_read_190 rfl (k1 c0 c1 c2 c3 c4)
        · skip
          refine j_aload_n dX12_read_174 rfl rfl ?_
          refine j_getI (ci := 12) (N := 80) (f := 13) (T := TX12) dX12_read_175 rfl (hG 112 (17, 80) rfl) rfl (by decide) fl_X12_233 rfl ?_
          exact j_iret dX12_read_178 rfl (k2 c0 c1 c2 c3)
      · skip
        refine j_aload_n dX12_read_156 rfl rfl ?_
        refine j_getI (ci := 12) (N := 80) (f := 16) (T := TX12) dX12_read_157 rfl (hG 112 (17, 80) rfl) rfl (by decide) fl_X12_245 rfl ?_
        refine j_goto 164 dX12_read_160 (by decide) ?_
        refine j_putI (ci := 12) (N := 80) (f := 17) (T := TX12) dX12_read_164 rfl (hG 112 (17, 80) rfl) rfl (by decide) fl_X12_37 rfl rfl ?_
        refine j_aload_n dX12_read_167 rfl rfl ?_
        refine j_getI (ci := 12) (N := 80) (f := 13) (T := TX12) dX12_read_168 rfl (hG 112 (17, 80) rfl) rfl (by decide) fl_X12_233 rfl ?_
        refine j_if_le 179 dX12_read_171 rfl (by decide) (fun c5 => ?_) (fun c5 => ?_)
        · skip
          refine j_aload_n dX12_read_179 rfl rfl ?_
          refine j_getI (ci := 12) (N := 80) (f := 15) (T := TX12) dX12_read_180 rfl (hG 112 (17, 80) rfl) rfl (by decide) fl_X12_242 rfl ?_
          refine j_if_le 191 dX12_read_183 rfl (by decide) (fun c6 => ?_) (fun c6 => ?_)
          · skip
            refine j_aload_n dX12_read_191 rfl rfl ?_
            refine j_aload_n dX12_read_192 rfl rfl ?_
            refine j_getI (ci := 12) (N := 80) (f := 19) (T := TX12) dX12_read_193 rfl (hG 112 (17, 80) rfl) rfl (by decide) fl_X12_266 rfl ?_
            refine j_putI (ci := 12) (N := 80) (f := 18) (T := TX12) dX12_read_196 rfl (hG 112 (17, 80) rfl) rfl (by decide) fl_X12_263 rfl rfl ?_
            refine j_aload_n dX12_read_199 rfl rfl ?_
            refine j_cV (as := []) (rest := []) dX12_read_200 rfl vw_X12_190 (hG 112 (17, 80) rfl) rfl ⟨Nat.le_of_ble_eq_true rfl, Nat.le_of_ble_eq_true rfl⟩ rfl rfl (fun _ _ => Nat.le_of_ble_eq_true rfl) (e3 c0 c1 c2 c5 c6) (fun r μ' hr => ?_)
            obtain ⟨rfl, hr⟩ := hr
            exact k3 c0 c1 c2 c5 c6 μ' hr
          · skip
            refine j_aload_n dX12_read_186 rfl rfl ?_
            refine j_getI (ci := 12) (N := 80) (f := 15) (T := TX12) dX12_read_187 rfl (hG 112 (17, 80) rfl) rfl (by decide) fl_X12_242 rfl ?_
            exact j_iret dX12_read_190 rfl (k4 c0 c1 c2 c5 c6)
        · skip
          refine j_aload_n dX12_read_174 rfl rfl ?_
          refine j_getI (ci := 12) (N := 80) (f := 13) (T := TX12) dX12_read_175 rfl (hG 112 (17, 80) rfl) rfl (by decide) fl_X12_233 rfl ?_
          exact j_iret dX12_read_178 rfl (k5 c0 c1 c2 c5)
    · skip
      refine j_aload_n dX12_read_142 rfl rfl ?_
      refine j_getI (ci := 12) (N := 80) (f := 14) (T := TX12) dX12_read_143 rfl (hG 112 (17, 80) rfl) rfl (by decide) fl_X12_239 rfl ?_
      refine j_goto 164 dX12_read_146 (by decide) ?_
      refine j_putI (ci := 12) (N := 80) (f := 17) (T := TX12) dX12_read_164 rfl (hG 112 (17, 80) rfl) rfl (by decide) fl_X12_37 rfl rfl ?_
      refine j_aload_n dX12_read_167 rfl rfl ?_
      refine j_getI (ci := 12) (N := 80) (f := 13) (T := TX12) dX12_read_168 rfl (hG 112 (17, 80) rfl) rfl (by decide) fl_X12_233 rfl ?_
      refine j_if_le 179 dX12_read_171 rfl (by decide) (fun c7 => ?_) (fun c7 => ?_)
      · skip
        refine j_aload_n dX12_read_179 rfl rfl ?_
        refine j_getI (ci := 12) (N := 80) (f := 15) (T := TX12) dX12_read_180 rfl (hG 112 (17, 80) rfl) rfl (by decide) fl_X12_242 rfl ?_
        refine j_if_le 191 dX12_read_183 rfl (by decide) (fun c8 => ?_) (fun c8 => ?_)
        · skip
          refine j_aload_n dX12_read_191 rfl rfl ?_
          refine j_aload_n dX12_read_192 rfl rfl ?_
          refine j_getI (ci := 12) (N := 80) (f := 19) (T := TX12) dX12_read_193 rfl (hG 112 (17, 80) rfl) rfl (by decide) fl_X12_266 rfl ?_
          refine j_putI (ci := 12) (N := 80) (f := 18) (T := TX12) dX12_read_196 rfl (hG 112 (17, 80) rfl) rfl (by decide) fl_X12_263 rfl rfl ?_
          refine j_aload_n dX12_read_199 rfl rfl ?_
          refine j_cV (as := []) (rest := []) dX12_read_200 rfl vw_X12_190 (hG 112 (17, 80) rfl) rfl ⟨Nat.le_of_ble_eq_true rfl, Nat.le_of_ble_eq_true rfl⟩ rfl rfl (fun _ _ => Nat.le_of_ble_eq_true rfl) (e6 c0 c1 c7 c8) (fun r μ' hr => ?_)
          obtain ⟨rfl, hr⟩ := hr
          exact k6 c0 c1 c7 c8 μ' hr
        · skip
          refine j_aload_n dX12_read_186 rfl rfl ?_
          refine j_getI (ci := 12) (N := 80) (f := 15) (T := TX12) dX12_read_187 rfl (hG 112 (17, 80) rfl) rfl (by decide) fl_X12_242 rfl ?_
          exact j_iret dX12_read_190 rfl (k7 c0 c1 c7 c8)
      · skip
        refine j_aload_n dX12_read_174 rfl rfl ?_
        refine j_getI (ci := 12) (N := 80) (f := 13) (T := TX12) dX12_read_175 rfl (hG 112 (17, 80) rfl) rfl (by decide) fl_X12_233 rfl ?_
        exact j_iret dX12_read_178 rfl (k8 c0 c1 c7)
  · skip
    refine j_aload_n dX12_read_127 rfl rfl ?_
    refine j_cV (as := []) (rest := []) dX12_read_128 rfl vw_X12_278 (hG 112 (17, 80) rfl) rfl ⟨Nat.le_of_ble_eq_true rfl, Nat.le_of_ble_eq_true rfl⟩ rfl rfl (fun _ _ => Nat.le_of_ble_eq_true rfl) (e9 c0) (fun r μ' hr => ?_)
    obtain ⟨rfl, hr⟩ := hr
    exact k9 c0 μ' hr
theorem b_X12_read_131 {l : Launch} {G : jG} {μ : jM} {φ : Int32 → jM → Prop} (hG : gMM G) (hP : gNN μ) 
    (k0 : J l mX12_read (jZ0 7 G (pI φ)) G 0 0 112 [.ref 112, .null] [] μ) :
    J l mX12_read (jZ0 7 G (pI φ)) G 0 0 131 [.ref 112, .null] [] μ := by
  refine j_goto 112 dX12_read_131 (by decide) ?_
  exact k0 
theorem b_X12_read_203 {l : Launch} {G : jG} {μ : jM} {φ : Int32 → jM → Prop} {ψ0 : jM → Prop} (hG : gMM G) (hP : gNN μ) 
    (e0 : jC0 l mX12_keepsRow 0 G [.ref 112] μ (pV ψ0)) 
    (k0 : ∀ μ', ψ0 μ' → J l mX12_read (jZ0 7 G (pI φ)) G 0 0 207 [.ref 112, .null] [] μ') :
    J l mX12_read (jZ0 7 G (pI φ)) G 0 0 203 [.ref 112, .null] [] μ := by
  refine j_aload_n dX12_read_203 rfl rfl ?_
  refine j_cV (as := []) (rest := []) dX12_read_204 rfl vw_X12_193 (hG 112 (17, 80) rfl) rfl ⟨Nat.le_of_ble_eq_true rfl, Nat.le_of_ble_eq_true rfl⟩ rfl rfl (fun _ _ => Nat.le_of_ble_eq_true rfl) (e0 ) (fun r μ' hr => ?_)
  obtain ⟨rfl, hr⟩ := hr
  exact k0  μ' hr
theorem b_X12_read_207 {l : Launch} {G : jG} {μ : jM} {φ : Int32 → jM → Prop} (hG : gMM G) (hP : gNN μ) 
    (k0 : J l mX12_read (jZ0 7 G (pI φ)) G 0 0 219 [.ref 112, .int 0] [] (wI (wI μ 112 66 0) 112 71 0)) :
    J l mX12_read (jZ0 7 G (pI φ)) G 0 0 207 [.ref 112, .null] [] μ := by
  refine j_aload_n dX12_read_207 rfl rfl ?_
  refine j_iconst 0 dX12_read_208 rfl (by decide) ?_
  refine j_putI (ci := 12) (N := 80) (f := 66) (T := TX12) dX12_read_209 rfl (hG 112 (17, 80) rfl) rfl (by decide) fl_X12_281 rfl rfl ?_
  refine j_aload_n dX12_read_212 rfl rfl ?_
  refine j_iconst 0 dX12_read_213 rfl (by decide) ?_
  refine j_putI (ci := 12) (N := 80) (f := 71) (T := TX12) dX12_read_214 rfl (hG 112 (17, 80) rfl) rfl (by decide) fl_X12_284 rfl rfl ?_
  refine j_iconst 0 dX12_read_217 rfl (by decide) ?_
  refine j_istore_n (ls' := [.ref 112, .int 0]) dX12_read_218 rfl rfl (Nat.le_of_ble_eq_true rfl) rfl ?_
  exact k0 
theorem b_X12_read_219 {l : Launch} {G : jG} {μ : jM} {φ : Int32 → jM → Prop} {x1 : Int32} (hG : gMM G) (hP : gNN μ) 
    (k0 : (3 ≤ (x1 : Int32)) → φ 0 μ) 
    (o0 : (¬ (3 ≤ (x1 : Int32))) → vp_in x1 3) 
    (k1 : (¬ (3 ≤ (x1 : Int32))) → J l mX12_read (jZ0 7 G (pI φ)) G 0 0 219 [.ref 112, .int (x1 + 1)] [] (wI μ 165 (Int32.toNatClampNeg x1) (vp_nar .boolean 0))) :
    J l mX12_read (jZ0 7 G (pI φ)) G 0 0 219 [.ref 112, .int x1] [] μ := by
  refine j_iload_n dX12_read_219 rfl rfl ?_
  refine j_iconst 3 dX12_read_220 rfl (by decide) ?_
  refine j_icmp_ge 237 dX12_read_221 rfl (by decide) (fun c0 => ?_) (fun c0 => ?_)
  · skip
    refine j_iconst 0 dX12_read_237 rfl (by decide) ?_
    exact j_iret dX12_read_238 rfl (k0 c0)
  · skip
    refine j_aload_n dX12_read_224 rfl rfl ?_
    refine j_getR (ci := 12) (N := 80) (f := 78) (T := TX12) 165 dX12_read_225 rfl (hG 112 (17, 80) rfl) rfl (by decide) fl_X12_176 rfl (hP 112 78 165 rfl) ?_
    refine j_iload_n dX12_read_228 rfl rfl ?_
    refine j_iconst 0 dX12_read_229 rfl (by decide) ?_
    refine j_zast' (j := (Int32.toNatClampNeg x1)) dX12_read_230 rfl (hG 165 (2, 3) rfl) (o0 c0) rfl ?_
    refine j_iinc (x1 + 1) (ls' := [.ref 112, .int (x1 + 1)]) dX12_read_231 rfl rfl rfl (Nat.le_of_ble_eq_true rfl) rfl ?_
    refine j_goto 219 dX12_read_234 (by decide) ?_
    exact k1 c0
theorem b_X12_place_0 {l : Launch} {G : jG} {μ : jM} {φ : Int32 → jM → Prop} (hG : gMM G) (hP : gNN μ) 
    (k0 : φ (μ.1 112 17) μ) :
    J l mX12_place (jZ0 0 G (pI φ)) G 0 0 0 [.ref 112] [] μ := by
  refine j_aload_n dX12_place_0 rfl rfl ?_
  refine j_getI (ci := 12) (N := 80) (f := 17) (T := TX12) dX12_place_1 rfl (hG 112 (17, 80) rfl) rfl (by decide) fl_X12_37 rfl ?_
  exact j_iret dX12_place_4 rfl (k0 )
theorem b_X12_roomFor_0 {l : Launch} {G : jG} {μ : jM} {φ : jM → Prop} {x1 x2 : Int32} {ψ1 : jM → Prop} {ψ2 : jM → Prop} (hG : gMM G) (hP : gNN μ) 
    (k0 : (¬ x1 = (x2 : Int32)) → (¬ (μ.1 112 13) = (0 : Int32)) → φ μ) 
    (e1 : (¬ x1 = (x2 : Int32)) → ((μ.1 112 13) = (0 : Int32)) → jC0 l mX12_goesOn 1 G [.ref 112] μ (pV ψ1)) 
    (k1 : (¬ x1 = (x2 : Int32)) → ((μ.1 112 13) = (0 : Int32)) → ∀ μ', ψ1 μ' → J l mX12_roomFor (jZ0 2 G (pV φ)) G 0 0 21 [.null, .null, .null] [] μ') 
    (e2 : (x1 = (x2 : Int32)) → jC0 l mX12_fail 0 G [.ref 112, .int 2] μ (pV ψ2)) 
    (k2 : (x1 = (x2 : Int32)) → ∀ μ', ψ2 μ' → J l mX12_roomFor (jZ0 2 G (pV φ)) G 0 0 10 [.ref 112, .null, .null] [] μ') :
    J l mX12_roomFor (jZ0 2 G (pV φ)) G 0 0 0 [.ref 112, .int x1, .int x2] [] μ := by
  refine j_iload_n dX12_roomFor_0 rfl rfl ?_
  refine j_iload_n dX12_roomFor_1 rfl rfl ?_
  refine j_icmp_ne 10 dX12_roomFor_2 rfl (by decide) (fun c0 => ?_) (fun c0 => ?_)
  · skip
    refine j_aload_n dX12_roomFor_10 rfl rfl ?_
    refine j_getI (ci := 12) (N := 80) (f := 13) (T := TX12) dX12_roomFor_11 rfl (hG 112 (17, 80) rfl) rfl (by decide) fl_X12_233 rfl ?_
    refine j_if_ne 21 dX12_roomFor_14 rfl (by decide) (fun c1 => ?_) (fun c1 => ?_)
    · skip
      exact j_vret dX12_roomFor_21 rfl (k0 c0 c1)
    · skip
      refine j_aload_n dX12_roomFor_17 rfl rfl ?_
      refine j_cV (as := []) (rest := []) dX12_roomFor_18 rfl vw_X12_254 (hG 112 (17, 80) rfl) rfl ⟨Nat.le_of_ble_eq_true rfl, Nat.le_of_ble_eq_true rfl⟩ rfl rfl (fun _ _ => Nat.le_of_ble_eq_true rfl) (e1 c0 c1) (fun r μ' hr => ?_)
      obtain ⟨rfl, hr⟩ := hr
      refine j_forget (ls' := [.null, .null, .null]) ⟨Or.inl rfl, Or.inl rfl, Or.inl rfl, trivial⟩ ?_
      exact k1 c0 c1 μ' hr
  · skip
    refine j_aload_n dX12_roomFor_5 rfl rfl ?_
    refine j_iconst 2 dX12_roomFor_6 rfl (by decide) ?_
    refine j_cV (as := [.int 2]) (rest := []) dX12_roomFor_7 rfl vw_X12_248 (hG 112 (17, 80) rfl) rfl ⟨Nat.le_of_ble_eq_true rfl, Nat.le_of_ble_eq_true rfl⟩ rfl rfl (fun _ _ => Nat.le_of_ble_eq_true rfl) (e2 c0) (fun r μ' hr => ?_)
    obtain ⟨rfl, hr⟩ := hr
    refine j_forget (ls' := [.ref 112, .null, .null]) ⟨Or.inr rfl, Or.inl rfl, Or.inl rfl, trivial⟩ ?_
    exact k2 c0 μ' hr
theorem b_X12_roomFor_10 {l : Launch} {G : jG} {μ : jM} {φ : jM → Prop} {ψ1 : jM → Prop} (hG : gMM G) (hP : gNN μ) 
    (k0 : (¬ (μ.1 112 13) = (0 : Int32)) → φ μ) 
    (e1 : ((μ.1 112 13) = (0 : Int32)) → jC0 l mX12_goesOn 1 G [.ref 112] μ (pV ψ1)) 
    (k1 : ((μ.1 112 13) = (0 : Int32)) → ∀ μ', ψ1 μ' → J l mX12_roomFor (jZ0 2 G (pV φ)) G 0 0 21 [.null, .null, .null] [] μ') :
    J l mX12_roomFor (jZ0 2 G (pV φ)) G 0 0 10 [.ref 112, .null, .null] [] μ := by
  refine j_aload_n dX12_roomFor_10 rfl rfl ?_
  refine j_getI (ci := 12) (N := 80) (f := 13) (T := TX12) dX12_roomFor_11 rfl (hG 112 (17, 80) rfl) rfl (by decide) fl_X12_233 rfl ?_
  refine j_if_ne 21 dX12_roomFor_14 rfl (by decide) (fun c0 => ?_) (fun c0 => ?_)
  · skip
    exact j_vret dX12_roomFor_21 rfl (k0 c0)
  · skip
    refine j_aload_n dX12_roomFor_17 rfl rfl ?_
    refine j_cV (as := []) (rest := []) dX12_roomFor_18 rfl vw_X12_254 (hG 112 (17, 80) rfl) rfl ⟨Nat.le_of_ble_eq_true rfl, Nat.le_of_ble_eq_true rfl⟩ rfl rfl (fun _ _ => Nat.le_of_ble_eq_true rfl) (e1 c0) (fun r μ' hr => ?_)
    obtain ⟨rfl, hr⟩ := hr
    refine j_forget (ls' := [.null, .null, .null]) ⟨Or.inl rfl, Or.inr rfl, Or.inr rfl, trivial⟩ ?_
    exact k1 c0 μ' hr
theorem b_X12_roomFor_21 {l : Launch} {G : jG} {μ : jM} {φ : jM → Prop} (hG : gMM G) (hP : gNN μ) 
    (k0 : φ μ) :
    J l mX12_roomFor (jZ0 2 G (pV φ)) G 0 0 21 [.null, .null, .null] [] μ := by
  exact j_vret dX12_roomFor_21 rfl (k0 )
theorem b_X12_tellOne_0 {l : Launch} {G : jG} {μ : jM} {φ : jM → Prop} {ψ0 : jM → Prop} {ψ1 : jM → Prop} {ψ8 : jM → Prop} {ψ18 : jM → Prop} {ψ19 : jM → Prop} {ψ20 : jM → Prop} (hG : gMM G) (hP : gNN μ) 
    (o0 : vp_in (μ.1 112 11) 403) 
    (o1 : ((μ.1 115 (Int32.toNatClampNeg (μ.1 112 11))) = (20 : Int32)) → vp_in (μ.1 112 19) 2) 
    (e0 : ((μ.1 115 (Int32.toNatClampNeg (μ.1 112 11))) = (20 : Int32)) → jC0 l mX12_roomFor 2 G [.ref 112, .int (μ.1 122 (Int32.toNatClampNeg (μ.1 112 19))), .int 8] μ (pV ψ0)) 
    (k0 : ((μ.1 115 (Int32.toNatClampNeg (μ.1 112 11))) = (20 : Int32)) → ∀ μ', ψ0 μ' → J l mX12_tellOne (jZ0 6 G (pV φ)) G 0 0 83 [.ref 112, .null] [] μ') 
    (o2 : (¬ (μ.1 115 (Int32.toNatClampNeg (μ.1 112 11))) = (20 : Int32)) → ((μ.1 115 (Int32.toNatClampNeg (μ.1 112 11))) = (21 : Int32)) → vp_in (μ.1 112 19) 2) 
    (e1 : (¬ (μ.1 115 (Int32.toNatClampNeg (μ.1 112 11))) = (20 : Int32)) → ((μ.1 115 (Int32.toNatClampNeg (μ.1 112 11))) = (21 : Int32)) → jC0 l mX12_roomFor 2 G [.ref 112, .int (μ.1 123 (Int32.toNatClampNeg (μ.1 112 19))), .int 12] μ (pV ψ1)) 
    (k1 : (¬ (μ.1 115 (Int32.toNatClampNeg (μ.1 112 11))) = (20 : Int32)) → ((μ.1 115 (Int32.toNatClampNeg (μ.1 112 11))) = (21 : Int32)) → ∀ μ', ψ1 μ' → J l mX12_tellOne (jZ0 6 G (pV φ)) G 0 0 146 [.ref 112, .null] [] μ') 
    (k2 : (¬ (μ.1 115 (Int32.toNatClampNeg (μ.1 112 11))) = (20 : Int32)) → (¬ (μ.1 115 (Int32.toNatClampNeg (μ.1 112 11))) = (21 : Int32)) → ((μ.1 115 (Int32.toNatClampNeg (μ.1 112 11))) = (22 : Int32)) → (((μ.1 115 (Int32.toNatClampNeg (μ.1 112 11))) - 25) < (0 : Int32)) → J l mX12_tellOne (jZ0 6 G (pV φ)) G 0 0 321 [.ref 112, .int ((μ.1 115 (Int32.toNatClampNeg (μ.1 112 11))) - 25)] [] μ) 
    (k3 : (¬ (μ.1 115 (Int32.toNatClampNeg (μ.1 112 11))) = (20 : Int32)) → (¬ (μ.1 115 (Int32.toNatClampNeg (μ.1 112 11))) = (21 : Int32)) → ((μ.1 115 (Int32.toNatClampNeg (μ.1 112 11))) = (22 : Int32)) → (¬ (((μ.1 115 (Int32.toNatClampNeg (μ.1 112 11))) - 25) < (0 : Int32))) → ((μ.1 115 (Int32.toNatClampNeg (μ.1 112 11))) ≤ (27 : Int32)) → J l mX12_tellOne (jZ0 6 G (pV φ)) G 0 0 326 [.ref 112, .int ((μ.1 115 (Int32.toNatClampNeg (μ.1 112 11))) - 25)] [] μ) 
    (k4 : (¬ (μ.1 115 (Int32.toNatClampNeg (μ.1 112 11))) = (20 : Int32)) → (¬ (μ.1 115 (Int32.toNatClampNeg (μ.1 112 11))) = (21 : Int32)) → ((μ.1 115 (Int32.toNatClampNeg (μ.1 112 11))) = (22 : Int32)) → (¬ (((μ.1 115 (Int32.toNatClampNeg (μ.1 112 11))) - 25) < (0 : Int32))) → (¬ ((μ.1 115 (Int32.toNatClampNeg (μ.1 112 11))) ≤ (27 : Int32))) → J l mX12_tellOne (jZ0 6 G (pV φ)) G 0 0 321 [.ref 112, .int ((μ.1 115 (Int32.toNatClampNeg (μ.1 112 11))) - 25)] [] μ) 
    (k5 : (¬ (μ.1 115 (Int32.toNatClampNeg (μ.1 112 11))) = (20 : Int32)) → (¬ (μ.1 115 (Int32.toNatClampNeg (μ.1 112 11))) = (21 : Int32)) → (¬ (μ.1 115 (Int32.toNatClampNeg (μ.1 112 11))) = (22 : Int32)) → ((μ.1 115 (Int32.toNatClampNeg (μ.1 112 11))) = (23 : Int32)) → (((μ.1 115 (Int32.toNatClampNeg (μ.1 112 11))) - 25) < (0 : Int32)) → J l mX12_tellOne (jZ0 6 G (pV φ)) G 0 0 321 [.ref 112, .int ((μ.1 115 (Int32.toNatClampNeg (μ.1 112 11))) - 25)] [] μ) 
    (k6 : (¬ (μ.1 115 (Int32.toNatClampNeg (μ.1 112 11))) = (20 : Int32)) → (¬ (μ.1 115 (Int32.toNatClampNeg (μ.1 112 11))) = (21 : Int32)) → (¬ (μ.1 115 (Int32.toNatClampNeg (μ.1 112 11))) = (22 : Int32)) → ((μ.1 115 (Int32.toNatClampNeg (μ.1 112 11))) = (23 : Int32)) → (¬ (((μ.1 115 (Int32.toNatClampNeg (μ.1 112 11))) - 25) < (0 : Int32))) → ((μ.1 115 (Int32.toNatClampNeg (μ.1 112 11))) ≤ (27 : Int32)) → J l mX12_tellOne (jZ0 6 G (pV φ)) G 0 0 326 [.ref 112, .int ((μ.1 115 (Int32.toNatClampNeg (μ.1 112 11))) - 25)] [] μ) 
    (k7 : (¬ (μ.1 115 (Int32.toNatClampNeg (μ.1 112 11))) = (20 : Int32)) → (¬ (μ.1 115 (Int32.toNatClampNeg (μ.1 112 11))) = (21 : Int32)) → (¬ (μ.1 115 (Int32.toNatClampNeg (μ.1 112 11))) = (22 : Int32)) → ((μ.1 115 (Int32.toNatClampNeg (μ.1 112 11))) = (23 : Int32)) → (¬ (((μ.1 115 (Int32.toNatClampNeg (μ.1 112 11))) - 25) < (0 : Int32))) → (¬ ((μ.1 115 (Int32.toNatClampNeg (μ.1 112 11))) ≤ (27 : Int32))) → J l mX12_tellOne (jZ0 6 G (pV φ)) G 0 0 321 [.ref 112, .int ((μ.1 115 (Int32.toNatClampNeg (μ.1 112 11))) - 25)] [] μ) 
    (o3 : (¬ (μ.1 115 (Int32.toNatClampNeg (μ.1 112 11))) = (20 : Int32)) → (¬ (μ.1 115 (Int32.toNatClampNeg (μ.1 112 11))) = (21 : Int32)) → (¬ (μ.1 115 (Int32.toNatClampNeg (μ.1 112 11))) = (22 : Int32)) → (¬ (μ.1 115 (Int32.toNatClampNeg (μ.1 112 11))) = (23 : Int32)) → ((μ.1 115 (Int32.toNatClampNeg (μ.1 112 11))) = (24 : Int32)) → vp_in (μ.1 112 19) 2) 
    (e8 : (¬ (μ.1 115 (Int32.toNatClampNeg (μ.1 112 11))) = (20 : Int32)) → (¬ (μ.1 115 (Int32.toNatClampNeg (μ.1 112 11))) = (21 : Int32)) → (¬ (μ.1 115 (Int32.toNatClampNeg (μ.1 112 11))) = (22 : Int32)) → (¬ (μ.1 115 (Int32.toNatClampNeg (μ.1 112 11))) = (23 : Int32)) → ((μ.1 115 (Int32.toNatClampNeg (μ.1 112 11))) = (24 : Int32)) → jC0 l mX12_roomFor 2 G [.ref 112, .int (μ.1 129 (Int32.toNatClampNeg (μ.1 112 19))), .int 7] μ (pV ψ8)) 
    (k8 : (¬ (μ.1 115 (Int32.toNatClampNeg (μ.1 112 11))) = (20 : Int32)) → (¬ (μ.1 115 (Int32.toNatClampNeg (μ.1 112 11))) = (21 : Int32)) → (¬ (μ.1 115 (Int32.toNatClampNeg (μ.1 112 11))) = (22 : Int32)) → (¬ (μ.1 115 (Int32.toNatClampNeg (μ.1 112 11))) = (23 : Int32)) → ((μ.1 115 (Int32.toNatClampNeg (μ.1 112 11))) = (24 : Int32)) → ∀ μ', ψ8 μ' → J l mX12_tellOne (jZ0 6 G (pV φ)) G 0 0 175 [.ref 112, .null] [] μ') 
    (k9 : (¬ (μ.1 115 (Int32.toNatClampNeg (μ.1 112 11))) = (20 : Int32)) → (¬ (μ.1 115 (Int32.toNatClampNeg (μ.1 112 11))) = (21 : Int32)) → (¬ (μ.1 115 (Int32.toNatClampNeg (μ.1 112 11))) = (22 : Int32)) → (¬ (μ.1 115 (Int32.toNatClampNeg (μ.1 112 11))) = (23 : Int32)) → (¬ (μ.1 115 (Int32.toNatClampNeg (μ.1 112 11))) = (24 : Int32)) → ((μ.1 115 (Int32.toNatClampNeg (μ.1 112 11))) = (25 : Int32)) → (((μ.1 115 (Int32.toNatClampNeg (μ.1 112 11))) - 25) < (0 : Int32)) → J l mX12_tellOne (jZ0 6 G (pV φ)) G 0 0 321 [.ref 112, .int ((μ.1 115 (Int32.toNatClampNeg (μ.1 112 11))) - 25)] [] μ) 
    (k10 : (¬ (μ.1 115 (Int32.toNatClampNeg (μ.1 112 11))) = (20 : Int32)) → (¬ (μ.1 115 (Int32.toNatClampNeg (μ.1 112 11))) = (21 : Int32)) → (¬ (μ.1 115 (Int32.toNatClampNeg (μ.1 112 11))) = (22 : Int32)) → (¬ (μ.1 115 (Int32.toNatClampNeg (μ.1 112 11))) = (23 : Int32)) → (¬ (μ.1 115 (Int32.toNatClampNeg (μ.1 112 11))) = (24 : Int32)) → ((μ.1 115 (Int32.toNatClampNeg (μ.1 112 11))) = (25 : Int32)) → (¬ (((μ.1 115 (Int32.toNatClampNeg (μ.1 112 11))) - 25) < (0 : Int32))) → ((μ.1 115 (Int32.toNatClampNeg (μ.1 112 11))) ≤ (27 : Int32)) → J l mX12_tellOne (jZ0 6 G (pV φ)) G 0 0 326 [.ref 112, .int ((μ.1 115 (Int32.toNatClampNeg (μ.1 112 11))) - 25)] [] μ) 
    (k11 : (¬ (μ.1 115 (Int32.toNatClampNeg (μ.1 112 11))) = (20 : Int32)) → (¬ (μ.1 115 (Int32.toNatClampNeg (μ.1 112 11))) = (21 : Int32)) → (¬ (μ.1 115 (Int32.toNatClampNeg (μ.1 112 11))) = (22 : Int32)) → (¬ (μ.1 115 (Int32.toNatClampNeg (μ.1 112 11))) = (23 : Int32)) → (¬ (μ.1 115 (Int32.toNatClampNeg (μ.1 112 11))) = (24 : Int32)) → ((μ.1 115 (Int32.toNatClampNeg (μ.1 112 11))) = (25 : Int32)) → (¬ (((μ.1 115 (Int32.toNatClampNeg (μ.1 112 11))) - 25) < (0 : Int32))) → (¬ ((μ.1 115 (Int32.toNatClampNeg (μ.1 112 11))) ≤ (27 : Int32))) → J l mX12_tellOne (jZ0 6 G (pV φ)) G 0 0 321 [.ref 112, .int ((μ.1 115 (Int32.toNatClampNeg (μ.1 112 11))) - 25)] [] μ) 
    (k12 : (¬ (μ.1 115 (Int32.toNatClampNeg (μ.1 112 11))) = (20 : Int32)) → (¬ (μ.1 115 (Int32.toNatClampNeg (μ.1 112 11))) = (21 : Int32)) → (¬ (μ.1 115 (Int32.toNatClampNeg (μ.1 112 11))) = (22 : Int32)) → (¬ (μ.1 115 (Int32.toNatClampNeg (μ.1 112 11))) = (23 : Int32)) → (¬ (μ.1 115 (Int32.toNatClampNeg (μ.1 112 11))) = (24 : Int32)) → (¬ (μ.1 115 (Int32.toNatClampNeg (μ.1 112 11))) = (25 : Int32)) → ((μ.1 115 (Int32.toNatClampNeg (μ.1 112 11))) = (26 : Int32)) → (((μ.1 115 (Int32.toNatClampNeg (μ.1 112 11))) - 25) < (0 : Int32)) → J l mX12_tellOne (jZ0 6 G (pV φ)) G 0 0 321 [.ref 112, .int ((μ.1 115 (Int32.toNatClampNeg (μ.1 112 11))) - 25)] [] μ) 
    (k13 : (¬ (μ.1 115 (Int32.toNatClampNeg (μ.1 112 11))) = (20 : Int32)) → (¬ (μ.1 115 (Int32.toNatClampNeg (μ.1 112 11))) = (21 : Int32)) → (¬ (μ.1 115 (Int32.toNatClampNeg (μ.1 112 11))) = (22 : Int32)) → (¬ (μ.1 115 (Int32.toNatClampNeg (μ.1 112 11))) = (23 : Int32)) → (¬ (μ.1 115 (Int32.toNatClampNeg (μ.1 112 11))) = (24 : Int32)) → (¬ (μ.1 115 (Int32.toNatClampNeg (μ.1 112 11))) = (25 : Int32)) → ((μ.1 115 (Int32.toNatClampNeg (μ.1 112 11))) = (26 : Int32)) → (¬ (((μ.1 115 (Int32.toNatClampNeg (μ.1 112 11))) - 25) < (0 : Int32))) → ((μ.1 115 (Int32.toNatClampNeg (μ.1 112 11))) ≤ (27 : Int32)) → J l mX12_tellOne (jZ0 6 G (pV φ)) G 0 0 326 [.ref 112, .int ((μ.1 115 (Int32.toNatClampNeg (μ.1 112 11))) - 25)] [] μ) 
    (k14 : (¬ (μ.1 115 (Int32.toNatClampNeg (μ.1 112 11))) = (20 : Int32)) → (¬ (μ.1 115 (Int32.toNatClampNeg (μ.1 112 11))) = (21 : Int32)) → (¬ (μ.1 115 (Int32.toNatClampNeg (μ.1 112 11))) = (22 : Int32)) → (¬ (μ.1 115 (Int32.toNatClampNeg (μ.1 112 11))) = (23 : Int32)) → (¬ (μ.1 115 (Int32.toNatClampNeg (μ.1 112 11))) = (24 : Int32)) → (¬ (μ.1 115 (Int32.toNatClampNeg (μ.1 112 11))) = (25 : Int32)) → ((μ.1 115 (Int32.toNatClampNeg (μ.1 112 11))) = (26 : Int32)) → (¬ (((μ.1 115 (Int32.toNatClampNeg (μ.1 112 11))) - 25) < (0 : Int32))) → (¬ ((μ.1 115 (Int32.toNatClampNeg (μ.1 112 11))) ≤ (27 : Int32))) → J l mX12_tellOne (jZ0 6 G (pV φ)) G 0 0 321 [.ref 112, .int ((μ.1 115 (Int32.toNatClampNeg (μ.1 112 11))) - 25)] [] μ) 
    (k15 : (¬ (μ.1 115 (Int32.toNatClampNeg (μ.1 112 11))) = (20 : Int32)) → (¬ (μ.1 115 (Int32.toNatClampNeg (μ.1 112 11))) = (21 : Int32)) → (¬ (μ.1 115 (Int32.toNatClampNeg (μ.1 112 11))) = (22 : Int32)) → (¬ (μ.1 115 (Int32.toNatClampNeg (μ.1 112 11))) = (23 : Int32)) → (¬ (μ.1 115 (Int32.toNatClampNeg (μ.1 112 11))) = (24 : Int32)) → (¬ (μ.1 115 (Int32.toNatClampNeg (μ.1 112 11))) = (25 : Int32)) → (¬ (μ.1 115 (Int32.toNatClampNeg (μ.1 112 11))) = (26 : Int32)) → ((μ.1 115 (Int32.toNatClampNeg (μ.1 112 11))) = (27 : Int32)) → (((μ.1 115 (Int32.toNatClampNeg (μ.1 112 11))) - 25) < (0 : Int32)) → J l mX12_tellOne (jZ0 6 G (pV φ)) G 0 0 321 [.ref 112, .int ((μ.1 115 (Int32.toNatClampNeg (μ.1 112 11))) - 25)] [] μ) 
    (k16 : (¬ (μ.1 115 (Int32.toNatClampNeg (μ.1 112 11))) = (20 : Int32)) → (¬ (μ.1 115 (Int32.toNatClampNeg (μ.1 112 11))) = (21 : Int32)) → (¬ (μ.1 115 (Int32.toNatClampNeg (μ.1 112 11))) = (22 : Int32)) → (¬ (μ.1 115 (Int32.toNatClampNeg (μ.1 112 11))) = (23 : Int32)) → (¬ (μ.1 115 (Int32.toNatClampNeg (μ.1 112 11))) = (24 : Int32)) → (¬ (μ.1 115 (Int32.toNatClampNeg (μ.1 112 11))) = (25 : Int32)) → (¬ (μ.1 115 (Int32.toNatClampNeg (μ.1 112 11))) = (26 : Int32)) → ((μ.1 115 (Int32.toNatClampNeg (μ.1 112 11))) = (27 : Int32)) → (¬ (((μ.1 115 (Int32.toNatClampNeg (μ.1 112 11))) - 25) < (0 : Int32))) → ((μ.1 115 (Int32.toNatClampNeg (μ.1 112 11))) ≤ (27 : Int32)) → J l mX12_tellOne (jZ0 6 G (pV φ)) G 0 0 326 [.ref 112, .int ((μ.1 115 (Int32.toNatClampNeg (μ.1 112 11))) - 25)] [] μ) 
    (k17 : (¬ (μ.1 115 (Int32.toNatClampNeg (μ.1 112 11))) = (20 : Int32)) → (¬ (μ.1 115 (Int32.toNatClampNeg (μ.1 112 11))) = (21 : Int32)) → (¬ (μ.1 115 (Int32.toNatClampNeg (μ.1 112 11))) = (22 : Int32)) → (¬ (μ.1 115 (Int32.toNatClampNeg (μ.1 112 11))) = (23 : Int32)) → (¬ (μ.1 115 (Int32.toNatClampNeg (μ.1 112 11))) = (24 : Int32)) → (¬ (μ.1 115 (Int32.toNatClampNeg (μ.1 112 11))) = (25 : Int32)) → (¬ (μ.1 115 (Int32.toNatClampNeg (μ.1 112 11))) = (26 : Int32)) → ((μ.1 115 (Int32.toNatClampNeg (μ.1 112 11))) = (27 : Int32)) → (¬ (((μ.1 115 (Int32.toNatClampNeg (μ.1 112 11))) - 25) < (0 : Int32))) → (¬ ((μ.1 115 (Int32.toNatClampNeg (μ.1 112 11))) ≤ (27 : Int32))) → J l mX12_tellOne (jZ0 6 G (pV φ)) G 0 0 321 [.ref 112, .int ((μ.1 115 (Int32.toNatClampNeg (μ.1 112 11))) - 25)] [] μ) 
    (e18 : (¬ (μ.1 115 (Int32.toNatClampNeg (μ.1 112 11))) = (20 : Int32)) → (¬ (μ.1 115 (Int32.toNatClampNeg (μ.1 112 11))) = (21 : Int32)) → (¬ (μ.1 115 (Int32.toNatClampNeg (μ.1 112 11))) = (22 : Int32)) → (¬ (μ.1 115 (Int32.toNatClampNeg (μ.1 112 11))) = (23 : Int32)) → (¬ (μ.1 115 (Int32.toNatClampNeg (μ.1 112 11))) = (24 : Int32)) → (¬ (μ.1 115 (Int32.toNatClampNeg (μ.1 112 11))) = (25 : Int32)) → (¬ (μ.1 115 (Int32.toNatClampNeg (μ.1 112 11))) = (26 : Int32)) → (¬ (μ.1 115 (Int32.toNatClampNeg (μ.1 112 11))) = (27 : Int32)) → ((μ.1 115 (Int32.toNatClampNeg (μ.1 112 11))) = (28 : Int32)) → jC0 l mX12_goesOn 1 G [.ref 112] μ (pV ψ18)) 
    (k18 : (¬ (μ.1 115 (Int32.toNatClampNeg (μ.1 112 11))) = (20 : Int32)) → (¬ (μ.1 115 (Int32.toNatClampNeg (μ.1 112 11))) = (21 : Int32)) → (¬ (μ.1 115 (Int32.toNatClampNeg (μ.1 112 11))) = (22 : Int32)) → (¬ (μ.1 115 (Int32.toNatClampNeg (μ.1 112 11))) = (23 : Int32)) → (¬ (μ.1 115 (Int32.toNatClampNeg (μ.1 112 11))) = (24 : Int32)) → (¬ (μ.1 115 (Int32.toNatClampNeg (μ.1 112 11))) = (25 : Int32)) → (¬ (μ.1 115 (Int32.toNatClampNeg (μ.1 112 11))) = (26 : Int32)) → (¬ (μ.1 115 (Int32.toNatClampNeg (μ.1 112 11))) = (27 : Int32)) → ((μ.1 115 (Int32.toNatClampNeg (μ.1 112 11))) = (28 : Int32)) → ∀ μ', ψ18 μ' → J l mX12_tellOne (jZ0 6 G (pV φ)) G 0 0 193 [.ref 112, .null] [] μ') 
    (e19 : (¬ (μ.1 115 (Int32.toNatClampNeg (μ.1 112 11))) = (20 : Int32)) → (¬ (μ.1 115 (Int32.toNatClampNeg (μ.1 112 11))) = (21 : Int32)) → (¬ (μ.1 115 (Int32.toNatClampNeg (μ.1 112 11))) = (22 : Int32)) → (¬ (μ.1 115 (Int32.toNatClampNeg (μ.1 112 11))) = (23 : Int32)) → (¬ (μ.1 115 (Int32.toNatClampNeg (μ.1 112 11))) = (24 : Int32)) → (¬ (μ.1 115 (Int32.toNatClampNeg (μ.1 112 11))) = (25 : Int32)) → (¬ (μ.1 115 (Int32.toNatClampNeg (μ.1 112 11))) = (26 : Int32)) → (¬ (μ.1 115 (Int32.toNatClampNeg (μ.1 112 11))) = (27 : Int32)) → (¬ (μ.1 115 (Int32.toNatClampNeg (μ.1 112 11))) = (28 : Int32)) → ((μ.1 115 (Int32.toNatClampNeg (μ.1 112 11))) = (29 : Int32)) → jC0 l mX12_goesOn 1 G [.ref 112] μ (pV ψ19)) 
    (k19 : (¬ (μ.1 115 (Int32.toNatClampNeg (μ.1 112 11))) = (20 : Int32)) → (¬ (μ.1 115 (Int32.toNatClampNeg (μ.1 112 11))) = (21 : Int32)) → (¬ (μ.1 115 (Int32.toNatClampNeg (μ.1 112 11))) = (22 : Int32)) → (¬ (μ.1 115 (Int32.toNatClampNeg (μ.1 112 11))) = (23 : Int32)) → (¬ (μ.1 115 (Int32.toNatClampNeg (μ.1 112 11))) = (24 : Int32)) → (¬ (μ.1 115 (Int32.toNatClampNeg (μ.1 112 11))) = (25 : Int32)) → (¬ (μ.1 115 (Int32.toNatClampNeg (μ.1 112 11))) = (26 : Int32)) → (¬ (μ.1 115 (Int32.toNatClampNeg (μ.1 112 11))) = (27 : Int32)) → (¬ (μ.1 115 (Int32.toNatClampNeg (μ.1 112 11))) = (28 : Int32)) → ((μ.1 115 (Int32.toNatClampNeg (μ.1 112 11))) = (29 : Int32)) → ∀ μ', ψ19 μ' → J l mX12_tellOne (jZ0 6 G (pV φ)) G 0 0 221 [.ref 112, .null] [] μ') 
    (e20 : (¬ (μ.1 115 (Int32.toNatClampNeg (μ.1 112 11))) = (20 : Int32)) → (¬ (μ.1 115 (Int32.toNatClampNeg (μ.1 112 11))) = (21 : Int32)) → (¬ (μ.1 115 (Int32.toNatClampNeg (μ.1 112 11))) = (22 : Int32)) → (¬ (μ.1 115 (Int32.toNatClampNeg (μ.1 112 11))) = (23 : Int32)) → (¬ (μ.1 115 (Int32.toNatClampNeg (μ.1 112 11))) = (24 : Int32)) → (¬ (μ.1 115 (Int32.toNatClampNeg (μ.1 112 11))) = (25 : Int32)) → (¬ (μ.1 115 (Int32.toNatClampNeg (μ.1 112 11))) = (26 : Int32)) → (¬ (μ.1 115 (Int32.toNatClampNeg (μ.1 112 11))) = (27 : Int32)) → (¬ (μ.1 115 (Int32.toNatClampNeg (μ.1 112 11))) = (28 : Int32)) → (¬ (μ.1 115 (Int32.toNatClampNeg (μ.1 112 11))) = (29 : Int32)) → ((μ.1 115 (Int32.toNatClampNeg (μ.1 112 11))) = (30 : Int32)) → jC0 l mX12_goesOn 1 G [.ref 112] μ (pV ψ20)) 
    (k20 : (¬ (μ.1 115 (Int32.toNatClampNeg (μ.1 112 11))) = (20 : Int32)) → (¬ (μ.1 115 (Int32.toNatClampNeg (μ.1 112 11))) = (21 : Int32)) → (¬ (μ.1 115 (Int32.toNatClampNeg (μ.1 112 11))) = (22 : Int32)) → (¬ (μ.1 115 (Int32.toNatClampNeg (μ.1 112 11))) = (23 : Int32)) → (¬ (μ.1 115 (Int32.toNatClampNeg (μ.1 112 11))) = (24 : Int32)) → (¬ (μ.1 115 (Int32.toNatClampNeg (μ.1 112 11))) = (25 : Int32)) → (¬ (μ.1 115 (Int32.toNatClampNeg (μ.1 112 11))) = (26 : Int32)) → (¬ (μ.1 115 (Int32.toNatClampNeg (μ.1 112 11))) = (27 : Int32)) → (¬ (μ.1 115 (Int32.toNatClampNeg (μ.1 112 11))) = (28 : Int32)) → (¬ (μ.1 115 (Int32.toNatClampNeg (μ.1 112 11))) = (29 : Int32)) → ((μ.1 115 (Int32.toNatClampNeg (μ.1 112 11))) = (30 : Int32)) → ∀ μ', ψ20 μ' → J l mX12_tellOne (jZ0 6 G (pV φ)) G 0 0 265 [.ref 112, .null] [] μ') 
    (k21 : (¬ (μ.1 115 (Int32.toNatClampNeg (μ.1 112 11))) = (20 : Int32)) → (¬ (μ.1 115 (Int32.toNatClampNeg (μ.1 112 11))) = (21 : Int32)) → (¬ (μ.1 115 (Int32.toNatClampNeg (μ.1 112 11))) = (22 : Int32)) → (¬ (μ.1 115 (Int32.toNatClampNeg (μ.1 112 11))) = (23 : Int32)) → (¬ (μ.1 115 (Int32.toNatClampNeg (μ.1 112 11))) = (24 : Int32)) → (¬ (μ.1 115 (Int32.toNatClampNeg (μ.1 112 11))) = (25 : Int32)) → (¬ (μ.1 115 (Int32.toNatClampNeg (μ.1 112 11))) = (26 : Int32)) → (¬ (μ.1 115 (Int32.toNatClampNeg (μ.1 112 11))) = (27 : Int32)) → (¬ (μ.1 115 (Int32.toNatClampNeg (μ.1 112 11))) = (28 : Int32)) → (¬ (μ.1 115 (Int32.toNatClampNeg (μ.1 112 11))) = (29 : Int32)) → (¬ (μ.1 115 (Int32.toNatClampNeg (μ.1 112 11))) = (30 : Int32)) → (((μ.1 115 (Int32.toNatClampNeg (μ.1 112 11))) - 25) < (0 : Int32)) → J l mX12_tellOne (jZ0 6 G (pV φ)) G 0 0 321 [.ref 112, .int ((μ.1 115 (Int32.toNatClampNeg (μ.1 112 11))) - 25)] [] μ) 
    (k22 : (¬ (μ.1 115 (Int32.toNatClampNeg (μ.1 112 11))) = (20 : Int32)) → (¬ (μ.1 115 (Int32.toNatClampNeg (μ.1 112 11))) = (21 : Int32)) → (¬ (μ.1 115 (Int32.toNatClampNeg (μ.1 112 11))) = (22 : Int32)) → (¬ (μ.1 115 (Int32.toNatClampNeg (μ.1 112 11))) = (23 : Int32)) → (¬ (μ.1 115 (Int32.toNatClampNeg (μ.1 112 11))) = (24 : Int32)) → (¬ (μ.1 115 (Int32.toNatClampNeg (μ.1 112 11))) = (25 : Int32)) → (¬ (μ.1 115 (Int32.toNatClampNeg (μ.1 112 11))) = (26 : Int32)) → (¬ (μ.1 115 (Int32.toNatClampNeg (μ.1 112 11))) = (27 : Int32)) → (¬ (μ.1 115 (Int32.toNatClampNeg (μ.1 112 11))) = (28 : Int32)) → (¬ (μ.1 115 (Int32.toNatClampNeg (μ.1 112 11))) = (29 : Int32)) → (¬ (μ.1 115 (Int32.toNatClampNeg (μ.1 112 11))) = (30 : Int32)) → (¬ (((μ.1 115 (Int32.toNatClampNeg (μ.1 112 11))) - 25) < (0 : Int32))) → ((μ.1 115 (Int32.toNatClampNeg (μ.1 112 11))) ≤ (27 : Int32)) → J l mX12_tellOne (jZ0 6 G (pV φ)) G 0 0 326 [.ref 112, .int ((μ.1 115 (Int32.toNatClampNeg (μ.1 112 11))) - 25)] [] μ) 
    (k23 : (¬ (μ.1 115 (Int32.toNatClampNeg (μ.1 112 11))) = (20 : Int32)) → (¬ (μ.1 115 (Int32.toNatClampNeg (μ.1 112 11))) = (21 : Int32)) → (¬ (μ.1 115 (Int32.toNatClampNeg (μ.1 112 11))) = (22 : Int32)) → (¬ (μ.1 115 (Int32.toNatClampNeg (μ.1 112 11))) = (23 : Int32)) → (¬ (μ.1 115 (Int32.toNatClampNeg (μ.1 112 11))) = (24 : Int32)) → (¬ (μ.1 115 (Int32.toNatClampNeg (μ.1 112 11))) = (25 : Int32)) → (¬ (μ.1 115 (Int32.toNatClampNeg (μ.1 112 11))) = (26 : Int32)) → (¬ (μ.1 115 (Int32.toNatClampNeg (μ.1 112 11))) = (27 : Int32)) → (¬ (μ.1 115 (Int32.toNatClampNeg (μ.1 112 11))) = (28 : Int32)) → (¬ (μ.1 115 (Int32.toNatClampNeg (μ.1 112 11))) = (29 : Int32)) → (¬ (μ.1 115 (Int32.toNatClampNeg (μ.1 112 11))) = (30 : Int32)) → (¬ (((μ.1 115 (Int32.toNatClampNeg (μ.1 112 11))) - 25) < (0 : Int32))) → (¬ ((μ.1 115 (Int32.toNatClampNeg (μ.1 112 11))) ≤ (27 : Int32))) → J l mX12_tellOne (jZ0 6 G (pV φ)) G 0 0 321 [.ref 112, .int ((μ.1 115 (Int32.toNatClampNeg (μ.1 112 11))) - 25)] [] μ) :
    J l mX12_tellOne (jZ0 6 G (pV φ)) G 0 0 0 [.ref 112, .null] [] μ := by
  refine j_aload_n dX12_tellOne_0 rfl rfl ?_
  refine j_getR (ci := 12) (N := 80) (f := 5) (T := TX12) 115 dX12_tellOne_1 rfl (hG 112 (17, 80) rfl) rfl (by decide) fl_X12_20 rfl (hP 112 5 115 rfl) ?_
  refine j_aload_n dX12_tellOne_4 rfl rfl ?_
  refine j_getI (ci := 12) (N := 80) (f := 11) (T := TX12) dX12_tellOne_5 rfl (hG 112 (17, 80) rfl) rfl (by decide) fl_X12_236 rfl ?_
  refine j_iald' (j := (Int32.toNatClampNeg (μ.1 112 11))) dX12_tellOne_8 rfl (hG 115 (0, 403) rfl) o0 rfl ?_
  by_cases c0 : (μ.1 115 (Int32.toNatClampNeg (μ.1 112 11))) = (20 : Int32)
  · skip
    refine j_tableIn (off := 59) 68 dX12_tellOne_9 (sw_1 c0 (by decide)) (sw_2 c0 (by decide)) (sw_3 c0 (by decide)) (by decide) ?_
    refine j_aload_n dX12_tellOne_68 rfl rfl ?_
    refine j_aload_n dX12_tellOne_69 rfl rfl ?_
    refine j_getR (ci := 12) (N := 80) (f := 23) (T := TX12) 122 dX12_tellOne_70 rfl (hG 112 (17, 80) rfl) rfl (by decide) fl_X12_46 rfl (hP 112 23 122 rfl) ?_
    refine j_aload_n dX12_tellOne_73 rfl rfl ?_
    refine j_getI (ci := 12) (N := 80) (f := 19) (T := TX12) dX12_tellOne_74 rfl (hG 112 (17, 80) rfl) rfl (by decide) fl_X12_266 rfl ?_
    refine j_iald' (j := (Int32.toNatClampNeg (μ.1 112 19))) dX12_tellOne_77 rfl (hG 122 (0, 2) rfl) (o1 c0) rfl ?_
    refine j_bipush 8 dX12_tellOne_78 rfl (by decide) ?_
    refine j_cV (as := [.int (μ.1 122 (Int32.toNatClampNeg (μ.1 112 19))), .int 8]) (rest := []) dX12_tellOne_80 rfl vw_X12_287 (hG 112 (17, 80) rfl) rfl ⟨Nat.le_of_ble_eq_true rfl, Nat.le_of_ble_eq_true rfl⟩ rfl rfl (fun _ _ => Nat.le_of_ble_eq_true rfl) (e0 c0) (fun r μ' hr => ?_)
    obtain ⟨rfl, hr⟩ := hr
    exact k0 c0 μ' hr
  by_cases c1 : (μ.1 115 (Int32.toNatClampNeg (μ.1 112 11))) = (21 : Int32)
  · skip
    refine j_tableIn (off := 122) 131 dX12_tellOne_9 (sw_1 c1 (by decide)) (sw_2 c1 (by decide)) (sw_3 c1 (by decide)) (by decide) ?_
    refine j_aload_n dX12_tellOne_131 rfl rfl ?_
    refine j_aload_n dX12_tellOne_132 rfl rfl ?_
    refine j_getR (ci := 12) (N := 80) (f := 24) (T := TX12) 123 dX12_tellOne_133 rfl (hG 112 (17, 80) rfl) rfl (by decide) fl_X12_49 rfl (hP 112 24 123 rfl) ?_
    refine j_aload_n dX12_tellOne_136 rfl rfl ?_
    refine j_getI (ci := 12) (N := 80) (f := 19) (T := TX12) dX12_tellOne_137 rfl (hG 112 (17, 80) rfl) rfl (by decide) fl_X12_266 rfl ?_
    refine j_iald' (j := (Int32.toNatClampNeg (μ.1 112 19))) dX12_tellOne_140 rfl (hG 123 (0, 2) rfl) (o2 c0 c1) rfl ?_
    refine j_bipush 12 dX12_tellOne_141 rfl (by decide) ?_
    refine j_cV (as := [.int (μ.1 123 (Int32.toNatClampNeg (μ.1 112 19))), .int 12]) (rest := []) dX12_tellOne_143 rfl vw_X12_287 (hG 112 (17, 80) rfl) rfl ⟨Nat.le_of_ble_eq_true rfl, Nat.le_of_ble_eq_true rfl⟩ rfl rfl (fun _ _ => Nat.le_of_ble_eq_true rfl) (e1 c0 c1) (fun r μ' hr => ?_)
    obtain ⟨rfl, hr⟩ := hr
    exact k1 c0 c1 μ' hr
  by_cases c2 : (μ.1 115 (Int32.toNatClampNeg (μ.1 112 11))) = (22 : Int32)
  · skip
    refine j_tableIn (off := 281) 290 dX12_tellOne_9 (sw_1 c2 (by decide)) (sw_2 c2 (by decide)) (sw_3 c2 (by decide)) (by decide) ?_
    refine j_aload_n dX12_tellOne_290 rfl rfl ?_
    refine j_getR (ci := 12) (N := 80) (f := 5) (T := TX12) 115 dX12_tellOne_291 rfl (hG 112 (17, 80) rfl) rfl (by decide) fl_X12_20 rfl (hP 112 5 115 rfl) ?_
    refine j_aload_n dX12_tellOne_294 rfl rfl ?_
    refine j_getI (ci := 12) (N := 80) (f := 11) (T := TX12) dX12_tellOne_295 rfl (hG 112 (17, 80) rfl) rfl (by decide) fl_X12_236 rfl ?_
    refine j_iald' (j := (Int32.toNatClampNeg (μ.1 112 11))) dX12_tellOne_298 rfl (hG 115 (0, 403) rfl) o0 rfl ?_
    refine j_bipush 25 dX12_tellOne_299 rfl (by decide) ?_
    refine j_isub dX12_tellOne_301 rfl ?_
    refine j_istore_n (ls' := [.ref 112, .int ((μ.1 115 (Int32.toNatClampNeg (μ.1 112 11))) - 25)]) dX12_tellOne_302 rfl rfl (Nat.le_of_ble_eq_true rfl) rfl ?_
    refine j_iload_n dX12_tellOne_303 rfl rfl ?_
    refine j_if_lt 321 dX12_tellOne_304 rfl (by decide) (fun c3 => ?_) (fun c3 => ?_)
    · skip
      exact k2 c0 c1 c2 c3
    · skip
      refine j_aload_n dX12_tellOne_307 rfl rfl ?_
      refine j_getR (ci := 12) (N := 80) (f := 5) (T := TX12) 115 dX12_tellOne_308 rfl (hG 112 (17, 80) rfl) rfl (by decide) fl_X12_20 rfl (hP 112 5 115 rfl) ?_
      refine j_aload_n dX12_tellOne_311 rfl rfl ?_
      refine j_getI (ci := 12) (N := 80) (f := 11) (T := TX12) dX12_tellOne_312 rfl (hG 112 (17, 80) rfl) rfl (by decide) fl_X12_236 rfl ?_
      refine j_iald' (j := (Int32.toNatClampNeg (μ.1 112 11))) dX12_tellOne_315 rfl (hG 115 (0, 403) rfl) o0 rfl ?_
      refine j_bipush 27 dX12_tellOne_316 rfl (by decide) ?_
      refine j_icmp_le 326 dX12_tellOne_318 rfl (by decide) (fun c4 => ?_) (fun c4 => ?_)
      · skip
        exact k3 c0 c1 c2 c3 c4
      · skip
        exact k4 c0 c1 c2 c3 c4
  by_cases c5 : (μ.1 115 (Int32.toNatClampNeg (μ.1 112 11))) = (23 : Int32)
  · skip
    refine j_tableIn (off := 281) 290 dX12_tellOne_9 (sw_1 c5 (by decide)) (sw_2 c5 (by decide)) (sw_3 c5 (by decide)) (by decide) ?_
    refine j_aload_n dX12_tellOne_290 rfl rfl ?_
    refine j_getR (ci := 12) (N := 80) (f := 5) (T := TX12) 115 dX12_tellOne_291 rfl (hG 112 (17, 80) rfl) rfl (by decide) fl_X12_20 rfl (hP 112 5 115 rfl) ?_
    refine j_aload_n dX12_tellOne_294 rfl rfl ?_
    refine j_getI (ci := 12) (N := 80) (f := 11) (T := TX12) dX12_tellOne_295 rfl (hG 112 (17, 80) rfl) rfl (by decide) fl_X12_236 rfl ?_
    refine j_iald' (j := (Int32.toNatClampNeg (μ.1 112 11))) dX12_tellOne_298 rfl (hG 115 (0, 403) rfl) o0 rfl ?_
    refine j_bipush 25 dX12_tellOne_299 rfl (by decide) ?_
    refine j_isub dX12_tellOne_301 rfl ?_
    refine j_istore_n (ls' := [.ref 112, .int ((μ.1 115 (Int32.toNatClampNeg (μ.1 112 11))) - 25)]) dX12_tellOne_302 rfl rfl (Nat.le_of_ble_eq_true rfl) rfl ?_
    refine j_iload_n dX12_tellOne_303 rfl rfl ?_
    refine j_if_lt 321 dX12_tellOne_304 rfl (by decide) (fun c6 => ?_) (fun c6 => ?_)
    · skip
      exact k5 c0 c1 c2 c5 c6
    · skip
      refine j_aload_n dX12_tellOne_307 rfl rfl ?_
      refine j_getR (ci := 12) (N := 80) (f := 5) (T := TX12) 115 dX12_tellOne_308 rfl (hG 112 (17, 80) rfl) rfl (by decide) fl_X12_20 rfl (hP 112 5 115 rfl) ?_
      refine j_aload_n dX12_tellOne_311 rfl rfl ?_
      refine j_getI (ci := 12) (N := 80) (f := 11) (T := TX12) dX12_tellOne_312 rfl (hG 112 (17, 80) rfl) rfl (by decide) fl_X12_236 rfl ?_
      refine j_iald' (j := (Int32.toNatClampNeg (μ.1 112 11))) dX12_tellOne_315 rfl (hG 115 (0, 403) rfl) o0 rfl ?_
      refine j_bipush 27 dX12_tellOne_316 rfl (by decide) ?_
      refine j_icmp_le 326 dX12_tellOne_318 rfl (by decide) (fun c7 => ?_) (fun c7 => ?_)
      · skip
        exact k6 c0 c1 c2 c5 c6 c7
      · skip
        exact k7 c0 c1 c2 c5 c6 c7
  by_cases c8 : (μ.1 115 (Int32.toNatClampNeg (μ.1 112 11))) = (24 : Int32)
  · skip
    refine j_tableIn (off := 151) 160 dX12_tellOne_9 (sw_1 c8 (by decide)) (sw_2 c8 (by decide)) (sw_3 c8 (by decide)) (by decide) ?_
    refine j_aload_n dX12_tellOne_160 rfl rfl ?_
    refine j_aload_n dX12_tellOne_161 rfl rfl ?_
    refine j_getR (ci := 12) (N := 80) (f := 30) (T := TX12) 129 dX12_tellOne_162 rfl (hG 112 (17, 80) rfl) rfl (by decide) fl_X12_68 rfl (hP 112 30 129 rfl) ?_
    refine j_aload_n dX12_tellOne_165 rfl rfl ?_
    refine j_getI (ci := 12) (N := 80) (f := 19) (T := TX12) dX12_tellOne_166 rfl (hG 112 (17, 80) rfl) rfl (by decide) fl_X12_266 rfl ?_
    refine j_iald' (j := (Int32.toNatClampNeg (μ.1 112 19))) dX12_tellOne_169 rfl (hG 129 (0, 2) rfl) (o3 c0 c1 c2 c5 c8) rfl ?_
    refine j_bipush 7 dX12_tellOne_170 rfl (by decide) ?_
    refine j_cV (as := [.int (μ.1 129 (Int32.toNatClampNeg (μ.1 112 19))), .int 7]) (rest := []) dX12_tellOne_172 rfl vw_X12_287 (hG 112 (17, 80) rfl) rfl ⟨Nat.le_of_ble_eq_true rfl, Nat.le_of_ble_eq_true rfl⟩ rfl rfl (fun _ _ => Nat.le_of_ble_eq_true rfl) (e8 c0 c1 c2 c5 c8) (fun r μ' hr => ?_)
    obtain ⟨rfl, hr⟩ := hr
    exact k8 c0 c1 c2 c5 c8 μ' hr
  by_cases c9 : (μ.1 115 (Int32.toNatClampNeg (μ.1 112 11))) = (25 : Int32)
  · skip
    refine j_tableIn (off := 281) 290 dX12_tellOne_9 (sw_1 c9 (by decide)) (sw_2 c9 (by decide)) (sw_3 c9 (by decide)) (by decide) ?_
    refine j_aload_n dX12_tellOne_290 rfl rfl ?_
    refine j_getR (ci := 12) (N := 80) (f := 5) (T := TX12) 115 dX12_tellOne_291 rfl (hG 112 (17, 80) rfl) rfl (by decide) fl_X12_20 rfl (hP 112 5 115 rfl) ?_
    refine j_aload_n dX12_tellOne_294 rfl rfl ?_
    refine j_getI (ci := 12) (N := 80) (f := 11) (T := TX12) dX12_tellOne_295 rfl (hG 112 (17, 80) rfl) rfl (by decide) fl_X12_236 rfl ?_
    refine j_iald' (j := (Int32.toNatClampNeg (μ.1 112 11))) dX12_tellOne_298 rfl (hG 115 (0, 403) rfl) o0 rfl ?_
    refine j_bipush 25 dX12_tellOne_299 rfl (by decide) ?_
    refine j_isub dX12_tellOne_301 rfl ?_
    refine j_istore_n (ls' := [.ref 112, .int ((μ.1 115 (Int32.toNatClampNeg (μ.1 112 11))) - 25)]) dX12_tellOne_302 rfl rfl (Nat.le_of_ble_eq_true rfl) rfl ?_
    refine j_iload_n dX12_tellOne_303 rfl rfl ?_
    refine j_if_lt 321 dX12_tellOne_304 rfl (by decide) (fun c10 => ?_) (fun c10 => ?_)
    · skip
      exact k9 c0 c1 c2 c5 c8 c9 c10
    · skip
      refine j_aload_n dX12_tellOne_307 rfl rfl ?_
      refine j_getR (ci := 12) (N := 80) (f := 5) (T := TX12) 115 dX12_tellOne_308 rfl (hG 112 (17, 80) rfl) rfl (by decide) fl_X12_20 rfl (hP 112 5 115 rfl) ?_
      refine j_aload_n dX12_tellOne_311 rfl rfl ?_
      refine j_getI (ci := 12) (N := 80) (f := 11) (T := TX12) dX12_tellOne_312 rfl (hG 112 (17, 80) rfl) rfl (by decide) fl_X12_236 rfl ?_
      refine j_iald' (j := (Int32.toNatClampNeg (μ.1 112 11))) dX12_tellOne_315 rfl (hG 115 (0, 403) rfl) o0 rfl ?_
      refine j_bipush 27 dX12_tellOne_316 rfl (by decide) ?_
      refine j_icmp_le 326 dX12_tellOne_318 rfl (by decide) (fun c11 => ?_) (fun c11 => ?_)
      · skip
        exact k10 c0 c1 c2 c5 c8 c9 c10 c11
      · skip
        exact k11 c0 c1 c2 c5 c8 c9 c10 c11
  by_cases c12 : (μ.1 115 (Int32.toNatClampNeg (μ.1 112 11))) = (26 : Int32)
  · skip
    refine j_tableIn (off := 281) 290 dX12_tellOne_9 (sw_1 c12 (by decide)) (sw_2 c12 (by decide)) (sw_3 c12 (by decide)) (by decide) ?_
    refine j_aload_n dX12_tellOne_290 rfl rfl ?_
    refine j_getR (ci := 12) (N := 80) (f := 5) (T := TX12) 115 dX12_tellOne_291 rfl (hG 112 (17, 80) rfl) rfl (by decide) fl_X12_20 rfl (hP 112 5 115 rfl) ?_
    refine j_aload_n dX12_tellOne_294 rfl rfl ?_
    refine j_getI (ci := 12) (N := 80) (f := 11) (T := TX12) dX12_tellOne_295 rfl (hG 112 (17, 80) rfl) rfl (by decide) fl_X12_236 rfl ?_
    refine j_iald' (j := (Int32.toNatClampNeg (μ.1 112 11))) dX12_tellOne_298 rfl (hG 115 (0, 403) rfl) o0 rfl ?_
    refine j_bipush 25 dX12_tellOne_299 rfl (by decide) ?_
    refine j_isub dX12_tellOne_301 rfl ?_
    refine j_istore_n (ls' := [.ref 112, .int ((μ.1 115 (Int32.toNatClampNeg (μ.1 112 11))) - 25)]) dX12_tellOne_302 rfl rfl (Nat.le_of_ble_eq_true rfl) rfl ?_
    refine j_iload_n dX12_tellOne_303 rfl rfl ?_
    refine j_if_lt 321 dX12_tellOne_304 rfl (by decide) (fun c13 => ?_) (fun c13 => ?_)
    · skip
      exact k12 c0 c1 c2 c5 c8 c9 c12 c13
    · skip
      refine j_aload_n dX12_tellOne_307 rfl rfl ?_
      refine j_getR (ci := 12) (N := 80) (f := 5) (T := TX12) 115 dX12_tellOne_308 rfl (hG 112 (17, 80) rfl) rfl (by decide) fl_X12_20 rfl (hP 112 5 115 rfl) ?_
      refine j_aload_n dX12_tellOne_311 rfl rfl ?_
      refine j_getI (ci := 12) (N := 80) (f := 11) (T := TX12) dX12_tellOne_312 rfl (hG 112 (17, 80) rfl) rfl (by decide) fl_X12_236 rfl ?_
      refine j_iald' (j := (Int32.toNatClampNeg (μ.1 112 11))) dX12_tellOne_315 rfl (hG 115 (0, 403) rfl) o0 rfl ?_
      refine j_bipush 27 dX12_tellOne_316 rfl (by decide) ?_
      refine j_icmp_le 326 dX12_tellOne_318 rfl (by decide) (fun c14 => ?_) (fun c14 => ?_)
      · skip
        exact k13 c0 c1 c2 c5 c8 c9 c12 c13 c14
      · skip
        exact k14 c0 c1 c2 c5 c8 c9 c12 c13 c14
  by_cases c15 : (μ.1 115 (Int32.toNatClampNeg (μ.1 112 11))) = (27 : Int32)
  · skip
    refine j_tableIn (off := 281) 290 dX12_tellOne_9 (sw_1 c15 (by decide)) (sw_2 c15 (by decide)) (sw_3 c15 (by decide)) (by decide) ?_
    refine j_aload_n dX12_tellOne_290 rfl rfl ?_
    refine j_getR (ci := 12) (N := 80) (f := 5) (T := TX12) 115 dX12_tellOne_291 rfl (hG 112 (17, 80) rfl) rfl (by decide) fl_X12_20 rfl (hP 112 5 115 rfl) ?_
    refine j_aload_n dX12_tellOne_294 rfl rfl ?_
    refine j_getI (ci := 12) (N := 80) (f := 11) (T := TX12) dX12_tellOne_295 rfl (hG 112 (17, 80) rfl) rfl (by decide) fl_X12_236 rfl ?_
    refine j_iald' (j := (Int32.toNatClampNeg (μ.1 112 11))) dX12_tellOne_298 rfl (hG 115 (0, 403) rfl) o0 rfl ?_
    refine j_bipush 25 dX12_tellOne_299 rfl (by decide) ?_
    refine j_isub dX12_tellOne_301 rfl ?_
    refine j_istore_n (ls' := [.ref 112, .int ((μ.1 115 (Int32.toNatClampNeg (μ.1 112 11))) - 25)]) dX12_tellOne_302 rfl rfl (Nat.le_of_ble_eq_true rfl) rfl ?_
    refine j_iload_n dX12_tellOne_303 rfl rfl ?_
    refine j_if_lt 321 dX12_tellOne_304 rfl (by decide) (fun c16 => ?_) (fun c16 => ?_)
    · skip
      exact k15 c0 c1 c2 c5 c8 c9 c12 c15 c16
    · skip
      refine j_aload_n dX12_tellOne_307 rfl rfl ?_
      refine j_getR (ci := 12) (N := 80) (f := 5) (T := TX12) 115 dX12_tellOne_308 rfl (hG 112 (17, 80) rfl) rfl (by decide) fl_X12_20 rfl (hP 112 5 115 rfl) ?_
      refine j_aload_n dX12_tellOne_311 rfl rfl ?_
      refine j_getI (ci := 12) (N := 80) (f := 11) (T := TX12) dX12_tellOne_312 rfl (hG 112 (17, 80) rfl) rfl (by decide) fl_X12_236 rfl ?_
      refine j_iald' (j := (Int32.toNatClampNeg (μ.1 112 11))) dX12_tellOne_315 rfl (hG 115 (0, 403) rfl) o0 rfl ?_
      refine j_bipush 27 dX12_tellOne_316 rfl (by decide) ?_
      refine j_icmp_le 326 dX12_tellOne_318 rfl (by decide) (fun c17 => ?_) (fun c17 => ?_)
      · skip
        exact k16 c0 c1 c2 c5 c8 c9 c12 c15 c16 c17
      · skip
        exact k17 c0 c1 c2 c5 c8 c9 c12 c15 c16 c17
  by_cases c18 : (μ.1 115 (Int32.toNatClampNeg (μ.1 112 11))) = (28 : Int32)
  · skip
    refine j_tableIn (off := 180) 189 dX12_tellOne_9 (sw_1 c18 (by decide)) (sw_2 c18 (by decide)) (sw_3 c18 (by decide)) (by decide) ?_
    refine j_aload_n dX12_tellOne_189 rfl rfl ?_
    refine j_cV (as := []) (rest := []) dX12_tellOne_190 rfl vw_X12_254 (hG 112 (17, 80) rfl) rfl ⟨Nat.le_of_ble_eq_true rfl, Nat.le_of_ble_eq_true rfl⟩ rfl rfl (fun _ _ => Nat.le_of_ble_eq_true rfl) (e18 c0 c1 c2 c5 c8 c9 c12 c15 c18) (fun r μ' hr => ?_)
    obtain ⟨rfl, hr⟩ := hr
    exact k18 c0 c1 c2 c5 c8 c9 c12 c15 c18 μ' hr
  by_cases c19 : (μ.1 115 (Int32.toNatClampNeg (μ.1 112 11))) = (29 : Int32)
  · skip
    refine j_tableIn (off := 208) 217 dX12_tellOne_9 (sw_1 c19 (by decide)) (sw_2 c19 (by decide)) (sw_3 c19 (by decide)) (by decide) ?_
    refine j_aload_n dX12_tellOne_217 rfl rfl ?_
    refine j_cV (as := []) (rest := []) dX12_tellOne_218 rfl vw_X12_254 (hG 112 (17, 80) rfl) rfl ⟨Nat.le_of_ble_eq_true rfl, Nat.le_of_ble_eq_true rfl⟩ rfl rfl (fun _ _ => Nat.le_of_ble_eq_true rfl) (e19 c0 c1 c2 c5 c8 c9 c12 c15 c18 c19) (fun r μ' hr => ?_)
    obtain ⟨rfl, hr⟩ := hr
    exact k19 c0 c1 c2 c5 c8 c9 c12 c15 c18 c19 μ' hr
  by_cases c20 : (μ.1 115 (Int32.toNatClampNeg (μ.1 112 11))) = (30 : Int32)
  · skip
    refine j_tableIn (off := 252) 261 dX12_tellOne_9 (sw_1 c20 (by decide)) (sw_2 c20 (by decide)) (sw_3 c20 (by decide)) (by decide) ?_
    refine j_aload_n dX12_tellOne_261 rfl rfl ?_
    refine j_cV (as := []) (rest := []) dX12_tellOne_262 rfl vw_X12_254 (hG 112 (17, 80) rfl) rfl ⟨Nat.le_of_ble_eq_true rfl, Nat.le_of_ble_eq_true rfl⟩ rfl rfl (fun _ _ => Nat.le_of_ble_eq_true rfl) (e20 c0 c1 c2 c5 c8 c9 c12 c15 c18 c19 c20) (fun r μ' hr => ?_)
    obtain ⟨rfl, hr⟩ := hr
    exact k20 c0 c1 c2 c5 c8 c9 c12 c15 c18 c19 c20 μ' hr
  refine j_tableOut 290 dX12_tellOne_9 (sw_o [20, 21, 22, 23, 24, 25, 26, 27, 28, 29, 30] (by decide) ⟨c0, c1, c2, c5, c8, c9, c12, c15, c18, c19, c20, trivial⟩) (by decide) ?_
  refine j_aload_n dX12_tellOne_290 rfl rfl ?_
  refine j_getR (ci := 12) (N := 80) (f := 5) (T := TX12) 115 dX12_tellOne_291 rfl (hG 112 (17, 80) rfl) rfl (by decide) fl_X12_20 rfl (hP 112 5 115 rfl) ?_
  refine j_aload_n dX12_tellOne_294 rfl rfl ?_
  refine j_getI (ci := 12) (N := 80) (f := 11) (T := TX12) dX12_tellOne_295 rfl (hG 112 (17, 80) rfl) rfl (by decide) fl_X12_236 rfl ?_
  refine j_iald' (j := (Int32.toNatClampNeg (μ.1 112 11))) dX12_tellOne_298 rfl (hG 115 (0, 403) rfl) o0 rfl ?_
  refine j_bipush 25 dX12_tellOne_299 rfl (by decide) ?_
  refine j_isub dX12_tellOne_301 rfl ?_
  refine j_istore_n (ls' := [.ref 112, .int ((μ.1 115 (Int32.toNatClampNeg (μ.1 112 11))) - 25)]) dX12_tellOne_302 rfl rfl (Nat.le_of_ble_eq_true rfl) rfl ?_
  refine j_iload_n dX12_tellOne_303 rfl rfl ?_
  refine j_if_lt 321 dX12_tellOne_304 rfl (by decide) (fun c21 => ?_) (fun c21 => ?_)
  · skip
    exact k21 c0 c1 c2 c5 c8 c9 c12 c15 c18 c19 c20 c21
  · skip
    refine j_aload_n dX12_tellOne_307 rfl rfl ?_
    refine j_getR (ci := 12) (N := 80) (f := 5) (T := TX12) 115 dX12_tellOne_308 rfl (hG 112 (17, 80) rfl) rfl (by decide) fl_X12_20 rfl (hP 112 5 115 rfl) ?_
    refine j_aload_n dX12_tellOne_311 rfl rfl ?_
    refine j_getI (ci := 12) (N := 80) (f := 11) (T := TX12) dX12_tellOne_312 rfl (hG 112 (17, 80) rfl) rfl (by decide) fl_X12_236 rfl ?_
    refine j_iald' (j := (Int32.toNatClampNeg (μ.1 112 11))) dX12_tellOne_315 rfl (hG 115 (0, 403) rfl) o0 rfl ?_
    refine j_bipush 27 dX12_tellOne_316 rfl (by decide) ?_
    refine j_icmp_le 326 dX12_tellOne_318 rfl (by decide) (fun c22 => ?_) (fun c22 => ?_)
    · skip
      exact k22 c0 c1 c2 c5 c8 c9 c12 c15 c18 c19 c20 c21 c22
    · skip
      exact k23 c0 c1 c2 c5 c8 c9 c12 c15 c18 c19 c20 c21 c22
theorem b_X12_tellOne_83 {l : Launch} {G : jG} {μ : jM} {φ : jM → Prop} {ψ0 : Int32 → jM → Prop} (hG : gMM G) (hP : gNN μ) 
    (e0 : ((μ.1 112 13) ≤ (0 : Int32)) → jC0 l mX12_named 3 G [.ref 112] μ (pI ψ0)) 
    (k0 : ((μ.1 112 13) ≤ (0 : Int32)) → ∀ v μ', ψ0 v μ' → J l mX12_tellOne (jZ0 6 G (pV φ)) G 0 0 96 [.ref 112, .null] [.int v, .ref 112] μ') 
    (k1 : (¬ ((μ.1 112 13) ≤ (0 : Int32))) → φ μ) :
    J l mX12_tellOne (jZ0 6 G (pV φ)) G 0 0 83 [.ref 112, .null] [] μ := by
  refine j_aload_n dX12_tellOne_83 rfl rfl ?_
  refine j_getI (ci := 12) (N := 80) (f := 13) (T := TX12) dX12_tellOne_84 rfl (hG 112 (17, 80) rfl) rfl (by decide) fl_X12_233 rfl ?_
  refine j_if_le 91 dX12_tellOne_87 rfl (by decide) (fun c0 => ?_) (fun c0 => ?_)
  · skip
    refine j_aload_n dX12_tellOne_91 rfl rfl ?_
    refine j_aload_n dX12_tellOne_92 rfl rfl ?_
    refine j_cV (as := []) (rest := [.ref 112]) dX12_tellOne_93 rfl vw_X12_291 (hG 112 (17, 80) rfl) rfl ⟨Nat.le_of_ble_eq_true rfl, Nat.le_of_ble_eq_true rfl⟩ rfl rfl (fun _ _ => Nat.le_of_ble_eq_true rfl) (e0 c0) (fun r μ' hr => ?_)
    obtain ⟨v, rfl, hr⟩ := hr
    exact k0 c0 v μ' hr
  · skip
    exact j_vret dX12_tellOne_90 rfl (k1 c0)
theorem b_X12_tellOne_96 {l : Launch} {G : jG} {μ : jM} {φ : jM → Prop} {z0 : Int32} {ψ0 : jM → Prop} (hG : gMM G) (hP : gNN μ) 
    (o0 : vp_in (μ.1 112 19) 2) 
    (e0 : jC0 l mX12_ends 3 G [.ref 112, .int z0, .int (μ.1 122 (Int32.toNatClampNeg (μ.1 112 19)))] μ (pV ψ0)) 
    (k0 : ∀ μ', ψ0 μ' → J l mX12_tellOne (jZ0 6 G (pV φ)) G 0 0 108 [.ref 112, .null] [] μ') :
    J l mX12_tellOne (jZ0 6 G (pV φ)) G 0 0 96 [.ref 112, .null] [.int z0, .ref 112] μ := by
  refine j_aload_n dX12_tellOne_96 rfl rfl ?_
  refine j_getR (ci := 12) (N := 80) (f := 23) (T := TX12) 122 dX12_tellOne_97 rfl (hG 112 (17, 80) rfl) rfl (by decide) fl_X12_46 rfl (hP 112 23 122 rfl) ?_
  refine j_aload_n dX12_tellOne_100 rfl rfl ?_
  refine j_getI (ci := 12) (N := 80) (f := 19) (T := TX12) dX12_tellOne_101 rfl (hG 112 (17, 80) rfl) rfl (by decide) fl_X12_266 rfl ?_
  refine j_iald' (j := (Int32.toNatClampNeg (μ.1 112 19))) dX12_tellOne_104 rfl (hG 122 (0, 2) rfl) o0 rfl ?_
  refine j_cV (as := [.int z0, .int (μ.1 122 (Int32.toNatClampNeg (μ.1 112 19)))]) (rest := []) dX12_tellOne_105 rfl vw_X12_295 (hG 112 (17, 80) rfl) rfl ⟨Nat.le_of_ble_eq_true rfl, Nat.le_of_ble_eq_true rfl⟩ rfl rfl (fun _ _ => Nat.le_of_ble_eq_true rfl) (e0 ) (fun r μ' hr => ?_)
  obtain ⟨rfl, hr⟩ := hr
  exact k0  μ' hr
theorem b_X12_tellOne_108 {l : Launch} {G : jG} {μ : jM} {φ : jM → Prop} (hG : gMM G) (hP : gNN μ) 
    (k0 : (¬ (μ.1 112 13) = (0 : Int32)) → J l mX12_tellOne (jZ0 6 G (pV φ)) G 0 0 343 [.null, .null] [] μ) 
    (o0 : ((μ.1 112 13) = (0 : Int32)) → vp_in (μ.1 112 19) 2) 
    (k1 : ((μ.1 112 13) = (0 : Int32)) → J l mX12_tellOne (jZ0 6 G (pV φ)) G 0 0 343 [.null, .null] [] (wI μ 122 (Int32.toNatClampNeg (μ.1 112 19)) ((μ.1 122 (Int32.toNatClampNeg (μ.1 112 19))) + 1))) :
    J l mX12_tellOne (jZ0 6 G (pV φ)) G 0 0 108 [.ref 112, .null] [] μ := by
  refine j_aload_n dX12_tellOne_108 rfl rfl ?_
  refine j_getI (ci := 12) (N := 80) (f := 13) (T := TX12) dX12_tellOne_109 rfl (hG 112 (17, 80) rfl) rfl (by decide) fl_X12_233 rfl ?_
  refine j_if_ne 343 dX12_tellOne_112 rfl (by decide) (fun c0 => ?_) (fun c0 => ?_)
  · skip
    refine j_forget (ls' := [.null, .null]) ⟨Or.inl rfl, Or.inr rfl, trivial⟩ ?_
    exact k0 c0
  · skip
    refine j_aload_n dX12_tellOne_115 rfl rfl ?_
    refine j_getR (ci := 12) (N := 80) (f := 23) (T := TX12) 122 dX12_tellOne_116 rfl (hG 112 (17, 80) rfl) rfl (by decide) fl_X12_46 rfl (hP 112 23 122 rfl) ?_
    refine j_aload_n dX12_tellOne_119 rfl rfl ?_
    refine j_getI (ci := 12) (N := 80) (f := 19) (T := TX12) dX12_tellOne_120 rfl (hG 112 (17, 80) rfl) rfl (by decide) fl_X12_266 rfl ?_
    refine j_dup2 dX12_tellOne_123 rfl (fun _ _ => rfl) (fun _ _ => rfl) ?_
    refine j_iald' (j := (Int32.toNatClampNeg (μ.1 112 19))) dX12_tellOne_124 rfl (hG 122 (0, 2) rfl) (o0 c0) rfl ?_
    refine j_iconst 1 dX12_tellOne_125 rfl (by decide) ?_
    refine j_iadd dX12_tellOne_126 rfl ?_
    refine j_iast' (j := (Int32.toNatClampNeg (μ.1 112 19))) dX12_tellOne_127 rfl (hG 122 (0, 2) rfl) (o0 c0) rfl ?_
    refine j_goto 343 dX12_tellOne_128 (by decide) ?_
    refine j_forget (ls' := [.null, .null]) ⟨Or.inl rfl, Or.inr rfl, trivial⟩ ?_
    exact k1 c0
theorem b_X12_tellOne_146 {l : Launch} {G : jG} {μ : jM} {φ : jM → Prop} {ψ1 : jM → Prop} (hG : gMM G) (hP : gNN μ) 
    (k0 : (¬ (μ.1 112 13) = (0 : Int32)) → J l mX12_tellOne (jZ0 6 G (pV φ)) G 0 0 343 [.null, .null] [] μ) 
    (e1 : ((μ.1 112 13) = (0 : Int32)) → jC0 l mX12_tellRoad 5 G [.ref 112] μ (pV ψ1)) 
    (k1 : ((μ.1 112 13) = (0 : Int32)) → ∀ μ', ψ1 μ' → J l mX12_tellOne (jZ0 6 G (pV φ)) G 0 0 157 [.null, .null] [] μ') :
    J l mX12_tellOne (jZ0 6 G (pV φ)) G 0 0 146 [.ref 112, .null] [] μ := by
  refine j_aload_n dX12_tellOne_146 rfl rfl ?_
  refine j_getI (ci := 12) (N := 80) (f := 13) (T := TX12) dX12_tellOne_147 rfl (hG 112 (17, 80) rfl) rfl (by decide) fl_X12_233 rfl ?_
  refine j_if_ne 343 dX12_tellOne_150 rfl (by decide) (fun c0 => ?_) (fun c0 => ?_)
  · skip
    refine j_forget (ls' := [.null, .null]) ⟨Or.inl rfl, Or.inr rfl, trivial⟩ ?_
    exact k0 c0
  · skip
    refine j_aload_n dX12_tellOne_153 rfl rfl ?_
    refine j_cV (as := []) (rest := []) dX12_tellOne_154 rfl vw_X12_298 (hG 112 (17, 80) rfl) rfl ⟨Nat.le_of_ble_eq_true rfl, Nat.le_of_ble_eq_true rfl⟩ rfl rfl (fun _ _ => Nat.le_of_ble_eq_true rfl) (e1 c0) (fun r μ' hr => ?_)
    obtain ⟨rfl, hr⟩ := hr
    refine j_forget (ls' := [.null, .null]) ⟨Or.inl rfl, Or.inr rfl, trivial⟩ ?_
    exact k1 c0 μ' hr
theorem b_X12_tellOne_157 {l : Launch} {G : jG} {μ : jM} {φ : jM → Prop} (hG : gMM G) (hP : gNN μ) 
    (k0 : J l mX12_tellOne (jZ0 6 G (pV φ)) G 0 0 343 [.null, .null] [] μ) :
    J l mX12_tellOne (jZ0 6 G (pV φ)) G 0 0 157 [.null, .null] [] μ := by
  refine j_goto 343 dX12_tellOne_157 (by decide) ?_
  exact k0 
theorem b_X12_tellOne_175 {l : Launch} {G : jG} {μ : jM} {φ : jM → Prop} {ψ1 : jM → Prop} (hG : gMM G) (hP : gNN μ) 
    (k0 : (¬ (μ.1 112 13) = (0 : Int32)) → J l mX12_tellOne (jZ0 6 G (pV φ)) G 0 0 343 [.null, .null] [] μ) 
    (e1 : ((μ.1 112 13) = (0 : Int32)) → jC0 l mX12_tellGhost 5 G [.ref 112] μ (pV ψ1)) 
    (k1 : ((μ.1 112 13) = (0 : Int32)) → ∀ μ', ψ1 μ' → J l mX12_tellOne (jZ0 6 G (pV φ)) G 0 0 186 [.null, .null] [] μ') :
    J l mX12_tellOne (jZ0 6 G (pV φ)) G 0 0 175 [.ref 112, .null] [] μ := by
  refine j_aload_n dX12_tellOne_175 rfl rfl ?_
  refine j_getI (ci := 12) (N := 80) (f := 13) (T := TX12) dX12_tellOne_176 rfl (hG 112 (17, 80) rfl) rfl (by decide) fl_X12_233 rfl ?_
  refine j_if_ne 343 dX12_tellOne_179 rfl (by decide) (fun c0 => ?_) (fun c0 => ?_)
  · skip
    refine j_forget (ls' := [.null, .null]) ⟨Or.inl rfl, Or.inr rfl, trivial⟩ ?_
    exact k0 c0
  · skip
    refine j_aload_n dX12_tellOne_182 rfl rfl ?_
    refine j_cV (as := []) (rest := []) dX12_tellOne_183 rfl vw_X12_301 (hG 112 (17, 80) rfl) rfl ⟨Nat.le_of_ble_eq_true rfl, Nat.le_of_ble_eq_true rfl⟩ rfl rfl (fun _ _ => Nat.le_of_ble_eq_true rfl) (e1 c0) (fun r μ' hr => ?_)
    obtain ⟨rfl, hr⟩ := hr
    refine j_forget (ls' := [.null, .null]) ⟨Or.inl rfl, Or.inr rfl, trivial⟩ ?_
    exact k1 c0 μ' hr
theorem b_X12_tellOne_186 {l : Launch} {G : jG} {μ : jM} {φ : jM → Prop} (hG : gMM G) (hP : gNN μ) 
    (k0 : J l mX12_tellOne (jZ0 6 G (pV φ)) G 0 0 343 [.null, .null] [] μ) :
    J l mX12_tellOne (jZ0 6 G (pV φ)) G 0 0 186 [.null, .null] [] μ := by
  refine j_goto 343 dX12_tellOne_186 (by decide) ?_
  exact k0 
theorem b_X12_tellOne_193 {l : Launch} {G : jG} {μ : jM} {φ : jM → Prop} {ψ0 : Int32 → jM → Prop} (hG : gMM G) (hP : gNN μ) 
    (e0 : jC0 l mX12_bounded 2 G [.ref 112, .int 0, .int 100] μ (pI ψ0)) 
    (k0 : ∀ v μ', ψ0 v μ' → J l mX12_tellOne (jZ0 6 G (pV φ)) G 0 0 208 [.ref 112, .null] [.int v, .int (μ.1 112 19), .ref 135] μ') :
    J l mX12_tellOne (jZ0 6 G (pV φ)) G 0 0 193 [.ref 112, .null] [] μ := by
  refine j_aload_n dX12_tellOne_193 rfl rfl ?_
  refine j_getR (ci := 12) (N := 80) (f := 36) (T := TX12) 135 dX12_tellOne_194 rfl (hG 112 (17, 80) rfl) rfl (by decide) fl_X12_86 rfl (hP 112 36 135 rfl) ?_
  refine j_aload_n dX12_tellOne_197 rfl rfl ?_
  refine j_getI (ci := 12) (N := 80) (f := 19) (T := TX12) dX12_tellOne_198 rfl (hG 112 (17, 80) rfl) rfl (by decide) fl_X12_266 rfl ?_
  refine j_aload_n dX12_tellOne_201 rfl rfl ?_
  refine j_iconst 0 dX12_tellOne_202 rfl (by decide) ?_
  refine j_bipush 100 dX12_tellOne_203 rfl (by decide) ?_
  refine j_cV (as := [.int 0, .int 100]) (rest := [.int (μ.1 112 19), .ref 135]) dX12_tellOne_205 rfl vw_X12_304 (hG 112 (17, 80) rfl) rfl ⟨Nat.le_of_ble_eq_true rfl, Nat.le_of_ble_eq_true rfl⟩ rfl rfl (fun _ _ => Nat.le_of_ble_eq_true rfl) (e0 ) (fun r μ' hr => ?_)
  obtain ⟨v, rfl, hr⟩ := hr
  exact k0  v μ' hr
theorem b_X12_tellOne_208 {l : Launch} {G : jG} {μ : jM} {φ : jM → Prop} {z0 z1 : Int32} {ψ0 : jM → Prop} (hG : gMM G) (hP : gNN μ) 
    (o0 : vp_in z1 2) 
    (e0 : jC0 l mX12_must 2 G [.ref 112, .int 4] (wI μ 135 (Int32.toNatClampNeg z1) z0) (pV ψ0)) 
    (k0 : ∀ μ', ψ0 μ' → J l mX12_tellOne (jZ0 6 G (pV φ)) G 0 0 214 [.null, .null] [] μ') :
    J l mX12_tellOne (jZ0 6 G (pV φ)) G 0 0 208 [.ref 112, .null] [.int z0, .int z1, .ref 135] μ := by
  refine j_iast' (j := (Int32.toNatClampNeg z1)) dX12_tellOne_208 rfl (hG 135 (0, 2) rfl) o0 rfl ?_
  refine j_aload_n dX12_tellOne_209 rfl rfl ?_
  refine j_iconst 4 dX12_tellOne_210 rfl (by decide) ?_
  refine j_cV (as := [.int 4]) (rest := []) dX12_tellOne_211 rfl vw_X12_308 (hG 112 (17, 80) rfl) rfl ⟨Nat.le_of_ble_eq_true rfl, Nat.le_of_ble_eq_true rfl⟩ rfl rfl (fun _ _ => Nat.le_of_ble_eq_true rfl) (e0 ) (fun r μ' hr => ?_)
  obtain ⟨rfl, hr⟩ := hr
  refine j_forget (ls' := [.null, .null]) ⟨Or.inl rfl, Or.inr rfl, trivial⟩ ?_
  exact k0  μ' hr
theorem b_X12_tellOne_214 {l : Launch} {G : jG} {μ : jM} {φ : jM → Prop} (hG : gMM G) (hP : gNN μ) 
    (k0 : J l mX12_tellOne (jZ0 6 G (pV φ)) G 0 0 343 [.null, .null] [] μ) :
    J l mX12_tellOne (jZ0 6 G (pV φ)) G 0 0 214 [.null, .null] [] μ := by
  refine j_goto 343 dX12_tellOne_214 (by decide) ?_
  exact k0 
theorem b_X12_tellOne_221 {l : Launch} {G : jG} {μ : jM} {φ : jM → Prop} {ψ0 : Int32 → jM → Prop} (hG : gMM G) (hP : gNN μ) 
    (e0 : jC0 l mX12_bounded 2 G [.ref 112, .int 0, .int 100] μ (pI ψ0)) 
    (k0 : ∀ v μ', ψ0 v μ' → J l mX12_tellOne (jZ0 6 G (pV φ)) G 0 0 236 [.ref 112, .null] [.int v, .int (μ.1 112 19), .ref 136] μ') :
    J l mX12_tellOne (jZ0 6 G (pV φ)) G 0 0 221 [.ref 112, .null] [] μ := by
  refine j_aload_n dX12_tellOne_221 rfl rfl ?_
  refine j_getR (ci := 12) (N := 80) (f := 37) (T := TX12) 136 dX12_tellOne_222 rfl (hG 112 (17, 80) rfl) rfl (by decide) fl_X12_89 rfl (hP 112 37 136 rfl) ?_
  refine j_aload_n dX12_tellOne_225 rfl rfl ?_
  refine j_getI (ci := 12) (N := 80) (f := 19) (T := TX12) dX12_tellOne_226 rfl (hG 112 (17, 80) rfl) rfl (by decide) fl_X12_266 rfl ?_
  refine j_aload_n dX12_tellOne_229 rfl rfl ?_
  refine j_iconst 0 dX12_tellOne_230 rfl (by decide) ?_
  refine j_bipush 100 dX12_tellOne_231 rfl (by decide) ?_
  refine j_cV (as := [.int 0, .int 100]) (rest := [.int (μ.1 112 19), .ref 136]) dX12_tellOne_233 rfl vw_X12_304 (hG 112 (17, 80) rfl) rfl ⟨Nat.le_of_ble_eq_true rfl, Nat.le_of_ble_eq_true rfl⟩ rfl rfl (fun _ _ => Nat.le_of_ble_eq_true rfl) (e0 ) (fun r μ' hr => ?_)
  obtain ⟨v, rfl, hr⟩ := hr
  exact k0  v μ' hr
theorem b_X12_tellOne_236 {l : Launch} {G : jG} {μ : jM} {φ : jM → Prop} {z0 z1 : Int32} {ψ0 : Int32 → jM → Prop} (hG : gMM G) (hP : gNN μ) 
    (o0 : vp_in z1 2) 
    (e0 : jC0 l mX12_bounded 2 G [.ref 112, .int 0, .int 100] (wI μ 136 (Int32.toNatClampNeg z1) z0) (pI ψ0)) 
    (k0 : ∀ v μ', ψ0 v μ' → J l mX12_tellOne (jZ0 6 G (pV φ)) G 0 0 252 [.ref 112, .null] [.int v, .int (μ.1 112 19), .ref 137] μ') :
    J l mX12_tellOne (jZ0 6 G (pV φ)) G 0 0 236 [.ref 112, .null] [.int z0, .int z1, .ref 136] μ := by
  refine j_iast' (j := (Int32.toNatClampNeg z1)) dX12_tellOne_236 rfl (hG 136 (0, 2) rfl) o0 rfl ?_
  refine j_aload_n dX12_tellOne_237 rfl rfl ?_
  refine j_getR (ci := 12) (N := 80) (f := 38) (T := TX12) 137 dX12_tellOne_238 rfl (hG 112 (17, 80) rfl) rfl (by decide) fl_X12_92 rfl (hP 112 38 137 rfl) ?_
  refine j_aload_n dX12_tellOne_241 rfl rfl ?_
  refine j_getI (ci := 12) (N := 80) (f := 19) (T := TX12) dX12_tellOne_242 rfl (hG 112 (17, 80) rfl) rfl (by decide) fl_X12_266 rfl ?_
  refine j_aload_n dX12_tellOne_245 rfl rfl ?_
  refine j_iconst 0 dX12_tellOne_246 rfl (by decide) ?_
  refine j_bipush 100 dX12_tellOne_247 rfl (by decide) ?_
  refine j_cV (as := [.int 0, .int 100]) (rest := [.int (μ.1 112 19), .ref 137]) dX12_tellOne_249 rfl vw_X12_304 (hG 112 (17, 80) rfl) rfl ⟨Nat.le_of_ble_eq_true rfl, Nat.le_of_ble_eq_true rfl⟩ rfl rfl (fun _ _ => Nat.le_of_ble_eq_true rfl) (e0 ) (fun r μ' hr => ?_)
  obtain ⟨v, rfl, hr⟩ := hr
  exact k0  v μ' hr
theorem b_X12_tellOne_252 {l : Launch} {G : jG} {μ : jM} {φ : jM → Prop} {z0 z1 : Int32} {ψ0 : jM → Prop} (hG : gMM G) (hP : gNN μ) 
    (o0 : vp_in z1 2) 
    (e0 : jC0 l mX12_must 2 G [.ref 112, .int 4] (wI μ 137 (Int32.toNatClampNeg z1) z0) (pV ψ0)) 
    (k0 : ∀ μ', ψ0 μ' → J l mX12_tellOne (jZ0 6 G (pV φ)) G 0 0 258 [.null, .null] [] μ') :
    J l mX12_tellOne (jZ0 6 G (pV φ)) G 0 0 252 [.ref 112, .null] [.int z0, .int z1, .ref 137] μ := by
  refine j_iast' (j := (Int32.toNatClampNeg z1)) dX12_tellOne_252 rfl (hG 137 (0, 2) rfl) o0 rfl ?_
  refine j_aload_n dX12_tellOne_253 rfl rfl ?_
  refine j_iconst 4 dX12_tellOne_254 rfl (by decide) ?_
  refine j_cV (as := [.int 4]) (rest := []) dX12_tellOne_255 rfl vw_X12_308 (hG 112 (17, 80) rfl) rfl ⟨Nat.le_of_ble_eq_true rfl, Nat.le_of_ble_eq_true rfl⟩ rfl rfl (fun _ _ => Nat.le_of_ble_eq_true rfl) (e0 ) (fun r μ' hr => ?_)
  obtain ⟨rfl, hr⟩ := hr
  refine j_forget (ls' := [.null, .null]) ⟨Or.inl rfl, Or.inr rfl, trivial⟩ ?_
  exact k0  μ' hr
theorem b_X12_tellOne_258 {l : Launch} {G : jG} {μ : jM} {φ : jM → Prop} (hG : gMM G) (hP : gNN μ) 
    (k0 : J l mX12_tellOne (jZ0 6 G (pV φ)) G 0 0 343 [.null, .null] [] μ) :
    J l mX12_tellOne (jZ0 6 G (pV φ)) G 0 0 258 [.null, .null] [] μ := by
  refine j_goto 343 dX12_tellOne_258 (by decide) ?_
  exact k0 
theorem b_X12_tellOne_265 {l : Launch} {G : jG} {μ : jM} {φ : jM → Prop} {ψ0 : Int32 → jM → Prop} (hG : gMM G) (hP : gNN μ) 
    (e0 : jC0 l mX12_bounded 2 G [.ref 112, .int 0, .int 9999] μ (pI ψ0)) 
    (k0 : ∀ v μ', ψ0 v μ' → J l mX12_tellOne (jZ0 6 G (pV φ)) G 0 0 281 [.ref 112, .null] [.int v, .int (μ.1 112 19), .ref 138] μ') :
    J l mX12_tellOne (jZ0 6 G (pV φ)) G 0 0 265 [.ref 112, .null] [] μ := by
  refine j_aload_n dX12_tellOne_265 rfl rfl ?_
  refine j_getR (ci := 12) (N := 80) (f := 39) (T := TX12) 138 dX12_tellOne_266 rfl (hG 112 (17, 80) rfl) rfl (by decide) fl_X12_95 rfl (hP 112 39 138 rfl) ?_
  refine j_aload_n dX12_tellOne_269 rfl rfl ?_
  refine j_getI (ci := 12) (N := 80) (f := 19) (T := TX12) dX12_tellOne_270 rfl (hG 112 (17, 80) rfl) rfl (by decide) fl_X12_266 rfl ?_
  refine j_aload_n dX12_tellOne_273 rfl rfl ?_
  refine j_iconst 0 dX12_tellOne_274 rfl (by decide) ?_
  refine j_sipush 9999 dX12_tellOne_275 rfl (by decide) ?_
  refine j_cV (as := [.int 0, .int 9999]) (rest := [.int (μ.1 112 19), .ref 138]) dX12_tellOne_278 rfl vw_X12_304 (hG 112 (17, 80) rfl) rfl ⟨Nat.le_of_ble_eq_true rfl, Nat.le_of_ble_eq_true rfl⟩ rfl rfl (fun _ _ => Nat.le_of_ble_eq_true rfl) (e0 ) (fun r μ' hr => ?_)
  obtain ⟨v, rfl, hr⟩ := hr
  exact k0  v μ' hr
theorem b_X12_tellOne_281 {l : Launch} {G : jG} {μ : jM} {φ : jM → Prop} {z0 z1 : Int32} {ψ0 : jM → Prop} (hG : gMM G) (hP : gNN μ) 
    (o0 : vp_in z1 2) 
    (e0 : jC0 l mX12_must 2 G [.ref 112, .int 4] (wI μ 138 (Int32.toNatClampNeg z1) z0) (pV ψ0)) 
    (k0 : ∀ μ', ψ0 μ' → J l mX12_tellOne (jZ0 6 G (pV φ)) G 0 0 287 [.null, .null] [] μ') :
    J l mX12_tellOne (jZ0 6 G (pV φ)) G 0 0 281 [.ref 112, .null] [.int z0, .int z1, .ref 138] μ := by
  refine j_iast' (j := (Int32.toNatClampNeg z1)) dX12_tellOne_281 rfl (hG 138 (0, 2) rfl) o0 rfl ?_
  refine j_aload_n dX12_tellOne_282 rfl rfl ?_
  refine j_iconst 4 dX12_tellOne_283 rfl (by decide) ?_
  refine j_cV (as := [.int 4]) (rest := []) dX12_tellOne_284 rfl vw_X12_308 (hG 112 (17, 80) rfl) rfl ⟨Nat.le_of_ble_eq_true rfl, Nat.le_of_ble_eq_true rfl⟩ rfl rfl (fun _ _ => Nat.le_of_ble_eq_true rfl) (e0 ) (fun r μ' hr => ?_)
  obtain ⟨rfl, hr⟩ := hr
  refine j_forget (ls' := [.null, .null]) ⟨Or.inl rfl, Or.inr rfl, trivial⟩ ?_
  exact k0  μ' hr
theorem b_X12_tellOne_287 {l : Launch} {G : jG} {μ : jM} {φ : jM → Prop} (hG : gMM G) (hP : gNN μ) 
    (k0 : J l mX12_tellOne (jZ0 6 G (pV φ)) G 0 0 343 [.null, .null] [] μ) :
    J l mX12_tellOne (jZ0 6 G (pV φ)) G 0 0 287 [.null, .null] [] μ := by
  refine j_goto 343 dX12_tellOne_287 (by decide) ?_
  exact k0 
theorem b_X12_tellOne_321 {l : Launch} {G : jG} {μ : jM} {φ : jM → Prop} {x1 : Int32} {ψ0 : jM → Prop} (hG : gMM G) (hP : gNN μ) 
    (e0 : jC0 l mX12_fail 0 G [.ref 112, .int 1] μ (pV ψ0)) 
    (k0 : ∀ μ', ψ0 μ' → J l mX12_tellOne (jZ0 6 G (pV φ)) G 0 0 326 [.ref 112, .int x1] [] μ') :
    J l mX12_tellOne (jZ0 6 G (pV φ)) G 0 0 321 [.ref 112, .int x1] [] μ := by
  refine j_aload_n dX12_tellOne_321 rfl rfl ?_
  refine j_iconst 1 dX12_tellOne_322 rfl (by decide) ?_
  refine j_cV (as := [.int 1]) (rest := []) dX12_tellOne_323 rfl vw_X12_248 (hG 112 (17, 80) rfl) rfl ⟨Nat.le_of_ble_eq_true rfl, Nat.le_of_ble_eq_true rfl⟩ rfl rfl (fun _ _ => Nat.le_of_ble_eq_true rfl) (e0 ) (fun r μ' hr => ?_)
  obtain ⟨rfl, hr⟩ := hr
  exact k0  μ' hr
theorem b_X12_tellOne_326 {l : Launch} {G : jG} {μ : jM} {φ : jM → Prop} {x1 : Int32} {ψ0 : jM → Prop} (hG : gMM G) (hP : gNN μ) 
    (e0 : ((μ.1 112 13) ≤ (0 : Int32)) → jC0 l mX12_goesOn 1 G [.ref 112] μ (pV ψ0)) 
    (k0 : ((μ.1 112 13) ≤ (0 : Int32)) → ∀ μ', ψ0 μ' → J l mX12_tellOne (jZ0 6 G (pV φ)) G 0 0 338 [.ref 112, .int x1] [] μ') 
    (k1 : (¬ ((μ.1 112 13) ≤ (0 : Int32))) → φ μ) :
    J l mX12_tellOne (jZ0 6 G (pV φ)) G 0 0 326 [.ref 112, .int x1] [] μ := by
  refine j_aload_n dX12_tellOne_326 rfl rfl ?_
  refine j_getI (ci := 12) (N := 80) (f := 13) (T := TX12) dX12_tellOne_327 rfl (hG 112 (17, 80) rfl) rfl (by decide) fl_X12_233 rfl ?_
  refine j_if_le 334 dX12_tellOne_330 rfl (by decide) (fun c0 => ?_) (fun c0 => ?_)
  · skip
    refine j_aload_n dX12_tellOne_334 rfl rfl ?_
    refine j_cV (as := []) (rest := []) dX12_tellOne_335 rfl vw_X12_254 (hG 112 (17, 80) rfl) rfl ⟨Nat.le_of_ble_eq_true rfl, Nat.le_of_ble_eq_true rfl⟩ rfl rfl (fun _ _ => Nat.le_of_ble_eq_true rfl) (e0 c0) (fun r μ' hr => ?_)
    obtain ⟨rfl, hr⟩ := hr
    exact k0 c0 μ' hr
  · skip
    exact j_vret dX12_tellOne_333 rfl (k1 c0)
theorem b_X12_tellOne_338 {l : Launch} {G : jG} {μ : jM} {φ : jM → Prop} {x1 : Int32} {ψ0 : jM → Prop} (hG : gMM G) (hP : gNN μ) 
    (e0 : jC0 l mX12_tellLaw 5 G [.ref 112, .int x1] μ (pV ψ0)) 
    (k0 : ∀ μ', ψ0 μ' → J l mX12_tellOne (jZ0 6 G (pV φ)) G 0 0 343 [.null, .null] [] μ') :
    J l mX12_tellOne (jZ0 6 G (pV φ)) G 0 0 338 [.ref 112, .int x1] [] μ := by
  refine j_aload_n dX12_tellOne_338 rfl rfl ?_
  refine j_iload_n dX12_tellOne_339 rfl rfl ?_
  refine j_cV (as := [.int x1]) (rest := []) dX12_tellOne_340 rfl vw_X12_311 (hG 112 (17, 80) rfl) rfl ⟨Nat.le_of_ble_eq_true rfl, Nat.le_of_ble_eq_true rfl⟩ rfl rfl (fun _ _ => Nat.le_of_ble_eq_true rfl) (e0 ) (fun r μ' hr => ?_)
  obtain ⟨rfl, hr⟩ := hr
  refine j_forget (ls' := [.null, .null]) ⟨Or.inl rfl, Or.inl rfl, trivial⟩ ?_
  exact k0  μ' hr
theorem b_X12_tellOne_343 {l : Launch} {G : jG} {μ : jM} {φ : jM → Prop} (hG : gMM G) (hP : gNN μ) 
    (k0 : φ μ) :
    J l mX12_tellOne (jZ0 6 G (pV φ)) G 0 0 343 [.null, .null] [] μ := by
  exact j_vret dX12_tellOne_343 rfl (k0 )
theorem b_X12_named_0 {l : Launch} {G : jG} {μ : jM} {φ : Int32 → jM → Prop} {ψ0 : jM → Prop} (hG : gMM G) (hP : gNN μ) 
    (e0 : jC0 l mX12_must 2 G [.ref 112, .int 1] μ (pV ψ0)) 
    (k0 : ∀ μ', ψ0 μ' → J l mX12_named (jZ0 3 G (pI φ)) G 0 0 10 [.ref 112, .int (μ.1 112 11), .null] [] μ') :
    J l mX12_named (jZ0 3 G (pI φ)) G 0 0 0 [.ref 112, .null, .null] [] μ := by
  refine j_aload_n dX12_named_0 rfl rfl ?_
  refine j_getI (ci := 12) (N := 80) (f := 11) (T := TX12) dX12_named_1 rfl (hG 112 (17, 80) rfl) rfl (by decide) fl_X12_236 rfl ?_
  refine j_istore_n (ls' := [.ref 112, .int (μ.1 112 11), .null]) dX12_named_4 rfl rfl (Nat.le_of_ble_eq_true rfl) rfl ?_
  refine j_aload_n dX12_named_5 rfl rfl ?_
  refine j_iconst 1 dX12_named_6 rfl (by decide) ?_
  refine j_cV (as := [.int 1]) (rest := []) dX12_named_7 rfl vw_X12_308 (hG 112 (17, 80) rfl) rfl ⟨Nat.le_of_ble_eq_true rfl, Nat.le_of_ble_eq_true rfl⟩ rfl rfl (fun _ _ => Nat.le_of_ble_eq_true rfl) (e0 ) (fun r μ' hr => ?_)
  obtain ⟨rfl, hr⟩ := hr
  exact k0  μ' hr
theorem b_X12_named_10 {l : Launch} {G : jG} {μ : jM} {φ : Int32 → jM → Prop} {x1 : Int32} (hG : gMM G) (hP : gNN μ) 
    (k0 : J l mX12_named (jZ0 3 G (pI φ)) G 0 0 12 [.ref 112, .int x1, .int 0] [] μ) :
    J l mX12_named (jZ0 3 G (pI φ)) G 0 0 10 [.ref 112, .int x1, .null] [] μ := by
  refine j_iconst 0 dX12_named_10 rfl (by decide) ?_
  refine j_istore_n (ls' := [.ref 112, .int x1, .int 0]) dX12_named_11 rfl rfl (Nat.le_of_ble_eq_true rfl) rfl ?_
  exact k0 
theorem b_X12_named_12 {l : Launch} {G : jG} {μ : jM} {φ : Int32 → jM → Prop} {x1 x2 : Int32} {ψ3 : jM → Prop} (hG : gMM G) (hP : gNN μ) 
    (k0 : ((μ.1 112 20) ≤ (x2 : Int32)) → φ x1 μ) 
    (k1 : (¬ ((μ.1 112 20) ≤ (x2 : Int32))) → (¬ (μ.1 112 13) = (0 : Int32)) → φ x1 μ) 
    (o0 : (¬ ((μ.1 112 20) ≤ (x2 : Int32))) → ((μ.1 112 13) = (0 : Int32)) → vp_in x2 15) 
    (o1 : (¬ ((μ.1 112 20) ≤ (x2 : Int32))) → ((μ.1 112 13) = (0 : Int32)) → vp_in x1 403) 
    (k2 : (¬ ((μ.1 112 20) ≤ (x2 : Int32))) → ((μ.1 112 13) = (0 : Int32)) → (¬ (lg_cmp (μ.2.1 120 (Int32.toNatClampNeg x2)) (μ.2.1 118 (Int32.toNatClampNeg x1))) = (0 : Int32)) → J l mX12_named (jZ0 3 G (pI φ)) G 0 0 12 [.ref 112, .int x1, .int (x2 + 1)] [] μ) 
    (e3 : (¬ ((μ.1 112 20) ≤ (x2 : Int32))) → ((μ.1 112 13) = (0 : Int32)) → ((lg_cmp (μ.2.1 120 (Int32.toNatClampNeg x2)) (μ.2.1 118 (Int32.toNatClampNeg x1))) = (0 : Int32)) → jC0 l mX12_wrong 0 G [.ref 112, .int 3, .int x1] μ (pV ψ3)) 
    (k3 : (¬ ((μ.1 112 20) ≤ (x2 : Int32))) → ((μ.1 112 13) = (0 : Int32)) → ((lg_cmp (μ.2.1 120 (Int32.toNatClampNeg x2)) (μ.2.1 118 (Int32.toNatClampNeg x1))) = (0 : Int32)) → ∀ μ', ψ3 μ' → J l mX12_named (jZ0 3 G (pI φ)) G 0 0 49 [.ref 112, .int x1, .int x2] [] μ') :
    J l mX12_named (jZ0 3 G (pI φ)) G 0 0 12 [.ref 112, .int x1, .int x2] [] μ := by
  refine j_iload_n dX12_named_12 rfl rfl ?_
  refine j_aload_n dX12_named_13 rfl rfl ?_
  refine j_getI (ci := 12) (N := 80) (f := 20) (T := TX12) dX12_named_14 rfl (hG 112 (17, 80) rfl) rfl (by decide) fl_X12_269 rfl ?_
  refine j_icmp_ge 55 dX12_named_17 rfl (by decide) (fun c0 => ?_) (fun c0 => ?_)
  · skip
    refine j_iload_n dX12_named_55 rfl rfl ?_
    exact j_iret dX12_named_56 rfl (k0 c0)
  · skip
    refine j_aload_n dX12_named_20 rfl rfl ?_
    refine j_getI (ci := 12) (N := 80) (f := 13) (T := TX12) dX12_named_21 rfl (hG 112 (17, 80) rfl) rfl (by decide) fl_X12_233 rfl ?_
    refine j_if_ne 55 dX12_named_24 rfl (by decide) (fun c1 => ?_) (fun c1 => ?_)
    · skip
      refine j_iload_n dX12_named_55 rfl rfl ?_
      exact j_iret dX12_named_56 rfl (k1 c0 c1)
    · skip
      refine j_aload_n dX12_named_27 rfl rfl ?_
      refine j_getR (ci := 12) (N := 80) (f := 21) (T := TX12) 120 dX12_named_28 rfl (hG 112 (17, 80) rfl) rfl (by decide) fl_X12_40 rfl (hP 112 21 120 rfl) ?_
      refine j_iload_n dX12_named_31 rfl rfl ?_
      refine j_lald' (j := (Int32.toNatClampNeg x2)) dX12_named_32 rfl (hG 120 (3, 15) rfl) (o0 c0 c1) rfl ?_
      refine j_aload_n dX12_named_33 rfl rfl ?_
      refine j_getR (ci := 12) (N := 80) (f := 8) (T := TX12) 118 dX12_named_34 rfl (hG 112 (17, 80) rfl) rfl (by decide) fl_X12_30 rfl (hP 112 8 118 rfl) ?_
      refine j_iload_n dX12_named_37 rfl rfl ?_
      refine j_lald' (j := (Int32.toNatClampNeg x1)) dX12_named_38 rfl (hG 118 (3, 403) rfl) (o1 c0 c1) rfl ?_
      refine j_lcmp dX12_named_39 rfl ?_
      refine j_if_ne 49 dX12_named_40 rfl (by decide) (fun c2 => ?_) (fun c2 => ?_)
      · skip
        refine j_iinc (x2 + 1) (ls' := [.ref 112, .int x1, .int (x2 + 1)]) dX12_named_49 rfl rfl rfl (Nat.le_of_ble_eq_true rfl) rfl ?_
        refine j_goto 12 dX12_named_52 (by decide) ?_
        exact k2 c0 c1 c2
      · skip
        refine j_aload_n dX12_named_43 rfl rfl ?_
        refine j_iconst 3 dX12_named_44 rfl (by decide) ?_
        refine j_iload_n dX12_named_45 rfl rfl ?_
        refine j_cV (as := [.int 3, .int x1]) (rest := []) dX12_named_46 rfl vw_X12_314 (hG 112 (17, 80) rfl) rfl ⟨Nat.le_of_ble_eq_true rfl, Nat.le_of_ble_eq_true rfl⟩ rfl rfl (fun _ _ => Nat.le_of_ble_eq_true rfl) (e3 c0 c1 c2) (fun r μ' hr => ?_)
        obtain ⟨rfl, hr⟩ := hr
        exact k3 c0 c1 c2 μ' hr
theorem b_X12_named_49 {l : Launch} {G : jG} {μ : jM} {φ : Int32 → jM → Prop} {x1 x2 : Int32} (hG : gMM G) (hP : gNN μ) 
    (k0 : J l mX12_named (jZ0 3 G (pI φ)) G 0 0 12 [.ref 112, .int x1, .int (x2 + 1)] [] μ) :
    J l mX12_named (jZ0 3 G (pI φ)) G 0 0 49 [.ref 112, .int x1, .int x2] [] μ := by
  refine j_iinc (x2 + 1) (ls' := [.ref 112, .int x1, .int (x2 + 1)]) dX12_named_49 rfl rfl rfl (Nat.le_of_ble_eq_true rfl) rfl ?_
  refine j_goto 12 dX12_named_52 (by decide) ?_
  exact k0 
theorem b_X12_ends_0 {l : Launch} {G : jG} {μ : jM} {φ : jM → Prop} {x1 x2 : Int32} {ψ0 : jM → Prop} (hG : gMM G) (hP : gNN μ) 
    (e0 : jC0 l mX12_must 2 G [.ref 112, .int 4] μ (pV ψ0)) 
    (k0 : ∀ μ', ψ0 μ' → J l mX12_ends (jZ0 3 G (pV φ)) G 0 0 5 [.ref 112, .int x1, .int x2] [] μ') :
    J l mX12_ends (jZ0 3 G (pV φ)) G 0 0 0 [.ref 112, .int x1, .int x2] [] μ := by
  refine j_aload_n dX12_ends_0 rfl rfl ?_
  refine j_iconst 4 dX12_ends_1 rfl (by decide) ?_
  refine j_cV (as := [.int 4]) (rest := []) dX12_ends_2 rfl vw_X12_308 (hG 112 (17, 80) rfl) rfl ⟨Nat.le_of_ble_eq_true rfl, Nat.le_of_ble_eq_true rfl⟩ rfl rfl (fun _ _ => Nat.le_of_ble_eq_true rfl) (e0 ) (fun r μ' hr => ?_)
  obtain ⟨rfl, hr⟩ := hr
  exact k0  μ' hr
theorem b_X12_ends_5 {l : Launch} {G : jG} {μ : jM} {φ : jM → Prop} {x1 x2 : Int32} (hG : gMM G) (hP : gNN μ) 
    (o0 : ((μ.1 112 13) ≤ (0 : Int32)) → vp_in x1 403) 
    (o1 : ((μ.1 112 13) ≤ (0 : Int32)) → vp_in (μ.1 112 20) 15) 
    (k0 : ((μ.1 112 13) ≤ (0 : Int32)) → φ (wI (wI (wL μ 120 (Int32.toNatClampNeg (μ.1 112 20)) (μ.2.1 118 (Int32.toNatClampNeg x1))) 121 (Int32.toNatClampNeg (μ.1 112 20)) x2) 112 20 ((μ.1 112 20) + 1))) 
    (k1 : (¬ ((μ.1 112 13) ≤ (0 : Int32))) → φ μ) :
    J l mX12_ends (jZ0 3 G (pV φ)) G 0 0 5 [.ref 112, .int x1, .int x2] [] μ := by
  refine j_aload_n dX12_ends_5 rfl rfl ?_
  refine j_getI (ci := 12) (N := 80) (f := 13) (T := TX12) dX12_ends_6 rfl (hG 112 (17, 80) rfl) rfl (by decide) fl_X12_233 rfl ?_
  refine j_if_le 13 dX12_ends_9 rfl (by decide) (fun c0 => ?_) (fun c0 => ?_)
  · skip
    refine j_aload_n dX12_ends_13 rfl rfl ?_
    refine j_getR (ci := 12) (N := 80) (f := 21) (T := TX12) 120 dX12_ends_14 rfl (hG 112 (17, 80) rfl) rfl (by decide) fl_X12_40 rfl (hP 112 21 120 rfl) ?_
    refine j_aload_n dX12_ends_17 rfl rfl ?_
    refine j_getI (ci := 12) (N := 80) (f := 20) (T := TX12) dX12_ends_18 rfl (hG 112 (17, 80) rfl) rfl (by decide) fl_X12_269 rfl ?_
    refine j_aload_n dX12_ends_21 rfl rfl ?_
    refine j_getR (ci := 12) (N := 80) (f := 8) (T := TX12) 118 dX12_ends_22 rfl (hG 112 (17, 80) rfl) rfl (by decide) fl_X12_30 rfl (hP 112 8 118 rfl) ?_
    refine j_iload_n dX12_ends_25 rfl rfl ?_
    refine j_lald' (j := (Int32.toNatClampNeg x1)) dX12_ends_26 rfl (hG 118 (3, 403) rfl) (o0 c0) rfl ?_
    refine j_last' (j := (Int32.toNatClampNeg (μ.1 112 20))) dX12_ends_27 rfl (hG 120 (3, 15) rfl) (o1 c0) rfl ?_
    refine j_aload_n dX12_ends_28 rfl rfl ?_
    refine j_getR (ci := 12) (N := 80) (f := 22) (T := TX12) 121 dX12_ends_29 rfl (hG 112 (17, 80) rfl) rfl (by decide) fl_X12_43 rfl (hP 112 22 121 rfl) ?_
    refine j_aload_n dX12_ends_32 rfl rfl ?_
    refine j_getI (ci := 12) (N := 80) (f := 20) (T := TX12) dX12_ends_33 rfl (hG 112 (17, 80) rfl) rfl (by decide) fl_X12_269 rfl ?_
    refine j_iload_n dX12_ends_36 rfl rfl ?_
    refine j_iast' (j := (Int32.toNatClampNeg (μ.1 112 20))) dX12_ends_37 rfl (hG 121 (0, 15) rfl) (o1 c0) rfl ?_
    refine j_aload_n dX12_ends_38 rfl rfl ?_
    refine j_dup dX12_ends_39 rfl (fun _ _ => rfl) ?_
    refine j_getI (ci := 12) (N := 80) (f := 20) (T := TX12) dX12_ends_40 rfl (hG 112 (17, 80) rfl) rfl (by decide) fl_X12_269 rfl ?_
    refine j_iconst 1 dX12_ends_43 rfl (by decide) ?_
    refine j_iadd dX12_ends_44 rfl ?_
    refine j_putI (ci := 12) (N := 80) (f := 20) (T := TX12) dX12_ends_45 rfl (hG 112 (17, 80) rfl) rfl (by decide) fl_X12_269 rfl rfl ?_
    exact j_vret dX12_ends_48 rfl (k0 c0)
  · skip
    exact j_vret dX12_ends_12 rfl (k1 c0)
theorem b_X12_knownPlace_0 {l : Launch} {G : jG} {μ : jM} {φ : Int32 → jM → Prop} {ψ0 : jM → Prop} (hG : gMM G) (hP : gNN μ) 
    (e0 : jC0 l mX12_must 2 G [.ref 112, .int 1] μ (pV ψ0)) 
    (k0 : ∀ μ', ψ0 μ' → J l mX12_knownPlace (jZ0 3 G (pI φ)) G 0 0 10 [.ref 112, .int (μ.1 112 11), .null] [] μ') :
    J l mX12_knownPlace (jZ0 3 G (pI φ)) G 0 0 0 [.ref 112, .null, .null] [] μ := by
  refine j_aload_n dX12_knownPlace_0 rfl rfl ?_
  refine j_getI (ci := 12) (N := 80) (f := 11) (T := TX12) dX12_knownPlace_1 rfl (hG 112 (17, 80) rfl) rfl (by decide) fl_X12_236 rfl ?_
  refine j_istore_n (ls' := [.ref 112, .int (μ.1 112 11), .null]) dX12_knownPlace_4 rfl rfl (Nat.le_of_ble_eq_true rfl) rfl ?_
  refine j_aload_n dX12_knownPlace_5 rfl rfl ?_
  refine j_iconst 1 dX12_knownPlace_6 rfl (by decide) ?_
  refine j_cV (as := [.int 1]) (rest := []) dX12_knownPlace_7 rfl vw_X12_308 (hG 112 (17, 80) rfl) rfl ⟨Nat.le_of_ble_eq_true rfl, Nat.le_of_ble_eq_true rfl⟩ rfl rfl (fun _ _ => Nat.le_of_ble_eq_true rfl) (e0 ) (fun r μ' hr => ?_)
  obtain ⟨rfl, hr⟩ := hr
  exact k0  μ' hr
theorem b_X12_knownPlace_10 {l : Launch} {G : jG} {μ : jM} {φ : Int32 → jM → Prop} {x1 : Int32} (hG : gMM G) (hP : gNN μ) 
    (k0 : ((μ.1 112 13) ≤ (0 : Int32)) → J l mX12_knownPlace (jZ0 3 G (pI φ)) G 0 0 21 [.ref 112, .int x1, .int 0] [] μ) 
    (k1 : (¬ ((μ.1 112 13) ≤ (0 : Int32))) → φ (-1) μ) :
    J l mX12_knownPlace (jZ0 3 G (pI φ)) G 0 0 10 [.ref 112, .int x1, .null] [] μ := by
  refine j_aload_n dX12_knownPlace_10 rfl rfl ?_
  refine j_getI (ci := 12) (N := 80) (f := 13) (T := TX12) dX12_knownPlace_11 rfl (hG 112 (17, 80) rfl) rfl (by decide) fl_X12_233 rfl ?_
  refine j_if_le 19 dX12_knownPlace_14 rfl (by decide) (fun c0 => ?_) (fun c0 => ?_)
  · skip
    refine j_iconst 0 dX12_knownPlace_19 rfl (by decide) ?_
    refine j_istore_n (ls' := [.ref 112, .int x1, .int 0]) dX12_knownPlace_20 rfl rfl (Nat.le_of_ble_eq_true rfl) rfl ?_
    exact k0 c0
  · skip
    refine j_iconst (-1) dX12_knownPlace_17 rfl (by decide) ?_
    exact j_iret dX12_knownPlace_18 rfl (k1 c0)
theorem b_X12_knownPlace_21 {l : Launch} {G : jG} {μ : jM} {φ : Int32 → jM → Prop} {x1 x2 : Int32} {ψ0 : jM → Prop} (hG : gMM G) (hP : gNN μ) 
    (e0 : ((μ.1 112 20) ≤ (x2 : Int32)) → jC0 l mX12_wrong 0 G [.ref 112, .int 4, .int x1] μ (pV ψ0)) 
    (k0 : ((μ.1 112 20) ≤ (x2 : Int32)) → ∀ μ', ψ0 μ' → J l mX12_knownPlace (jZ0 3 G (pI φ)) G 0 0 73 [.null, .null, .null] [] μ') 
    (o0 : (¬ ((μ.1 112 20) ≤ (x2 : Int32))) → vp_in x2 15) 
    (o1 : (¬ ((μ.1 112 20) ≤ (x2 : Int32))) → vp_in x1 403) 
    (k1 : (¬ ((μ.1 112 20) ≤ (x2 : Int32))) → (¬ (lg_cmp (μ.2.1 120 (Int32.toNatClampNeg x2)) (μ.2.1 118 (Int32.toNatClampNeg x1))) = (0 : Int32)) → J l mX12_knownPlace (jZ0 3 G (pI φ)) G 0 0 21 [.ref 112, .int x1, .int (x2 + 1)] [] μ) 
    (k2 : (¬ ((μ.1 112 20) ≤ (x2 : Int32))) → ((lg_cmp (μ.2.1 120 (Int32.toNatClampNeg x2)) (μ.2.1 118 (Int32.toNatClampNeg x1))) = (0 : Int32)) → ((μ.1 121 (Int32.toNatClampNeg x2)) < (0 : Int32)) → J l mX12_knownPlace (jZ0 3 G (pI φ)) G 0 0 21 [.ref 112, .int x1, .int (x2 + 1)] [] μ) 
    (k3 : (¬ ((μ.1 112 20) ≤ (x2 : Int32))) → ((lg_cmp (μ.2.1 120 (Int32.toNatClampNeg x2)) (μ.2.1 118 (Int32.toNatClampNeg x1))) = (0 : Int32)) → (¬ ((μ.1 121 (Int32.toNatClampNeg x2)) < (0 : Int32))) → φ (μ.1 121 (Int32.toNatClampNeg x2)) μ) :
    J l mX12_knownPlace (jZ0 3 G (pI φ)) G 0 0 21 [.ref 112, .int x1, .int x2] [] μ := by
  refine j_iload_n dX12_knownPlace_21 rfl rfl ?_
  refine j_aload_n dX12_knownPlace_22 rfl rfl ?_
  refine j_getI (ci := 12) (N := 80) (f := 20) (T := TX12) dX12_knownPlace_23 rfl (hG 112 (17, 80) rfl) rfl (by decide) fl_X12_269 rfl ?_
  refine j_icmp_ge 67 dX12_knownPlace_26 rfl (by decide) (fun c0 => ?_) (fun c0 => ?_)
  · skip
    refine j_aload_n dX12_knownPlace_67 rfl rfl ?_
    refine j_iconst 4 dX12_knownPlace_68 rfl (by decide) ?_
    refine j_iload_n dX12_knownPlace_69 rfl rfl ?_
    refine j_cV (as := [.int 4, .int x1]) (rest := []) dX12_knownPlace_70 rfl vw_X12_314 (hG 112 (17, 80) rfl) rfl ⟨Nat.le_of_ble_eq_true rfl, Nat.le_of_ble_eq_true rfl⟩ rfl rfl (fun _ _ => Nat.le_of_ble_eq_true rfl) (e0 c0) (fun r μ' hr => ?_)
    obtain ⟨rfl, hr⟩ := hr
    refine j_forget (ls' := [.null, .null, .null]) ⟨Or.inl rfl, Or.inl rfl, Or.inl rfl, trivial⟩ ?_
    exact k0 c0 μ' hr
  · skip
    refine j_aload_n dX12_knownPlace_29 rfl rfl ?_
    refine j_getR (ci := 12) (N := 80) (f := 21) (T := TX12) 120 dX12_knownPlace_30 rfl (hG 112 (17, 80) rfl) rfl (by decide) fl_X12_40 rfl (hP 112 21 120 rfl) ?_
    refine j_iload_n dX12_knownPlace_33 rfl rfl ?_
    refine j_lald' (j := (Int32.toNatClampNeg x2)) dX12_knownPlace_34 rfl (hG 120 (3, 15) rfl) (o0 c0) rfl ?_
    refine j_aload_n dX12_knownPlace_35 rfl rfl ?_
    refine j_getR (ci := 12) (N := 80) (f := 8) (T := TX12) 118 dX12_knownPlace_36 rfl (hG 112 (17, 80) rfl) rfl (by decide) fl_X12_30 rfl (hP 112 8 118 rfl) ?_
    refine j_iload_n dX12_knownPlace_39 rfl rfl ?_
    refine j_lald' (j := (Int32.toNatClampNeg x1)) dX12_knownPlace_40 rfl (hG 118 (3, 403) rfl) (o1 c0) rfl ?_
    refine j_lcmp dX12_knownPlace_41 rfl ?_
    refine j_if_ne 61 dX12_knownPlace_42 rfl (by decide) (fun c1 => ?_) (fun c1 => ?_)
    · skip
      refine j_iinc (x2 + 1) (ls' := [.ref 112, .int x1, .int (x2 + 1)]) dX12_knownPlace_61 rfl rfl rfl (Nat.le_of_ble_eq_true rfl) rfl ?_
      refine j_goto 21 dX12_knownPlace_64 (by decide) ?_
      exact k1 c0 c1
    · skip
      refine j_aload_n dX12_knownPlace_45 rfl rfl ?_
      refine j_getR (ci := 12) (N := 80) (f := 22) (T := TX12) 121 dX12_knownPlace_46 rfl (hG 112 (17, 80) rfl) rfl (by decide) fl_X12_43 rfl (hP 112 22 121 rfl) ?_
      refine j_iload_n dX12_knownPlace_49 rfl rfl ?_
      refine j_iald' (j := (Int32.toNatClampNeg x2)) dX12_knownPlace_50 rfl (hG 121 (0, 15) rfl) (o0 c0) rfl ?_
      refine j_if_lt 61 dX12_knownPlace_51 rfl (by decide) (fun c2 => ?_) (fun c2 => ?_)
      · skip
        refine j_iinc (x2 + 1) (ls' := [.ref 112, .int x1, .int (x2 + 1)]) dX12_knownPlace_61 rfl rfl rfl (Nat.le_of_ble_eq_true rfl) rfl ?_
        refine j_goto 21 dX12_knownPlace_64 (by decide) ?_
        exact k2 c0 c1 c2
      · skip
        refine j_aload_n dX12_knownPlace_54 rfl rfl ?_
        refine j_getR (ci := 12) (N := 80) (f := 22) (T := TX12) 121 dX12_knownPlace_55 rfl (hG 112 (17, 80) rfl) rfl (by decide) fl_X12_43 rfl (hP 112 22 121 rfl) ?_
        refine j_iload_n dX12_knownPlace_58 rfl rfl ?_
        refine j_iald' (j := (Int32.toNatClampNeg x2)) dX12_knownPlace_59 rfl (hG 121 (0, 15) rfl) (o0 c0) rfl ?_
        exact j_iret dX12_knownPlace_60 rfl (k3 c0 c1 c2)
theorem b_X12_knownPlace_73 {l : Launch} {G : jG} {μ : jM} {φ : Int32 → jM → Prop} (hG : gMM G) (hP : gNN μ) 
    (k0 : φ (-1) μ) :
    J l mX12_knownPlace (jZ0 3 G (pI φ)) G 0 0 73 [.null, .null, .null] [] μ := by
  refine j_iconst (-1) dX12_knownPlace_73 rfl (by decide) ?_
  exact j_iret dX12_knownPlace_74 rfl (k0 )
theorem b_X12_otherThan_0 {l : Launch} {G : jG} {μ : jM} {φ : Int32 → jM → Prop} {x1 : Int32} {ψ0 : Int32 → jM → Prop} (hG : gMM G) (hP : gNN μ) 
    (e0 : jC0 l mX12_knownPlace 3 G [.ref 112] μ (pI ψ0)) 
    (k0 : ∀ v μ', ψ0 v μ' → J l mX12_otherThan (jZ0 4 G (pI φ)) G 0 0 9 [.ref 112, .int x1, .int (μ.1 112 11), .null] [.int v] μ') :
    J l mX12_otherThan (jZ0 4 G (pI φ)) G 0 0 0 [.ref 112, .int x1, .null, .null] [] μ := by
  refine j_aload_n dX12_otherThan_0 rfl rfl ?_
  refine j_getI (ci := 12) (N := 80) (f := 11) (T := TX12) dX12_otherThan_1 rfl (hG 112 (17, 80) rfl) rfl (by decide) fl_X12_236 rfl ?_
  refine j_istore_n (ls' := [.ref 112, .int x1, .int (μ.1 112 11), .null]) dX12_otherThan_4 rfl rfl (Nat.le_of_ble_eq_true rfl) rfl ?_
  refine j_aload_n dX12_otherThan_5 rfl rfl ?_
  refine j_cV (as := []) (rest := []) dX12_otherThan_6 rfl vw_X12_317 (hG 112 (17, 80) rfl) rfl ⟨Nat.le_of_ble_eq_true rfl, Nat.le_of_ble_eq_true rfl⟩ rfl rfl (fun _ _ => Nat.le_of_ble_eq_true rfl) (e0 ) (fun r μ' hr => ?_)
  obtain ⟨v, rfl, hr⟩ := hr
  exact k0  v μ' hr
theorem b_X12_otherThan_9 {l : Launch} {G : jG} {μ : jM} {φ : Int32 → jM → Prop} {x1 x2 z0 : Int32} {ψ3 : jM → Prop} (hG : gMM G) (hP : gNN μ) 
    (k0 : (¬ (μ.1 112 13) = (0 : Int32)) → φ z0 μ) 
    (k1 : ((μ.1 112 13) = (0 : Int32)) → (z0 < (0 : Int32)) → φ z0 μ) 
    (k2 : ((μ.1 112 13) = (0 : Int32)) → (¬ (z0 < (0 : Int32))) → (¬ z0 = (x1 : Int32)) → φ z0 μ) 
    (e3 : ((μ.1 112 13) = (0 : Int32)) → (¬ (z0 < (0 : Int32))) → (z0 = (x1 : Int32)) → jC0 l mX12_wrong 0 G [.ref 112, .int 3, .int x2] μ (pV ψ3)) 
    (k3 : ((μ.1 112 13) = (0 : Int32)) → (¬ (z0 < (0 : Int32))) → (z0 = (x1 : Int32)) → ∀ μ', ψ3 μ' → J l mX12_otherThan (jZ0 4 G (pI φ)) G 0 0 32 [.null, .null, .null, .int z0] [] μ') :
    J l mX12_otherThan (jZ0 4 G (pI φ)) G 0 0 9 [.ref 112, .int x1, .int x2, .null] [.int z0] μ := by
  refine j_istore_n (ls' := [.ref 112, .int x1, .int x2, .int z0]) dX12_otherThan_9 rfl rfl (Nat.le_of_ble_eq_true rfl) rfl ?_
  refine j_aload_n dX12_otherThan_10 rfl rfl ?_
  refine j_getI (ci := 12) (N := 80) (f := 13) (T := TX12) dX12_otherThan_11 rfl (hG 112 (17, 80) rfl) rfl (by decide) fl_X12_233 rfl ?_
  refine j_if_ne 32 dX12_otherThan_14 rfl (by decide) (fun c0 => ?_) (fun c0 => ?_)
  · skip
    refine j_iload_n dX12_otherThan_32 rfl rfl ?_
    exact j_iret dX12_otherThan_33 rfl (k0 c0)
  · skip
    refine j_iload_n dX12_otherThan_17 rfl rfl ?_
    refine j_if_lt 32 dX12_otherThan_18 rfl (by decide) (fun c1 => ?_) (fun c1 => ?_)
    · skip
      refine j_iload_n dX12_otherThan_32 rfl rfl ?_
      exact j_iret dX12_otherThan_33 rfl (k1 c0 c1)
    · skip
      refine j_iload_n dX12_otherThan_21 rfl rfl ?_
      refine j_iload_n dX12_otherThan_22 rfl rfl ?_
      refine j_icmp_ne 32 dX12_otherThan_23 rfl (by decide) (fun c2 => ?_) (fun c2 => ?_)
      · skip
        refine j_iload_n dX12_otherThan_32 rfl rfl ?_
        exact j_iret dX12_otherThan_33 rfl (k2 c0 c1 c2)
      · skip
        refine j_aload_n dX12_otherThan_26 rfl rfl ?_
        refine j_iconst 3 dX12_otherThan_27 rfl (by decide) ?_
        refine j_iload_n dX12_otherThan_28 rfl rfl ?_
        refine j_cV (as := [.int 3, .int x2]) (rest := []) dX12_otherThan_29 rfl vw_X12_314 (hG 112 (17, 80) rfl) rfl ⟨Nat.le_of_ble_eq_true rfl, Nat.le_of_ble_eq_true rfl⟩ rfl rfl (fun _ _ => Nat.le_of_ble_eq_true rfl) (e3 c0 c1 c2) (fun r μ' hr => ?_)
        obtain ⟨rfl, hr⟩ := hr
        refine j_forget (ls' := [.null, .null, .null, .int z0]) ⟨Or.inl rfl, Or.inl rfl, Or.inl rfl, Or.inr rfl, trivial⟩ ?_
        exact k3 c0 c1 c2 μ' hr
theorem b_X12_otherThan_32 {l : Launch} {G : jG} {μ : jM} {φ : Int32 → jM → Prop} {x3 : Int32} (hG : gMM G) (hP : gNN μ) 
    (k0 : φ x3 μ) :
    J l mX12_otherThan (jZ0 4 G (pI φ)) G 0 0 32 [.null, .null, .null, .int x3] [] μ := by
  refine j_iload_n dX12_otherThan_32 rfl rfl ?_
  exact j_iret dX12_otherThan_33 rfl (k0 )
theorem b_X12_bounded_0 {l : Launch} {G : jG} {μ : jM} {φ : Int32 → jM → Prop} {x1 x2 : Int32} {ψ0 : jM → Prop} {ψ1 : Int32 → jM → Prop} (hG : gMM G) (hP : gNN μ) 
    (e0 : (0 < ((μ.1 112 13) : Int32)) → jC0 l mX12_fail 0 G [.ref 112, .int 1] μ (pV ψ0)) 
    (k0 : (0 < ((μ.1 112 13) : Int32)) → ∀ μ', ψ0 μ' → J l mX12_bounded (jZ0 2 G (pI φ)) G 0 0 20 [.null, .int x1, .null, .null] [] μ') 
    (e1 : (¬ (0 < ((μ.1 112 13) : Int32))) → jC0 l mX12_is 0 G [.ref 112, .int 2] μ (pI ψ1)) 
    (k1 : (¬ (0 < ((μ.1 112 13) : Int32))) → ∀ v μ', ψ1 v μ' → J l mX12_bounded (jZ0 2 G (pI φ)) G 0 0 12 [.ref 112, .int x1, .int x2, .null] [.int v] μ') :
    J l mX12_bounded (jZ0 2 G (pI φ)) G 0 0 0 [.ref 112, .int x1, .int x2, .null] [] μ := by
  refine j_aload_n dX12_bounded_0 rfl rfl ?_
  refine j_getI (ci := 12) (N := 80) (f := 13) (T := TX12) dX12_bounded_1 rfl (hG 112 (17, 80) rfl) rfl (by decide) fl_X12_233 rfl ?_
  refine j_if_gt 15 dX12_bounded_4 rfl (by decide) (fun c0 => ?_) (fun c0 => ?_)
  · skip
    refine j_aload_n dX12_bounded_15 rfl rfl ?_
    refine j_iconst 1 dX12_bounded_16 rfl (by decide) ?_
    refine j_cV (as := [.int 1]) (rest := []) dX12_bounded_17 rfl vw_X12_248 (hG 112 (17, 80) rfl) rfl ⟨Nat.le_of_ble_eq_true rfl, Nat.le_of_ble_eq_true rfl⟩ rfl rfl (fun _ _ => Nat.le_of_ble_eq_true rfl) (e0 c0) (fun r μ' hr => ?_)
    obtain ⟨rfl, hr⟩ := hr
    refine j_forget (ls' := [.null, .int x1, .null, .null]) ⟨Or.inl rfl, Or.inr rfl, Or.inl rfl, Or.inr rfl, trivial⟩ ?_
    exact k0 c0 μ' hr
  · skip
    refine j_aload_n dX12_bounded_7 rfl rfl ?_
    refine j_iconst 2 dX12_bounded_8 rfl (by decide) ?_
    refine j_cV (as := [.int 2]) (rest := []) dX12_bounded_9 rfl vw_X12_251 (hG 112 (17, 80) rfl) rfl ⟨Nat.le_of_ble_eq_true rfl, Nat.le_of_ble_eq_true rfl⟩ rfl rfl (fun _ _ => Nat.le_of_ble_eq_true rfl) (e1 c0) (fun r μ' hr => ?_)
    obtain ⟨v, rfl, hr⟩ := hr
    exact k1 c0 v μ' hr
theorem b_X12_bounded_12 {l : Launch} {G : jG} {μ : jM} {φ : Int32 → jM → Prop} {x1 x2 z0 : Int32} {ψ0 : jM → Prop} {ψ1 : jM → Prop} {ψ2 : jM → Prop} {ψ3 : jM → Prop} (hG : gMM G) (hP : gNN μ) 
    (o0 : (¬ z0 = (0 : Int32)) → vp_in (μ.1 112 11) 403) 
    (e0 : (¬ z0 = (0 : Int32)) → ((μ.1 117 (Int32.toNatClampNeg (μ.1 112 11))) < (x1 : Int32)) → jC0 l mX12_wrong 0 G [.ref 112, .int 5, .int (μ.1 112 11)] μ (pV ψ0)) 
    (k0 : (¬ z0 = (0 : Int32)) → ((μ.1 117 (Int32.toNatClampNeg (μ.1 112 11))) < (x1 : Int32)) → ∀ μ', ψ0 μ' → J l mX12_bounded (jZ0 2 G (pI φ)) G 0 0 51 [.ref 112, .null, .null, .int (μ.1 117 (Int32.toNatClampNeg (μ.1 112 11)))] [] μ') 
    (e1 : (¬ z0 = (0 : Int32)) → (¬ ((μ.1 117 (Int32.toNatClampNeg (μ.1 112 11))) < (x1 : Int32))) → ((μ.1 117 (Int32.toNatClampNeg (μ.1 112 11))) ≤ (x2 : Int32)) → jC0 l mX12_goesOn 1 G [.ref 112] μ (pV ψ1)) 
    (k1 : (¬ z0 = (0 : Int32)) → (¬ ((μ.1 117 (Int32.toNatClampNeg (μ.1 112 11))) < (x1 : Int32))) → ((μ.1 117 (Int32.toNatClampNeg (μ.1 112 11))) ≤ (x2 : Int32)) → ∀ μ', ψ1 μ' → J l mX12_bounded (jZ0 2 G (pI φ)) G 0 0 55 [.null, .null, .null, .int (μ.1 117 (Int32.toNatClampNeg (μ.1 112 11)))] [] μ') 
    (e2 : (¬ z0 = (0 : Int32)) → (¬ ((μ.1 117 (Int32.toNatClampNeg (μ.1 112 11))) < (x1 : Int32))) → (¬ ((μ.1 117 (Int32.toNatClampNeg (μ.1 112 11))) ≤ (x2 : Int32))) → jC0 l mX12_wrong 0 G [.ref 112, .int 5, .int (μ.1 112 11)] μ (pV ψ2)) 
    (k2 : (¬ z0 = (0 : Int32)) → (¬ ((μ.1 117 (Int32.toNatClampNeg (μ.1 112 11))) < (x1 : Int32))) → (¬ ((μ.1 117 (Int32.toNatClampNeg (μ.1 112 11))) ≤ (x2 : Int32))) → ∀ μ', ψ2 μ' → J l mX12_bounded (jZ0 2 G (pI φ)) G 0 0 51 [.ref 112, .null, .null, .int (μ.1 117 (Int32.toNatClampNeg (μ.1 112 11)))] [] μ') 
    (e3 : (z0 = (0 : Int32)) → jC0 l mX12_fail 0 G [.ref 112, .int 1] μ (pV ψ3)) 
    (k3 : (z0 = (0 : Int32)) → ∀ μ', ψ3 μ' → J l mX12_bounded (jZ0 2 G (pI φ)) G 0 0 20 [.null, .int x1, .null, .null] [] μ') :
    J l mX12_bounded (jZ0 2 G (pI φ)) G 0 0 12 [.ref 112, .int x1, .int x2, .null] [.int z0] μ := by
  refine j_if_ne 22 dX12_bounded_12 rfl (by decide) (fun c0 => ?_) (fun c0 => ?_)
  · skip
    refine j_aload_n dX12_bounded_22 rfl rfl ?_
    refine j_getR (ci := 12) (N := 80) (f := 7) (T := TX12) 117 dX12_bounded_23 rfl (hG 112 (17, 80) rfl) rfl (by decide) fl_X12_27 rfl (hP 112 7 117 rfl) ?_
    refine j_aload_n dX12_bounded_26 rfl rfl ?_
    refine j_getI (ci := 12) (N := 80) (f := 11) (T := TX12) dX12_bounded_27 rfl (hG 112 (17, 80) rfl) rfl (by decide) fl_X12_236 rfl ?_
    refine j_iald' (j := (Int32.toNatClampNeg (μ.1 112 11))) dX12_bounded_30 rfl (hG 117 (0, 403) rfl) (o0 c0) rfl ?_
    refine j_istore_n (ls' := [.ref 112, .int x1, .int x2, .int (μ.1 117 (Int32.toNatClampNeg (μ.1 112 11)))]) dX12_bounded_31 rfl rfl (Nat.le_of_ble_eq_true rfl) rfl ?_
    refine j_iload_n dX12_bounded_32 rfl rfl ?_
    refine j_iload_n dX12_bounded_33 rfl rfl ?_
    refine j_icmp_lt 42 dX12_bounded_34 rfl (by decide) (fun c1 => ?_) (fun c1 => ?_)
    · skip
      refine j_aload_n dX12_bounded_42 rfl rfl ?_
      refine j_iconst 5 dX12_bounded_43 rfl (by decide) ?_
      refine j_aload_n dX12_bounded_44 rfl rfl ?_
      refine j_getI (ci := 12) (N := 80) (f := 11) (T := TX12) dX12_bounded_45 rfl (hG 112 (17, 80) rfl) rfl (by decide) fl_X12_236 rfl ?_
      refine j_cV (as := [.int 5, .int (μ.1 112 11)]) (rest := []) dX12_bounded_48 rfl vw_X12_314 (hG 112 (17, 80) rfl) rfl ⟨Nat.le_of_ble_eq_true rfl, Nat.le_of_ble_eq_true rfl⟩ rfl rfl (fun _ _ => Nat.le_of_ble_eq_true rfl) (e0 c0 c1) (fun r μ' hr => ?_)
      obtain ⟨rfl, hr⟩ := hr
      refine j_forget (ls' := [.ref 112, .null, .null, .int (μ.1 117 (Int32.toNatClampNeg (μ.1 112 11)))]) ⟨Or.inr rfl, Or.inl rfl, Or.inl rfl, Or.inr rfl, trivial⟩ ?_
      exact k0 c0 c1 μ' hr
    · skip
      refine j_iload_n dX12_bounded_37 rfl rfl ?_
      refine j_iload_n dX12_bounded_38 rfl rfl ?_
      refine j_icmp_le 51 dX12_bounded_39 rfl (by decide) (fun c2 => ?_) (fun c2 => ?_)
      · skip
        refine j_aload_n dX12_bounded_51 rfl rfl ?_
        refine j_cV (as := []) (rest := []) dX12_bounded_52 rfl vw_X12_254 (hG 112 (17, 80) rfl) rfl ⟨Nat.le_of_ble_eq_true rfl, Nat.le_of_ble_eq_true rfl⟩ rfl rfl (fun _ _ => Nat.le_of_ble_eq_true rfl) (e1 c0 c1 c2) (fun r μ' hr => ?_)
        obtain ⟨rfl, hr⟩ := hr
        refine j_forget (ls' := [.null, .null, .null, .int (μ.1 117 (Int32.toNatClampNeg (μ.1 112 11)))]) ⟨Or.inl rfl, Or.inl rfl, Or.inl rfl, Or.inr rfl, trivial⟩ ?_
        exact k1 c0 c1 c2 μ' hr
      · skip
        refine j_aload_n dX12_bounded_42 rfl rfl ?_
        refine j_iconst 5 dX12_bounded_43 rfl (by decide) ?_
        refine j_aload_n dX12_bounded_44 rfl rfl ?_
        refine j_getI (ci := 12) (N := 80) (f := 11) (T := TX12) dX12_bounded_45 rfl (hG 112 (17, 80) rfl) rfl (by decide) fl_X12_236 rfl ?_
        refine j_cV (as := [.int 5, .int (μ.1 112 11)]) (rest := []) dX12_bounded_48 rfl vw_X12_314 (hG 112 (17, 80) rfl) rfl ⟨Nat.le_of_ble_eq_true rfl, Nat.le_of_ble_eq_true rfl⟩ rfl rfl (fun _ _ => Nat.le_of_ble_eq_true rfl) (e2 c0 c1 c2) (fun r μ' hr => ?_)
        obtain ⟨rfl, hr⟩ := hr
        refine j_forget (ls' := [.ref 112, .null, .null, .int (μ.1 117 (Int32.toNatClampNeg (μ.1 112 11)))]) ⟨Or.inr rfl, Or.inl rfl, Or.inl rfl, Or.inr rfl, trivial⟩ ?_
        exact k2 c0 c1 c2 μ' hr
  · skip
    refine j_aload_n dX12_bounded_15 rfl rfl ?_
    refine j_iconst 1 dX12_bounded_16 rfl (by decide) ?_
    refine j_cV (as := [.int 1]) (rest := []) dX12_bounded_17 rfl vw_X12_248 (hG 112 (17, 80) rfl) rfl ⟨Nat.le_of_ble_eq_true rfl, Nat.le_of_ble_eq_true rfl⟩ rfl rfl (fun _ _ => Nat.le_of_ble_eq_true rfl) (e3 c0) (fun r μ' hr => ?_)
    obtain ⟨rfl, hr⟩ := hr
    refine j_forget (ls' := [.null, .int x1, .null, .null]) ⟨Or.inl rfl, Or.inr rfl, Or.inl rfl, Or.inr rfl, trivial⟩ ?_
    exact k3 c0 μ' hr
theorem b_X12_bounded_20 {l : Launch} {G : jG} {μ : jM} {φ : Int32 → jM → Prop} {x1 : Int32} (hG : gMM G) (hP : gNN μ) 
    (k0 : φ x1 μ) :
    J l mX12_bounded (jZ0 2 G (pI φ)) G 0 0 20 [.null, .int x1, .null, .null] [] μ := by
  refine j_iload_n dX12_bounded_20 rfl rfl ?_
  exact j_iret dX12_bounded_21 rfl (k0 )
theorem b_X12_bounded_51 {l : Launch} {G : jG} {μ : jM} {φ : Int32 → jM → Prop} {x3 : Int32} {ψ0 : jM → Prop} (hG : gMM G) (hP : gNN μ) 
    (e0 : jC0 l mX12_goesOn 1 G [.ref 112] μ (pV ψ0)) 
    (k0 : ∀ μ', ψ0 μ' → J l mX12_bounded (jZ0 2 G (pI φ)) G 0 0 55 [.null, .null, .null, .int x3] [] μ') :
    J l mX12_bounded (jZ0 2 G (pI φ)) G 0 0 51 [.ref 112, .null, .null, .int x3] [] μ := by
  refine j_aload_n dX12_bounded_51 rfl rfl ?_
  refine j_cV (as := []) (rest := []) dX12_bounded_52 rfl vw_X12_254 (hG 112 (17, 80) rfl) rfl ⟨Nat.le_of_ble_eq_true rfl, Nat.le_of_ble_eq_true rfl⟩ rfl rfl (fun _ _ => Nat.le_of_ble_eq_true rfl) (e0 ) (fun r μ' hr => ?_)
  obtain ⟨rfl, hr⟩ := hr
  refine j_forget (ls' := [.null, .null, .null, .int x3]) ⟨Or.inl rfl, Or.inr rfl, Or.inr rfl, Or.inr rfl, trivial⟩ ?_
  exact k0  μ' hr
theorem b_X12_bounded_55 {l : Launch} {G : jG} {μ : jM} {φ : Int32 → jM → Prop} {x3 : Int32} (hG : gMM G) (hP : gNN μ) 
    (k0 : φ x3 μ) :
    J l mX12_bounded (jZ0 2 G (pI φ)) G 0 0 55 [.null, .null, .null, .int x3] [] μ := by
  refine j_iload_n dX12_bounded_55 rfl rfl ?_
  exact j_iret dX12_bounded_56 rfl (k0 )
theorem b_X12_isTold_0 {l : Launch} {G : jG} {μ : jM} {φ : Int32 → jM → Prop} {x1 : Int32} {ψ1 : jM → Prop} {ψ2 : Int32 → jM → Prop} (hG : gMM G) (hP : gNN μ) 
    (k0 : (¬ (μ.1 112 13) = (0 : Int32)) → (0 = (0 : Int32)) → φ 0 μ) 
    (e1 : (¬ (μ.1 112 13) = (0 : Int32)) → (¬ (0 = (0 : Int32))) → jC0 l mX12_goesOn 1 G [.ref 112] μ (pV ψ1)) 
    (k1 : (¬ (μ.1 112 13) = (0 : Int32)) → (¬ (0 = (0 : Int32))) → ∀ μ', ψ1 μ' → J l mX12_isTold (jZ0 2 G (pI φ)) G 0 0 29 [.null, .null, .int 0] [] μ') 
    (e2 : ((μ.1 112 13) = (0 : Int32)) → jC0 l mX12_is 0 G [.ref 112, .int x1] μ (pI ψ2)) 
    (k2 : ((μ.1 112 13) = (0 : Int32)) → ∀ v μ', ψ2 v μ' → J l mX12_isTold (jZ0 2 G (pI φ)) G 0 0 12 [.ref 112, .null, .null] [.int v] μ') :
    J l mX12_isTold (jZ0 2 G (pI φ)) G 0 0 0 [.ref 112, .int x1, .null] [] μ := by
  refine j_aload_n dX12_isTold_0 rfl rfl ?_
  refine j_getI (ci := 12) (N := 80) (f := 13) (T := TX12) dX12_isTold_1 rfl (hG 112 (17, 80) rfl) rfl (by decide) fl_X12_233 rfl ?_
  refine j_if_ne 19 dX12_isTold_4 rfl (by decide) (fun c0 => ?_) (fun c0 => ?_)
  · skip
    refine j_iconst 0 dX12_isTold_19 rfl (by decide) ?_
    refine j_istore_n (ls' := [.ref 112, .int x1, .int 0]) dX12_isTold_20 rfl rfl (Nat.le_of_ble_eq_true rfl) rfl ?_
    refine j_iload_n dX12_isTold_21 rfl rfl ?_
    refine j_if_eq 29 dX12_isTold_22 rfl (by decide) (fun c1 => ?_) (fun c1 => ?_)
    · skip
      refine j_iload_n dX12_isTold_29 rfl rfl ?_
      exact j_zret dX12_isTold_30 rfl (by decide) (k0 c0 c1)
    · skip
      refine j_aload_n dX12_isTold_25 rfl rfl ?_
      refine j_cV (as := []) (rest := []) dX12_isTold_26 rfl vw_X12_254 (hG 112 (17, 80) rfl) rfl ⟨Nat.le_of_ble_eq_true rfl, Nat.le_of_ble_eq_true rfl⟩ rfl rfl (fun _ _ => Nat.le_of_ble_eq_true rfl) (e1 c0 c1) (fun r μ' hr => ?_)
      obtain ⟨rfl, hr⟩ := hr
      refine j_forget (ls' := [.null, .null, .int 0]) ⟨Or.inl rfl, Or.inl rfl, Or.inr rfl, trivial⟩ ?_
      exact k1 c0 c1 μ' hr
  · skip
    refine j_aload_n dX12_isTold_7 rfl rfl ?_
    refine j_iload_n dX12_isTold_8 rfl rfl ?_
    refine j_cV (as := [.int x1]) (rest := []) dX12_isTold_9 rfl vw_X12_251 (hG 112 (17, 80) rfl) rfl ⟨Nat.le_of_ble_eq_true rfl, Nat.le_of_ble_eq_true rfl⟩ rfl rfl (fun _ _ => Nat.le_of_ble_eq_true rfl) (e2 c0) (fun r μ' hr => ?_)
    obtain ⟨v, rfl, hr⟩ := hr
    refine j_forget (ls' := [.ref 112, .null, .null]) ⟨Or.inr rfl, Or.inl rfl, Or.inr rfl, trivial⟩ ?_
    exact k2 c0 v μ' hr
theorem b_X12_isTold_12 {l : Launch} {G : jG} {μ : jM} {φ : Int32 → jM → Prop} {z0 : Int32} {ψ1 : jM → Prop} {ψ3 : jM → Prop} (hG : gMM G) (hP : gNN μ) 
    (k0 : (z0 = (0 : Int32)) → (0 = (0 : Int32)) → φ 0 μ) 
    (e1 : (z0 = (0 : Int32)) → (¬ (0 = (0 : Int32))) → jC0 l mX12_goesOn 1 G [.ref 112] μ (pV ψ1)) 
    (k1 : (z0 = (0 : Int32)) → (¬ (0 = (0 : Int32))) → ∀ μ', ψ1 μ' → J l mX12_isTold (jZ0 2 G (pI φ)) G 0 0 29 [.null, .null, .int 0] [] μ') 
    (k2 : (¬ (z0 = (0 : Int32))) → (1 = (0 : Int32)) → φ 1 μ) 
    (e3 : (¬ (z0 = (0 : Int32))) → (¬ (1 = (0 : Int32))) → jC0 l mX12_goesOn 1 G [.ref 112] μ (pV ψ3)) 
    (k3 : (¬ (z0 = (0 : Int32))) → (¬ (1 = (0 : Int32))) → ∀ μ', ψ3 μ' → J l mX12_isTold (jZ0 2 G (pI φ)) G 0 0 29 [.null, .null, .int 1] [] μ') :
    J l mX12_isTold (jZ0 2 G (pI φ)) G 0 0 12 [.ref 112, .null, .null] [.int z0] μ := by
  refine j_if_eq 19 dX12_isTold_12 rfl (by decide) (fun c0 => ?_) (fun c0 => ?_)
  · skip
    refine j_iconst 0 dX12_isTold_19 rfl (by decide) ?_
    refine j_istore_n (ls' := [.ref 112, .null, .int 0]) dX12_isTold_20 rfl rfl (Nat.le_of_ble_eq_true rfl) rfl ?_
    refine j_iload_n dX12_isTold_21 rfl rfl ?_
    refine j_if_eq 29 dX12_isTold_22 rfl (by decide) (fun c1 => ?_) (fun c1 => ?_)
    · skip
      refine j_iload_n dX12_isTold_29 rfl rfl ?_
      exact j_zret dX12_isTold_30 rfl (by decide) (k0 c0 c1)
    · skip
      refine j_aload_n dX12_isTold_25 rfl rfl ?_
      refine j_cV (as := []) (rest := []) dX12_isTold_26 rfl vw_X12_254 (hG 112 (17, 80) rfl) rfl ⟨Nat.le_of_ble_eq_true rfl, Nat.le_of_ble_eq_true rfl⟩ rfl rfl (fun _ _ => Nat.le_of_ble_eq_true rfl) (e1 c0 c1) (fun r μ' hr => ?_)
      obtain ⟨rfl, hr⟩ := hr
      refine j_forget (ls' := [.null, .null, .int 0]) ⟨Or.inl rfl, Or.inr rfl, Or.inr rfl, trivial⟩ ?_
      exact k1 c0 c1 μ' hr
  · skip
    refine j_iconst 1 dX12_isTold_15 rfl (by decide) ?_
    refine j_goto 20 dX12_isTold_16 (by decide) ?_
    refine j_istore_n (ls' := [.ref 112, .null, .int 1]) dX12_isTold_20 rfl rfl (Nat.le_of_ble_eq_true rfl) rfl ?_
    refine j_iload_n dX12_isTold_21 rfl rfl ?_
    refine j_if_eq 29 dX12_isTold_22 rfl (by decide) (fun c2 => ?_) (fun c2 => ?_)
    · skip
      refine j_iload_n dX12_isTold_29 rfl rfl ?_
      exact j_zret dX12_isTold_30 rfl (by decide) (k2 c0 c2)
    · skip
      refine j_aload_n dX12_isTold_25 rfl rfl ?_
      refine j_cV (as := []) (rest := []) dX12_isTold_26 rfl vw_X12_254 (hG 112 (17, 80) rfl) rfl ⟨Nat.le_of_ble_eq_true rfl, Nat.le_of_ble_eq_true rfl⟩ rfl rfl (fun _ _ => Nat.le_of_ble_eq_true rfl) (e3 c0 c2) (fun r μ' hr => ?_)
      obtain ⟨rfl, hr⟩ := hr
      refine j_forget (ls' := [.null, .null, .int 1]) ⟨Or.inl rfl, Or.inr rfl, Or.inr rfl, trivial⟩ ?_
      exact k3 c0 c2 μ' hr
theorem b_X12_isTold_29 {l : Launch} {G : jG} {μ : jM} {φ : Int32 → jM → Prop} {x2 : Int32} (hG : gMM G) (hP : gNN μ) 
    (k0 : φ x2 μ) 
    (o0 : x2 = (0 : Int32) ∨ x2 = (1 : Int32)) :
    J l mX12_isTold (jZ0 2 G (pI φ)) G 0 0 29 [.null, .null, .int x2] [] μ := by
  refine j_iload_n dX12_isTold_29 rfl rfl ?_
  exact j_zret dX12_isTold_30 rfl o0 (k0 )
theorem b_X12_tellRoad_0 {l : Launch} {G : jG} {μ : jM} {φ : jM → Prop} {ψ0 : Int32 → jM → Prop} (hG : gMM G) (hP : gNN μ) 
    (o0 : vp_in (μ.1 112 19) 2) 
    (e0 : jC0 l mX12_knownPlace 3 G [.ref 112] μ (pI ψ0)) 
    (k0 : ∀ v μ', ψ0 v μ' → J l mX12_tellRoad (jZ0 5 G (pV φ)) G 0 0 27 [.ref 112, .int ((12 * (μ.1 112 19)) + (μ.1 123 (Int32.toNatClampNeg (μ.1 112 19)))), .null] [.int v, .int ((12 * (μ.1 112 19)) + (μ.1 123 (Int32.toNatClampNeg (μ.1 112 19)))), .ref 124] μ') :
    J l mX12_tellRoad (jZ0 5 G (pV φ)) G 0 0 0 [.ref 112, .null, .null] [] μ := by
  refine j_bipush 12 dX12_tellRoad_0 rfl (by decide) ?_
  refine j_aload_n dX12_tellRoad_2 rfl rfl ?_
  refine j_getI (ci := 12) (N := 80) (f := 19) (T := TX12) dX12_tellRoad_3 rfl (hG 112 (17, 80) rfl) rfl (by decide) fl_X12_266 rfl ?_
  refine j_imul dX12_tellRoad_6 rfl ?_
  refine j_aload_n dX12_tellRoad_7 rfl rfl ?_
  refine j_getR (ci := 12) (N := 80) (f := 24) (T := TX12) 123 dX12_tellRoad_8 rfl (hG 112 (17, 80) rfl) rfl (by decide) fl_X12_49 rfl (hP 112 24 123 rfl) ?_
  refine j_aload_n dX12_tellRoad_11 rfl rfl ?_
  refine j_getI (ci := 12) (N := 80) (f := 19) (T := TX12) dX12_tellRoad_12 rfl (hG 112 (17, 80) rfl) rfl (by decide) fl_X12_266 rfl ?_
  refine j_iald' (j := (Int32.toNatClampNeg (μ.1 112 19))) dX12_tellRoad_15 rfl (hG 123 (0, 2) rfl) o0 rfl ?_
  refine j_iadd dX12_tellRoad_16 rfl ?_
  refine j_istore_n (ls' := [.ref 112, .int ((12 * (μ.1 112 19)) + (μ.1 123 (Int32.toNatClampNeg (μ.1 112 19)))), .null]) dX12_tellRoad_17 rfl rfl (Nat.le_of_ble_eq_true rfl) rfl ?_
  refine j_aload_n dX12_tellRoad_18 rfl rfl ?_
  refine j_getR (ci := 12) (N := 80) (f := 25) (T := TX12) 124 dX12_tellRoad_19 rfl (hG 112 (17, 80) rfl) rfl (by decide) fl_X12_52 rfl (hP 112 25 124 rfl) ?_
  refine j_iload_n dX12_tellRoad_22 rfl rfl ?_
  refine j_aload_n dX12_tellRoad_23 rfl rfl ?_
  refine j_cV (as := []) (rest := [.int ((12 * (μ.1 112 19)) + (μ.1 123 (Int32.toNatClampNeg (μ.1 112 19)))), .ref 124]) dX12_tellRoad_24 rfl vw_X12_317 (hG 112 (17, 80) rfl) rfl ⟨Nat.le_of_ble_eq_true rfl, Nat.le_of_ble_eq_true rfl⟩ rfl rfl (fun _ _ => Nat.le_of_ble_eq_true rfl) (e0 ) (fun r μ' hr => ?_)
  obtain ⟨v, rfl, hr⟩ := hr
  exact k0  v μ' hr
theorem b_X12_tellRoad_27 {l : Launch} {G : jG} {μ : jM} {φ : jM → Prop} {x1 z0 z1 : Int32} {ψ0 : Int32 → jM → Prop} (hG : gMM G) (hP : gNN μ) 
    (o0 : vp_in z1 24) 
    (o1 : vp_in x1 24) 
    (e0 : jC0 l mX12_otherThan 4 G [.ref 112, .int ((wI μ 124 (Int32.toNatClampNeg z1) z0).1 124 (Int32.toNatClampNeg x1))] (wI μ 124 (Int32.toNatClampNeg z1) z0) (pI ψ0)) 
    (k0 : ∀ v μ', ψ0 v μ' → J l mX12_tellRoad (jZ0 5 G (pV φ)) G 0 0 43 [.ref 112, .int x1, .null] [.int v, .int x1, .ref 125] μ') :
    J l mX12_tellRoad (jZ0 5 G (pV φ)) G 0 0 27 [.ref 112, .int x1, .null] [.int z0, .int z1, .ref 124] μ := by
  refine j_iast' (j := (Int32.toNatClampNeg z1)) dX12_tellRoad_27 rfl (hG 124 (0, 24) rfl) o0 rfl ?_
  refine j_aload_n dX12_tellRoad_28 rfl rfl ?_
  refine j_getR (ci := 12) (N := 80) (f := 26) (T := TX12) 125 dX12_tellRoad_29 rfl (hG 112 (17, 80) rfl) rfl (by decide) fl_X12_55 rfl (hP 112 26 125 rfl) ?_
  refine j_iload_n dX12_tellRoad_32 rfl rfl ?_
  refine j_aload_n dX12_tellRoad_33 rfl rfl ?_
  refine j_aload_n dX12_tellRoad_34 rfl rfl ?_
  refine j_getR (ci := 12) (N := 80) (f := 25) (T := TX12) 124 dX12_tellRoad_35 rfl (hG 112 (17, 80) rfl) rfl (by decide) fl_X12_52 rfl (hP 112 25 124 rfl) ?_
  refine j_iload_n dX12_tellRoad_38 rfl rfl ?_
  refine j_iald' (j := (Int32.toNatClampNeg x1)) dX12_tellRoad_39 rfl (hG 124 (0, 24) rfl) o1 rfl ?_
  refine j_cV (as := [.int ((wI μ 124 (Int32.toNatClampNeg z1) z0).1 124 (Int32.toNatClampNeg x1))]) (rest := [.int x1, .ref 125]) dX12_tellRoad_40 rfl vw_X12_320 (hG 112 (17, 80) rfl) rfl ⟨Nat.le_of_ble_eq_true rfl, Nat.le_of_ble_eq_true rfl⟩ rfl rfl (fun _ _ => Nat.le_of_ble_eq_true rfl) (e0 ) (fun r μ' hr => ?_)
  obtain ⟨v, rfl, hr⟩ := hr
  exact k0  v μ' hr
theorem b_X12_tellRoad_43 {l : Launch} {G : jG} {μ : jM} {φ : jM → Prop} {x1 z0 z1 : Int32} {ψ0 : Int32 → jM → Prop} (hG : gMM G) (hP : gNN μ) 
    (o0 : vp_in z1 24) 
    (e0 : jC0 l mX12_bounded 2 G [.ref 112, .int 1, .int 9] (wI μ 125 (Int32.toNatClampNeg z1) z0) (pI ψ0)) 
    (k0 : ∀ v μ', ψ0 v μ' → J l mX12_tellRoad (jZ0 5 G (pV φ)) G 0 0 56 [.ref 112, .int x1, .null] [.int v, .int x1, .ref 126] μ') :
    J l mX12_tellRoad (jZ0 5 G (pV φ)) G 0 0 43 [.ref 112, .int x1, .null] [.int z0, .int z1, .ref 125] μ := by
  refine j_iast' (j := (Int32.toNatClampNeg z1)) dX12_tellRoad_43 rfl (hG 125 (0, 24) rfl) o0 rfl ?_
  refine j_aload_n dX12_tellRoad_44 rfl rfl ?_
  refine j_getR (ci := 12) (N := 80) (f := 27) (T := TX12) 126 dX12_tellRoad_45 rfl (hG 112 (17, 80) rfl) rfl (by decide) fl_X12_58 rfl (hP 112 27 126 rfl) ?_
  refine j_iload_n dX12_tellRoad_48 rfl rfl ?_
  refine j_aload_n dX12_tellRoad_49 rfl rfl ?_
  refine j_iconst 1 dX12_tellRoad_50 rfl (by decide) ?_
  refine j_bipush 9 dX12_tellRoad_51 rfl (by decide) ?_
  refine j_cV (as := [.int 1, .int 9]) (rest := [.int x1, .ref 126]) dX12_tellRoad_53 rfl vw_X12_304 (hG 112 (17, 80) rfl) rfl ⟨Nat.le_of_ble_eq_true rfl, Nat.le_of_ble_eq_true rfl⟩ rfl rfl (fun _ _ => Nat.le_of_ble_eq_true rfl) (e0 ) (fun r μ' hr => ?_)
  obtain ⟨v, rfl, hr⟩ := hr
  exact k0  v μ' hr
theorem b_X12_tellRoad_56 {l : Launch} {G : jG} {μ : jM} {φ : jM → Prop} {x1 z0 z1 : Int32} {ψ0 : Int32 → jM → Prop} (hG : gMM G) (hP : gNN μ) 
    (o0 : vp_in z1 24) 
    (e0 : jC0 l mX12_isTold 2 G [.ref 112, .int 22] (wI μ 126 (Int32.toNatClampNeg z1) z0) (pI ψ0)) 
    (k0 : ∀ v μ', ψ0 v μ' → J l mX12_tellRoad (jZ0 5 G (pV φ)) G 0 0 68 [.ref 112, .null, .null] [.int v, .int x1, .ref 127] μ') :
    J l mX12_tellRoad (jZ0 5 G (pV φ)) G 0 0 56 [.ref 112, .int x1, .null] [.int z0, .int z1, .ref 126] μ := by
  refine j_iast' (j := (Int32.toNatClampNeg z1)) dX12_tellRoad_56 rfl (hG 126 (0, 24) rfl) o0 rfl ?_
  refine j_aload_n dX12_tellRoad_57 rfl rfl ?_
  refine j_getR (ci := 12) (N := 80) (f := 28) (T := TX12) 127 dX12_tellRoad_58 rfl (hG 112 (17, 80) rfl) rfl (by decide) fl_X12_61 rfl (hP 112 28 127 rfl) ?_
  refine j_iload_n dX12_tellRoad_61 rfl rfl ?_
  refine j_aload_n dX12_tellRoad_62 rfl rfl ?_
  refine j_bipush 22 dX12_tellRoad_63 rfl (by decide) ?_
  refine j_cV (as := [.int 22]) (rest := [.int x1, .ref 127]) dX12_tellRoad_65 rfl vw_X12_323 (hG 112 (17, 80) rfl) rfl ⟨Nat.le_of_ble_eq_true rfl, Nat.le_of_ble_eq_true rfl⟩ rfl rfl (fun _ _ => Nat.le_of_ble_eq_true rfl) (e0 ) (fun r μ' hr => ?_)
  obtain ⟨v, rfl, hr⟩ := hr
  refine j_forget (ls' := [.ref 112, .null, .null]) ⟨Or.inr rfl, Or.inl rfl, Or.inr rfl, trivial⟩ ?_
  exact k0  v μ' hr
theorem b_X12_tellRoad_68 {l : Launch} {G : jG} {μ : jM} {φ : jM → Prop} {z0 z1 : Int32} {ψ0 : Int32 → jM → Prop} (hG : gMM G) (hP : gNN μ) 
    (o0 : vp_in z1 24) 
    (e0 : jC0 l mX12_isTold 2 G [.ref 112, .int 23] (wI μ 127 (Int32.toNatClampNeg z1) (vp_nar .boolean z0)) (pI ψ0)) 
    (k0 : ∀ v μ', ψ0 v μ' → J l mX12_tellRoad (jZ0 5 G (pV φ)) G 0 0 75 [.ref 112, .null, .null] [.int v] μ') :
    J l mX12_tellRoad (jZ0 5 G (pV φ)) G 0 0 68 [.ref 112, .null, .null] [.int z0, .int z1, .ref 127] μ := by
  refine j_zast' (j := (Int32.toNatClampNeg z1)) dX12_tellRoad_68 rfl (hG 127 (2, 24) rfl) o0 rfl ?_
  refine j_aload_n dX12_tellRoad_69 rfl rfl ?_
  refine j_bipush 23 dX12_tellRoad_70 rfl (by decide) ?_
  refine j_cV (as := [.int 23]) (rest := []) dX12_tellRoad_72 rfl vw_X12_323 (hG 112 (17, 80) rfl) rfl ⟨Nat.le_of_ble_eq_true rfl, Nat.le_of_ble_eq_true rfl⟩ rfl rfl (fun _ _ => Nat.le_of_ble_eq_true rfl) (e0 ) (fun r μ' hr => ?_)
  obtain ⟨v, rfl, hr⟩ := hr
  exact k0  v μ' hr
theorem b_X12_tellRoad_75 {l : Launch} {G : jG} {μ : jM} {φ : jM → Prop} {z0 : Int32} {ψ0 : jM → Prop} (hG : gMM G) (hP : gNN μ) 
    (e0 : jC0 l mX12_must 2 G [.ref 112, .int 4] μ (pV ψ0)) 
    (k0 : ∀ μ', ψ0 μ' → J l mX12_tellRoad (jZ0 5 G (pV φ)) G 0 0 81 [.ref 112, .null, .int z0] [] μ') :
    J l mX12_tellRoad (jZ0 5 G (pV φ)) G 0 0 75 [.ref 112, .null, .null] [.int z0] μ := by
  refine j_istore_n (ls' := [.ref 112, .null, .int z0]) dX12_tellRoad_75 rfl rfl (Nat.le_of_ble_eq_true rfl) rfl ?_
  refine j_aload_n dX12_tellRoad_76 rfl rfl ?_
  refine j_iconst 4 dX12_tellRoad_77 rfl (by decide) ?_
  refine j_cV (as := [.int 4]) (rest := []) dX12_tellRoad_78 rfl vw_X12_308 (hG 112 (17, 80) rfl) rfl ⟨Nat.le_of_ble_eq_true rfl, Nat.le_of_ble_eq_true rfl⟩ rfl rfl (fun _ _ => Nat.le_of_ble_eq_true rfl) (e0 ) (fun r μ' hr => ?_)
  obtain ⟨rfl, hr⟩ := hr
  exact k0  μ' hr
theorem b_X12_tellRoad_81 {l : Launch} {G : jG} {μ : jM} {φ : jM → Prop} {x2 : Int32} (hG : gMM G) (hP : gNN μ) 
    (o0 : ((μ.1 112 13) ≤ (0 : Int32)) → (x2 = (0 : Int32)) → vp_in (μ.1 112 19) 2) 
    (k0 : ((μ.1 112 13) ≤ (0 : Int32)) → (x2 = (0 : Int32)) → φ (wI μ 123 (Int32.toNatClampNeg (μ.1 112 19)) ((μ.1 123 (Int32.toNatClampNeg (μ.1 112 19))) + 1))) 
    (o1 : ((μ.1 112 13) ≤ (0 : Int32)) → (¬ (x2 = (0 : Int32))) → vp_in (μ.1 112 19) 2) 
    (k1 : ((μ.1 112 13) ≤ (0 : Int32)) → (¬ (x2 = (0 : Int32))) → φ (wI (wI μ 128 (Int32.toNatClampNeg (μ.1 112 19)) ((μ.1 128 (Int32.toNatClampNeg (μ.1 112 19))) ||| (1 <<< ((μ.1 123 (Int32.toNatClampNeg (μ.1 112 19))) &&& 31)))) 123 (Int32.toNatClampNeg (μ.1 112 19)) ((μ.1 123 (Int32.toNatClampNeg (μ.1 112 19))) + 1))) 
    (k2 : (¬ ((μ.1 112 13) ≤ (0 : Int32))) → φ μ) :
    J l mX12_tellRoad (jZ0 5 G (pV φ)) G 0 0 81 [.ref 112, .null, .int x2] [] μ := by
  refine j_aload_n dX12_tellRoad_81 rfl rfl ?_
  refine j_getI (ci := 12) (N := 80) (f := 13) (T := TX12) dX12_tellRoad_82 rfl (hG 112 (17, 80) rfl) rfl (by decide) fl_X12_233 rfl ?_
  refine j_if_le 89 dX12_tellRoad_85 rfl (by decide) (fun c0 => ?_) (fun c0 => ?_)
  · skip
    refine j_iload_n dX12_tellRoad_89 rfl rfl ?_
    refine j_if_eq 116 dX12_tellRoad_90 rfl (by decide) (fun c1 => ?_) (fun c1 => ?_)
    · skip
      refine j_aload_n dX12_tellRoad_116 rfl rfl ?_
      refine j_getR (ci := 12) (N := 80) (f := 24) (T := TX12) 123 dX12_tellRoad_117 rfl (hG 112 (17, 80) rfl) rfl (by decide) fl_X12_49 rfl (hP 112 24 123 rfl) ?_
      refine j_aload_n dX12_tellRoad_120 rfl rfl ?_
      refine j_getI (ci := 12) (N := 80) (f := 19) (T := TX12) dX12_tellRoad_121 rfl (hG 112 (17, 80) rfl) rfl (by decide) fl_X12_266 rfl ?_
      refine j_dup2 dX12_tellRoad_124 rfl (fun _ _ => rfl) (fun _ _ => rfl) ?_
      refine j_iald' (j := (Int32.toNatClampNeg (μ.1 112 19))) dX12_tellRoad_125 rfl (hG 123 (0, 2) rfl) (o0 c0 c1) rfl ?_
      refine j_iconst 1 dX12_tellRoad_126 rfl (by decide) ?_
      refine j_iadd dX12_tellRoad_127 rfl ?_
      refine j_iast' (j := (Int32.toNatClampNeg (μ.1 112 19))) dX12_tellRoad_128 rfl (hG 123 (0, 2) rfl) (o0 c0 c1) rfl ?_
      exact j_vret dX12_tellRoad_129 rfl (k0 c0 c1)
    · skip
      refine j_aload_n dX12_tellRoad_93 rfl rfl ?_
      refine j_getR (ci := 12) (N := 80) (f := 29) (T := TX12) 128 dX12_tellRoad_94 rfl (hG 112 (17, 80) rfl) rfl (by decide) fl_X12_65 rfl (hP 112 29 128 rfl) ?_
      refine j_aload_n dX12_tellRoad_97 rfl rfl ?_
      refine j_getI (ci := 12) (N := 80) (f := 19) (T := TX12) dX12_tellRoad_98 rfl (hG 112 (17, 80) rfl) rfl (by decide) fl_X12_266 rfl ?_
      refine j_dup2 dX12_tellRoad_101 rfl (fun _ _ => rfl) (fun _ _ => rfl) ?_
      refine j_iald' (j := (Int32.toNatClampNeg (μ.1 112 19))) dX12_tellRoad_102 rfl (hG 128 (0, 2) rfl) (o1 c0 c1) rfl ?_
      refine j_iconst 1 dX12_tellRoad_103 rfl (by decide) ?_
      refine j_aload_n dX12_tellRoad_104 rfl rfl ?_
      refine j_getR (ci := 12) (N := 80) (f := 24) (T := TX12) 123 dX12_tellRoad_105 rfl (hG 112 (17, 80) rfl) rfl (by decide) fl_X12_49 rfl (hP 112 24 123 rfl) ?_
      refine j_aload_n dX12_tellRoad_108 rfl rfl ?_
      refine j_getI (ci := 12) (N := 80) (f := 19) (T := TX12) dX12_tellRoad_109 rfl (hG 112 (17, 80) rfl) rfl (by decide) fl_X12_266 rfl ?_
      refine j_iald' (j := (Int32.toNatClampNeg (μ.1 112 19))) dX12_tellRoad_112 rfl (hG 123 (0, 2) rfl) (o1 c0 c1) rfl ?_
      refine j_ishl dX12_tellRoad_113 rfl ?_
      refine j_ior dX12_tellRoad_114 rfl ?_
      refine j_iast' (j := (Int32.toNatClampNeg (μ.1 112 19))) dX12_tellRoad_115 rfl (hG 128 (0, 2) rfl) (o1 c0 c1) rfl ?_
      refine j_aload_n dX12_tellRoad_116 rfl rfl ?_
      refine j_getR (ci := 12) (N := 80) (f := 24) (T := TX12) 123 dX12_tellRoad_117 rfl (hG 112 (17, 80) rfl) rfl (by decide) fl_X12_49 rfl (hP 112 24 123 rfl) ?_
      refine j_aload_n dX12_tellRoad_120 rfl rfl ?_
      refine j_getI (ci := 12) (N := 80) (f := 19) (T := TX12) dX12_tellRoad_121 rfl (hG 112 (17, 80) rfl) rfl (by decide) fl_X12_266 rfl ?_
      refine j_dup2 dX12_tellRoad_124 rfl (fun _ _ => rfl) (fun _ _ => rfl) ?_
      refine j_iald' (j := (Int32.toNatClampNeg (μ.1 112 19))) dX12_tellRoad_125 rfl (hG 123 (0, 2) rfl) (o1 c0 c1) rfl ?_
      refine j_iconst 1 dX12_tellRoad_126 rfl (by decide) ?_
      refine j_iadd dX12_tellRoad_127 rfl ?_
      refine j_iast' (j := (Int32.toNatClampNeg (μ.1 112 19))) dX12_tellRoad_128 rfl (hG 123 (0, 2) rfl) (o1 c0 c1) rfl ?_
      exact j_vret dX12_tellRoad_129 rfl (k1 c0 c1)
  · skip
    exact j_vret dX12_tellRoad_88 rfl (k2 c0)
theorem b_X12_tellGhost_0 {l : Launch} {G : jG} {μ : jM} {φ : jM → Prop} {ψ0 : Int32 → jM → Prop} (hG : gMM G) (hP : gNN μ) 
    (o0 : vp_in (μ.1 112 19) 2) 
    (e0 : jC0 l mX12_named 3 G [.ref 112] μ (pI ψ0)) 
    (k0 : ∀ v μ', ψ0 v μ' → J l mX12_tellGhost (jZ0 5 G (pV φ)) G 0 0 22 [.ref 112, .int ((7 * (μ.1 112 19)) + (μ.1 129 (Int32.toNatClampNeg (μ.1 112 19)))), .null] [.int v] μ') :
    J l mX12_tellGhost (jZ0 5 G (pV φ)) G 0 0 0 [.ref 112, .null, .null] [] μ := by
  refine j_bipush 7 dX12_tellGhost_0 rfl (by decide) ?_
  refine j_aload_n dX12_tellGhost_2 rfl rfl ?_
  refine j_getI (ci := 12) (N := 80) (f := 19) (T := TX12) dX12_tellGhost_3 rfl (hG 112 (17, 80) rfl) rfl (by decide) fl_X12_266 rfl ?_
  refine j_imul dX12_tellGhost_6 rfl ?_
  refine j_aload_n dX12_tellGhost_7 rfl rfl ?_
  refine j_getR (ci := 12) (N := 80) (f := 30) (T := TX12) 129 dX12_tellGhost_8 rfl (hG 112 (17, 80) rfl) rfl (by decide) fl_X12_68 rfl (hP 112 30 129 rfl) ?_
  refine j_aload_n dX12_tellGhost_11 rfl rfl ?_
  refine j_getI (ci := 12) (N := 80) (f := 19) (T := TX12) dX12_tellGhost_12 rfl (hG 112 (17, 80) rfl) rfl (by decide) fl_X12_266 rfl ?_
  refine j_iald' (j := (Int32.toNatClampNeg (μ.1 112 19))) dX12_tellGhost_15 rfl (hG 129 (0, 2) rfl) o0 rfl ?_
  refine j_iadd dX12_tellGhost_16 rfl ?_
  refine j_istore_n (ls' := [.ref 112, .int ((7 * (μ.1 112 19)) + (μ.1 129 (Int32.toNatClampNeg (μ.1 112 19)))), .null]) dX12_tellGhost_17 rfl rfl (Nat.le_of_ble_eq_true rfl) rfl ?_
  refine j_aload_n dX12_tellGhost_18 rfl rfl ?_
  refine j_cV (as := []) (rest := []) dX12_tellGhost_19 rfl vw_X12_291 (hG 112 (17, 80) rfl) rfl ⟨Nat.le_of_ble_eq_true rfl, Nat.le_of_ble_eq_true rfl⟩ rfl rfl (fun _ _ => Nat.le_of_ble_eq_true rfl) (e0 ) (fun r μ' hr => ?_)
  obtain ⟨v, rfl, hr⟩ := hr
  exact k0  v μ' hr
theorem b_X12_tellGhost_22 {l : Launch} {G : jG} {μ : jM} {φ : jM → Prop} {x1 z0 : Int32} {ψ0 : Int32 → jM → Prop} (hG : gMM G) (hP : gNN μ) 
    (e0 : jC0 l mX12_knownPlace 3 G [.ref 112] μ (pI ψ0)) 
    (k0 : ∀ v μ', ψ0 v μ' → J l mX12_tellGhost (jZ0 5 G (pV φ)) G 0 0 32 [.ref 112, .int x1, .int z0] [.int v, .int x1, .ref 130] μ') :
    J l mX12_tellGhost (jZ0 5 G (pV φ)) G 0 0 22 [.ref 112, .int x1, .null] [.int z0] μ := by
  refine j_istore_n (ls' := [.ref 112, .int x1, .int z0]) dX12_tellGhost_22 rfl rfl (Nat.le_of_ble_eq_true rfl) rfl ?_
  refine j_aload_n dX12_tellGhost_23 rfl rfl ?_
  refine j_getR (ci := 12) (N := 80) (f := 31) (T := TX12) 130 dX12_tellGhost_24 rfl (hG 112 (17, 80) rfl) rfl (by decide) fl_X12_71 rfl (hP 112 31 130 rfl) ?_
  refine j_iload_n dX12_tellGhost_27 rfl rfl ?_
  refine j_aload_n dX12_tellGhost_28 rfl rfl ?_
  refine j_cV (as := []) (rest := [.int x1, .ref 130]) dX12_tellGhost_29 rfl vw_X12_317 (hG 112 (17, 80) rfl) rfl ⟨Nat.le_of_ble_eq_true rfl, Nat.le_of_ble_eq_true rfl⟩ rfl rfl (fun _ _ => Nat.le_of_ble_eq_true rfl) (e0 ) (fun r μ' hr => ?_)
  obtain ⟨v, rfl, hr⟩ := hr
  exact k0  v μ' hr
theorem b_X12_tellGhost_32 {l : Launch} {G : jG} {μ : jM} {φ : jM → Prop} {x1 x2 z0 z1 : Int32} {ψ0 : Int32 → jM → Prop} (hG : gMM G) (hP : gNN μ) 
    (o0 : vp_in z1 14) 
    (o1 : vp_in x1 14) 
    (e0 : jC0 l mX12_otherThan 4 G [.ref 112, .int ((wI μ 130 (Int32.toNatClampNeg z1) z0).1 130 (Int32.toNatClampNeg x1))] (wI μ 130 (Int32.toNatClampNeg z1) z0) (pI ψ0)) 
    (k0 : ∀ v μ', ψ0 v μ' → J l mX12_tellGhost (jZ0 5 G (pV φ)) G 0 0 48 [.ref 112, .int x1, .int x2] [.int v, .int x1, .ref 131] μ') :
    J l mX12_tellGhost (jZ0 5 G (pV φ)) G 0 0 32 [.ref 112, .int x1, .int x2] [.int z0, .int z1, .ref 130] μ := by
  refine j_iast' (j := (Int32.toNatClampNeg z1)) dX12_tellGhost_32 rfl (hG 130 (0, 14) rfl) o0 rfl ?_
  refine j_aload_n dX12_tellGhost_33 rfl rfl ?_
  refine j_getR (ci := 12) (N := 80) (f := 32) (T := TX12) 131 dX12_tellGhost_34 rfl (hG 112 (17, 80) rfl) rfl (by decide) fl_X12_74 rfl (hP 112 32 131 rfl) ?_
  refine j_iload_n dX12_tellGhost_37 rfl rfl ?_
  refine j_aload_n dX12_tellGhost_38 rfl rfl ?_
  refine j_aload_n dX12_tellGhost_39 rfl rfl ?_
  refine j_getR (ci := 12) (N := 80) (f := 31) (T := TX12) 130 dX12_tellGhost_40 rfl (hG 112 (17, 80) rfl) rfl (by decide) fl_X12_71 rfl (hP 112 31 130 rfl) ?_
  refine j_iload_n dX12_tellGhost_43 rfl rfl ?_
  refine j_iald' (j := (Int32.toNatClampNeg x1)) dX12_tellGhost_44 rfl (hG 130 (0, 14) rfl) o1 rfl ?_
  refine j_cV (as := [.int ((wI μ 130 (Int32.toNatClampNeg z1) z0).1 130 (Int32.toNatClampNeg x1))]) (rest := [.int x1, .ref 131]) dX12_tellGhost_45 rfl vw_X12_320 (hG 112 (17, 80) rfl) rfl ⟨Nat.le_of_ble_eq_true rfl, Nat.le_of_ble_eq_true rfl⟩ rfl rfl (fun _ _ => Nat.le_of_ble_eq_true rfl) (e0 ) (fun r μ' hr => ?_)
  obtain ⟨v, rfl, hr⟩ := hr
  exact k0  v μ' hr
theorem b_X12_tellGhost_48 {l : Launch} {G : jG} {μ : jM} {φ : jM → Prop} {x1 x2 z0 z1 : Int32} {ψ0 : Int32 → jM → Prop} (hG : gMM G) (hP : gNN μ) 
    (o0 : vp_in z1 14) 
    (e0 : jC0 l mX12_bounded 2 G [.ref 112, .int 0, .int 9] (wI μ 131 (Int32.toNatClampNeg z1) z0) (pI ψ0)) 
    (k0 : ∀ v μ', ψ0 v μ' → J l mX12_tellGhost (jZ0 5 G (pV φ)) G 0 0 61 [.ref 112, .int x1, .int x2] [.int v, .int x1, .ref 132] μ') :
    J l mX12_tellGhost (jZ0 5 G (pV φ)) G 0 0 48 [.ref 112, .int x1, .int x2] [.int z0, .int z1, .ref 131] μ := by
  refine j_iast' (j := (Int32.toNatClampNeg z1)) dX12_tellGhost_48 rfl (hG 131 (0, 14) rfl) o0 rfl ?_
  refine j_aload_n dX12_tellGhost_49 rfl rfl ?_
  refine j_getR (ci := 12) (N := 80) (f := 33) (T := TX12) 132 dX12_tellGhost_50 rfl (hG 112 (17, 80) rfl) rfl (by decide) fl_X12_77 rfl (hP 112 33 132 rfl) ?_
  refine j_iload_n dX12_tellGhost_53 rfl rfl ?_
  refine j_aload_n dX12_tellGhost_54 rfl rfl ?_
  refine j_iconst 0 dX12_tellGhost_55 rfl (by decide) ?_
  refine j_bipush 9 dX12_tellGhost_56 rfl (by decide) ?_
  refine j_cV (as := [.int 0, .int 9]) (rest := [.int x1, .ref 132]) dX12_tellGhost_58 rfl vw_X12_304 (hG 112 (17, 80) rfl) rfl ⟨Nat.le_of_ble_eq_true rfl, Nat.le_of_ble_eq_true rfl⟩ rfl rfl (fun _ _ => Nat.le_of_ble_eq_true rfl) (e0 ) (fun r μ' hr => ?_)
  obtain ⟨v, rfl, hr⟩ := hr
  exact k0  v μ' hr
theorem b_X12_tellGhost_61 {l : Launch} {G : jG} {μ : jM} {φ : jM → Prop} {x1 x2 z0 z1 : Int32} {ψ0 : Int32 → jM → Prop} (hG : gMM G) (hP : gNN μ) 
    (o0 : vp_in z1 14) 
    (e0 : jC0 l mX12_bounded 2 G [.ref 112, .int 0, .int 99] (wI μ 132 (Int32.toNatClampNeg z1) z0) (pI ψ0)) 
    (k0 : ∀ v μ', ψ0 v μ' → J l mX12_tellGhost (jZ0 5 G (pV φ)) G 0 0 74 [.ref 112, .int x1, .int x2] [.int v, .int x1, .ref 133] μ') :
    J l mX12_tellGhost (jZ0 5 G (pV φ)) G 0 0 61 [.ref 112, .int x1, .int x2] [.int z0, .int z1, .ref 132] μ := by
  refine j_iast' (j := (Int32.toNatClampNeg z1)) dX12_tellGhost_61 rfl (hG 132 (0, 14) rfl) o0 rfl ?_
  refine j_aload_n dX12_tellGhost_62 rfl rfl ?_
  refine j_getR (ci := 12) (N := 80) (f := 34) (T := TX12) 133 dX12_tellGhost_63 rfl (hG 112 (17, 80) rfl) rfl (by decide) fl_X12_80 rfl (hP 112 34 133 rfl) ?_
  refine j_iload_n dX12_tellGhost_66 rfl rfl ?_
  refine j_aload_n dX12_tellGhost_67 rfl rfl ?_
  refine j_iconst 0 dX12_tellGhost_68 rfl (by decide) ?_
  refine j_bipush 99 dX12_tellGhost_69 rfl (by decide) ?_
  refine j_cV (as := [.int 0, .int 99]) (rest := [.int x1, .ref 133]) dX12_tellGhost_71 rfl vw_X12_304 (hG 112 (17, 80) rfl) rfl ⟨Nat.le_of_ble_eq_true rfl, Nat.le_of_ble_eq_true rfl⟩ rfl rfl (fun _ _ => Nat.le_of_ble_eq_true rfl) (e0 ) (fun r μ' hr => ?_)
  obtain ⟨v, rfl, hr⟩ := hr
  exact k0  v μ' hr
theorem b_X12_tellGhost_74 {l : Launch} {G : jG} {μ : jM} {φ : jM → Prop} {x1 x2 z0 z1 : Int32} {ψ0 : Int32 → jM → Prop} (hG : gMM G) (hP : gNN μ) 
    (o0 : vp_in z1 14) 
    (e0 : jC0 l mX12_bounded 2 G [.ref 112, .int 1, .int 9] (wI μ 133 (Int32.toNatClampNeg z1) z0) (pI ψ0)) 
    (k0 : ∀ v μ', ψ0 v μ' → J l mX12_tellGhost (jZ0 5 G (pV φ)) G 0 0 87 [.ref 112, .null, .int x2] [.int v, .int x1, .ref 134] μ') :
    J l mX12_tellGhost (jZ0 5 G (pV φ)) G 0 0 74 [.ref 112, .int x1, .int x2] [.int z0, .int z1, .ref 133] μ := by
  refine j_iast' (j := (Int32.toNatClampNeg z1)) dX12_tellGhost_74 rfl (hG 133 (0, 14) rfl) o0 rfl ?_
  refine j_aload_n dX12_tellGhost_75 rfl rfl ?_
  refine j_getR (ci := 12) (N := 80) (f := 35) (T := TX12) 134 dX12_tellGhost_76 rfl (hG 112 (17, 80) rfl) rfl (by decide) fl_X12_83 rfl (hP 112 35 134 rfl) ?_
  refine j_iload_n dX12_tellGhost_79 rfl rfl ?_
  refine j_aload_n dX12_tellGhost_80 rfl rfl ?_
  refine j_iconst 1 dX12_tellGhost_81 rfl (by decide) ?_
  refine j_bipush 9 dX12_tellGhost_82 rfl (by decide) ?_
  refine j_cV (as := [.int 1, .int 9]) (rest := [.int x1, .ref 134]) dX12_tellGhost_84 rfl vw_X12_304 (hG 112 (17, 80) rfl) rfl ⟨Nat.le_of_ble_eq_true rfl, Nat.le_of_ble_eq_true rfl⟩ rfl rfl (fun _ _ => Nat.le_of_ble_eq_true rfl) (e0 ) (fun r μ' hr => ?_)
  obtain ⟨v, rfl, hr⟩ := hr
  refine j_forget (ls' := [.ref 112, .null, .int x2]) ⟨Or.inr rfl, Or.inl rfl, Or.inr rfl, trivial⟩ ?_
  exact k0  v μ' hr
theorem b_X12_tellGhost_87 {l : Launch} {G : jG} {μ : jM} {φ : jM → Prop} {x2 z0 z1 : Int32} {ψ0 : jM → Prop} (hG : gMM G) (hP : gNN μ) 
    (o0 : vp_in z1 14) 
    (e0 : jC0 l mX12_ends 3 G [.ref 112, .int x2, .int (-1)] (wI μ 134 (Int32.toNatClampNeg z1) z0) (pV ψ0)) 
    (k0 : ∀ μ', ψ0 μ' → J l mX12_tellGhost (jZ0 5 G (pV φ)) G 0 0 94 [.ref 112, .null, .null] [] μ') :
    J l mX12_tellGhost (jZ0 5 G (pV φ)) G 0 0 87 [.ref 112, .null, .int x2] [.int z0, .int z1, .ref 134] μ := by
  refine j_iast' (j := (Int32.toNatClampNeg z1)) dX12_tellGhost_87 rfl (hG 134 (0, 14) rfl) o0 rfl ?_
  refine j_aload_n dX12_tellGhost_88 rfl rfl ?_
  refine j_iload_n dX12_tellGhost_89 rfl rfl ?_
  refine j_iconst (-1) dX12_tellGhost_90 rfl (by decide) ?_
  refine j_cV (as := [.int x2, .int (-1)]) (rest := []) dX12_tellGhost_91 rfl vw_X12_295 (hG 112 (17, 80) rfl) rfl ⟨Nat.le_of_ble_eq_true rfl, Nat.le_of_ble_eq_true rfl⟩ rfl rfl (fun _ _ => Nat.le_of_ble_eq_true rfl) (e0 ) (fun r μ' hr => ?_)
  obtain ⟨rfl, hr⟩ := hr
  refine j_forget (ls' := [.ref 112, .null, .null]) ⟨Or.inr rfl, Or.inr rfl, Or.inl rfl, trivial⟩ ?_
  exact k0  μ' hr
theorem b_X12_tellGhost_94 {l : Launch} {G : jG} {μ : jM} {φ : jM → Prop} (hG : gMM G) (hP : gNN μ) 
    (k0 : (¬ (μ.1 112 13) = (0 : Int32)) → φ μ) 
    (o0 : ((μ.1 112 13) = (0 : Int32)) → vp_in (μ.1 112 19) 2) 
    (k1 : ((μ.1 112 13) = (0 : Int32)) → φ (wI μ 129 (Int32.toNatClampNeg (μ.1 112 19)) ((μ.1 129 (Int32.toNatClampNeg (μ.1 112 19))) + 1))) :
    J l mX12_tellGhost (jZ0 5 G (pV φ)) G 0 0 94 [.ref 112, .null, .null] [] μ := by
  refine j_aload_n dX12_tellGhost_94 rfl rfl ?_
  refine j_getI (ci := 12) (N := 80) (f := 13) (T := TX12) dX12_tellGhost_95 rfl (hG 112 (17, 80) rfl) rfl (by decide) fl_X12_233 rfl ?_
  refine j_if_ne 114 dX12_tellGhost_98 rfl (by decide) (fun c0 => ?_) (fun c0 => ?_)
  · skip
    exact j_vret dX12_tellGhost_114 rfl (k0 c0)
  · skip
    refine j_aload_n dX12_tellGhost_101 rfl rfl ?_
    refine j_getR (ci := 12) (N := 80) (f := 30) (T := TX12) 129 dX12_tellGhost_102 rfl (hG 112 (17, 80) rfl) rfl (by decide) fl_X12_68 rfl (hP 112 30 129 rfl) ?_
    refine j_aload_n dX12_tellGhost_105 rfl rfl ?_
    refine j_getI (ci := 12) (N := 80) (f := 19) (T := TX12) dX12_tellGhost_106 rfl (hG 112 (17, 80) rfl) rfl (by decide) fl_X12_266 rfl ?_
    refine j_dup2 dX12_tellGhost_109 rfl (fun _ _ => rfl) (fun _ _ => rfl) ?_
    refine j_iald' (j := (Int32.toNatClampNeg (μ.1 112 19))) dX12_tellGhost_110 rfl (hG 129 (0, 2) rfl) (o0 c0) rfl ?_
    refine j_iconst 1 dX12_tellGhost_111 rfl (by decide) ?_
    refine j_iadd dX12_tellGhost_112 rfl ?_
    refine j_iast' (j := (Int32.toNatClampNeg (μ.1 112 19))) dX12_tellGhost_113 rfl (hG 129 (0, 2) rfl) (o0 c0) rfl ?_
    exact j_vret dX12_tellGhost_114 rfl (k1 c0)
theorem b_X12_tellLaw_0 {l : Launch} {G : jG} {μ : jM} {φ : jM → Prop} {x1 : Int32} {ψ0 : jM → Prop} (hG : gMM G) (hP : gNN μ) 
    (e0 : jC0 l mX12_must 2 G [.ref 112, .int 5] μ (pV ψ0)) 
    (k0 : ∀ μ', ψ0 μ' → J l mX12_tellLaw (jZ0 5 G (pV φ)) G 0 0 5 [.ref 112, .int x1, .null, .null] [] μ') :
    J l mX12_tellLaw (jZ0 5 G (pV φ)) G 0 0 0 [.ref 112, .int x1, .null, .null] [] μ := by
  refine j_aload_n dX12_tellLaw_0 rfl rfl ?_
  refine j_iconst 5 dX12_tellLaw_1 rfl (by decide) ?_
  refine j_cV (as := [.int 5]) (rest := []) dX12_tellLaw_2 rfl vw_X12_308 (hG 112 (17, 80) rfl) rfl ⟨Nat.le_of_ble_eq_true rfl, Nat.le_of_ble_eq_true rfl⟩ rfl rfl (fun _ _ => Nat.le_of_ble_eq_true rfl) (e0 ) (fun r μ' hr => ?_)
  obtain ⟨rfl, hr⟩ := hr
  exact k0  μ' hr
theorem b_X12_tellLaw_5 {l : Launch} {G : jG} {μ : jM} {φ : jM → Prop} {x1 : Int32} (hG : gMM G) (hP : gNN μ) 
    (k0 : J l mX12_tellLaw (jZ0 5 G (pV φ)) G 0 0 12 [.ref 112, .int x1, .int (μ.1 112 42), .int 0] [] μ) :
    J l mX12_tellLaw (jZ0 5 G (pV φ)) G 0 0 5 [.ref 112, .int x1, .null, .null] [] μ := by
  refine j_aload_n dX12_tellLaw_5 rfl rfl ?_
  refine j_getI (ci := 12) (N := 80) (f := 42) (T := TX12) dX12_tellLaw_6 rfl (hG 112 (17, 80) rfl) rfl (by decide) fl_X12_272 rfl ?_
  refine j_istore_n (ls' := [.ref 112, .int x1, .int (μ.1 112 42), .null]) dX12_tellLaw_9 rfl rfl (Nat.le_of_ble_eq_true rfl) rfl ?_
  refine j_iconst 0 dX12_tellLaw_10 rfl (by decide) ?_
  refine j_istore_n (ls' := [.ref 112, .int x1, .int (μ.1 112 42), .int 0]) dX12_tellLaw_11 rfl rfl (Nat.le_of_ble_eq_true rfl) rfl ?_
  exact k0 
theorem b_X12_tellLaw_12 {l : Launch} {G : jG} {μ : jM} {φ : jM → Prop} {x1 x2 x3 : Int32} {ψ0 : jM → Prop} {ψ1 : Int32 → jM → Prop} (hG : gMM G) (hP : gNN μ) 
    (o0 : (¬ (μ.1 112 13) = (0 : Int32)) → vp_in (μ.1 112 42) 260) 
    (e0 : (¬ (μ.1 112 13) = (0 : Int32)) → jC0 l mX12_term 4 G [.ref 112] (wI μ 141 (Int32.toNatClampNeg (μ.1 112 42)) (vp_nar .boolean 0)) (pV ψ0)) 
    (k0 : (¬ (μ.1 112 13) = (0 : Int32)) → ∀ μ', ψ0 μ' → J l mX12_tellLaw (jZ0 5 G (pV φ)) G 0 0 143 [.ref 112, .int x1, .int x2, .null] [] μ') 
    (e1 : ((μ.1 112 13) = (0 : Int32)) → jC0 l mX12_is 0 G [.ref 112, .int 31] μ (pI ψ1)) 
    (k1 : ((μ.1 112 13) = (0 : Int32)) → ∀ v μ', ψ1 v μ' → J l mX12_tellLaw (jZ0 5 G (pV φ)) G 0 0 25 [.ref 112, .int x1, .int x2, .int x3] [.int v] μ') :
    J l mX12_tellLaw (jZ0 5 G (pV φ)) G 0 0 12 [.ref 112, .int x1, .int x2, .int x3] [] μ := by
  refine j_aload_n dX12_tellLaw_12 rfl rfl ?_
  refine j_getI (ci := 12) (N := 80) (f := 13) (T := TX12) dX12_tellLaw_13 rfl (hG 112 (17, 80) rfl) rfl (by decide) fl_X12_233 rfl ?_
  refine j_if_ne 129 dX12_tellLaw_16 rfl (by decide) (fun c0 => ?_) (fun c0 => ?_)
  · skip
    refine j_aload_n dX12_tellLaw_129 rfl rfl ?_
    refine j_getR (ci := 12) (N := 80) (f := 43) (T := TX12) 141 dX12_tellLaw_130 rfl (hG 112 (17, 80) rfl) rfl (by decide) fl_X12_104 rfl (hP 112 43 141 rfl) ?_
    refine j_aload_n dX12_tellLaw_133 rfl rfl ?_
    refine j_getI (ci := 12) (N := 80) (f := 42) (T := TX12) dX12_tellLaw_134 rfl (hG 112 (17, 80) rfl) rfl (by decide) fl_X12_272 rfl ?_
    refine j_iconst 0 dX12_tellLaw_137 rfl (by decide) ?_
    refine j_zast' (j := (Int32.toNatClampNeg (μ.1 112 42))) dX12_tellLaw_138 rfl (hG 141 (2, 260) rfl) (o0 c0) rfl ?_
    refine j_aload_n dX12_tellLaw_139 rfl rfl ?_
    refine j_cV (as := []) (rest := []) dX12_tellLaw_140 rfl vw_X12_329 (hG 112 (17, 80) rfl) rfl ⟨Nat.le_of_ble_eq_true rfl, Nat.le_of_ble_eq_true rfl⟩ rfl rfl (fun _ _ => Nat.le_of_ble_eq_true rfl) (e0 c0) (fun r μ' hr => ?_)
    obtain ⟨rfl, hr⟩ := hr
    refine j_forget (ls' := [.ref 112, .int x1, .int x2, .null]) ⟨Or.inr rfl, Or.inr rfl, Or.inr rfl, Or.inl rfl, trivial⟩ ?_
    exact k0 c0 μ' hr
  · skip
    refine j_aload_n dX12_tellLaw_19 rfl rfl ?_
    refine j_bipush 31 dX12_tellLaw_20 rfl (by decide) ?_
    refine j_cV (as := [.int 31]) (rest := []) dX12_tellLaw_22 rfl vw_X12_251 (hG 112 (17, 80) rfl) rfl ⟨Nat.le_of_ble_eq_true rfl, Nat.le_of_ble_eq_true rfl⟩ rfl rfl (fun _ _ => Nat.le_of_ble_eq_true rfl) (e1 c0) (fun r μ' hr => ?_)
    obtain ⟨v, rfl, hr⟩ := hr
    exact k1 c0 v μ' hr
theorem b_X12_tellLaw_25 {l : Launch} {G : jG} {μ : jM} {φ : jM → Prop} {x1 x2 x3 z0 : Int32} {ψ0 : jM → Prop} {ψ1 : jM → Prop} {ψ3 : jM → Prop} (hG : gMM G) (hP : gNN μ) 
    (o0 : (z0 = (0 : Int32)) → vp_in (μ.1 112 42) 260) 
    (e0 : (z0 = (0 : Int32)) → jC0 l mX12_term 4 G [.ref 112] (wI μ 141 (Int32.toNatClampNeg (μ.1 112 42)) (vp_nar .boolean 0)) (pV ψ0)) 
    (k0 : (z0 = (0 : Int32)) → ∀ μ', ψ0 μ' → J l mX12_tellLaw (jZ0 5 G (pV φ)) G 0 0 143 [.ref 112, .int x1, .int x2, .null] [] μ') 
    (e1 : (¬ (z0 = (0 : Int32))) → (¬ x3 = (4 : Int32)) → ((μ.1 112 13) ≤ (0 : Int32)) → jC0 l mX12_goesOn 1 G [.ref 112] μ (pV ψ1)) 
    (k1 : (¬ (z0 = (0 : Int32))) → (¬ x3 = (4 : Int32)) → ((μ.1 112 13) ≤ (0 : Int32)) → ∀ μ', ψ1 μ' → J l mX12_tellLaw (jZ0 5 G (pV φ)) G 0 0 53 [.ref 112, .int x1, .int x2, .int (x3 + 1)] [] μ') 
    (k2 : (¬ (z0 = (0 : Int32))) → (¬ x3 = (4 : Int32)) → (¬ ((μ.1 112 13) ≤ (0 : Int32))) → φ μ) 
    (e3 : (¬ (z0 = (0 : Int32))) → (x3 = (4 : Int32)) → jC0 l mX12_fail 0 G [.ref 112, .int 2] μ (pV ψ3)) 
    (k3 : (¬ (z0 = (0 : Int32))) → (x3 = (4 : Int32)) → ∀ μ', ψ3 μ' → J l mX12_tellLaw (jZ0 5 G (pV φ)) G 0 0 38 [.ref 112, .int x1, .int x2, .int x3] [] μ') :
    J l mX12_tellLaw (jZ0 5 G (pV φ)) G 0 0 25 [.ref 112, .int x1, .int x2, .int x3] [.int z0] μ := by
  refine j_if_eq 129 dX12_tellLaw_25 rfl (by decide) (fun c0 => ?_) (fun c0 => ?_)
  · skip
    refine j_aload_n dX12_tellLaw_129 rfl rfl ?_
    refine j_getR (ci := 12) (N := 80) (f := 43) (T := TX12) 141 dX12_tellLaw_130 rfl (hG 112 (17, 80) rfl) rfl (by decide) fl_X12_104 rfl (hP 112 43 141 rfl) ?_
    refine j_aload_n dX12_tellLaw_133 rfl rfl ?_
    refine j_getI (ci := 12) (N := 80) (f := 42) (T := TX12) dX12_tellLaw_134 rfl (hG 112 (17, 80) rfl) rfl (by decide) fl_X12_272 rfl ?_
    refine j_iconst 0 dX12_tellLaw_137 rfl (by decide) ?_
    refine j_zast' (j := (Int32.toNatClampNeg (μ.1 112 42))) dX12_tellLaw_138 rfl (hG 141 (2, 260) rfl) (o0 c0) rfl ?_
    refine j_aload_n dX12_tellLaw_139 rfl rfl ?_
    refine j_cV (as := []) (rest := []) dX12_tellLaw_140 rfl vw_X12_329 (hG 112 (17, 80) rfl) rfl ⟨Nat.le_of_ble_eq_true rfl, Nat.le_of_ble_eq_true rfl⟩ rfl rfl (fun _ _ => Nat.le_of_ble_eq_true rfl) (e0 c0) (fun r μ' hr => ?_)
    obtain ⟨rfl, hr⟩ := hr
    refine j_forget (ls' := [.ref 112, .int x1, .int x2, .null]) ⟨Or.inr rfl, Or.inr rfl, Or.inr rfl, Or.inl rfl, trivial⟩ ?_
    exact k0 c0 μ' hr
  · skip
    refine j_iload_n dX12_tellLaw_28 rfl rfl ?_
    refine j_iconst 4 dX12_tellLaw_29 rfl (by decide) ?_
    refine j_icmp_ne 38 dX12_tellLaw_30 rfl (by decide) (fun c1 => ?_) (fun c1 => ?_)
    · skip
      refine j_aload_n dX12_tellLaw_38 rfl rfl ?_
      refine j_getI (ci := 12) (N := 80) (f := 13) (T := TX12) dX12_tellLaw_39 rfl (hG 112 (17, 80) rfl) rfl (by decide) fl_X12_233 rfl ?_
      refine j_if_le 46 dX12_tellLaw_42 rfl (by decide) (fun c2 => ?_) (fun c2 => ?_)
      · skip
        refine j_iinc (x3 + 1) (ls' := [.ref 112, .int x1, .int x2, .int (x3 + 1)]) dX12_tellLaw_46 rfl rfl rfl (Nat.le_of_ble_eq_true rfl) rfl ?_
        refine j_aload_n dX12_tellLaw_49 rfl rfl ?_
        refine j_cV (as := []) (rest := []) dX12_tellLaw_50 rfl vw_X12_254 (hG 112 (17, 80) rfl) rfl ⟨Nat.le_of_ble_eq_true rfl, Nat.le_of_ble_eq_true rfl⟩ rfl rfl (fun _ _ => Nat.le_of_ble_eq_true rfl) (e1 c0 c1 c2) (fun r μ' hr => ?_)
        obtain ⟨rfl, hr⟩ := hr
        exact k1 c0 c1 c2 μ' hr
      · skip
        exact j_vret dX12_tellLaw_45 rfl (k2 c0 c1 c2)
    · skip
      refine j_aload_n dX12_tellLaw_33 rfl rfl ?_
      refine j_iconst 2 dX12_tellLaw_34 rfl (by decide) ?_
      refine j_cV (as := [.int 2]) (rest := []) dX12_tellLaw_35 rfl vw_X12_248 (hG 112 (17, 80) rfl) rfl ⟨Nat.le_of_ble_eq_true rfl, Nat.le_of_ble_eq_true rfl⟩ rfl rfl (fun _ _ => Nat.le_of_ble_eq_true rfl) (e3 c0 c1) (fun r μ' hr => ?_)
      obtain ⟨rfl, hr⟩ := hr
      exact k3 c0 c1 μ' hr
theorem b_X12_tellLaw_38 {l : Launch} {G : jG} {μ : jM} {φ : jM → Prop} {x1 x2 x3 : Int32} {ψ0 : jM → Prop} (hG : gMM G) (hP : gNN μ) 
    (e0 : ((μ.1 112 13) ≤ (0 : Int32)) → jC0 l mX12_goesOn 1 G [.ref 112] μ (pV ψ0)) 
    (k0 : ((μ.1 112 13) ≤ (0 : Int32)) → ∀ μ', ψ0 μ' → J l mX12_tellLaw (jZ0 5 G (pV φ)) G 0 0 53 [.ref 112, .int x1, .int x2, .int (x3 + 1)] [] μ') 
    (k1 : (¬ ((μ.1 112 13) ≤ (0 : Int32))) → φ μ) :
    J l mX12_tellLaw (jZ0 5 G (pV φ)) G 0 0 38 [.ref 112, .int x1, .int x2, .int x3] [] μ := by
  refine j_aload_n dX12_tellLaw_38 rfl rfl ?_
  refine j_getI (ci := 12) (N := 80) (f := 13) (T := TX12) dX12_tellLaw_39 rfl (hG 112 (17, 80) rfl) rfl (by decide) fl_X12_233 rfl ?_
  refine j_if_le 46 dX12_tellLaw_42 rfl (by decide) (fun c0 => ?_) (fun c0 => ?_)
  · skip
    refine j_iinc (x3 + 1) (ls' := [.ref 112, .int x1, .int x2, .int (x3 + 1)]) dX12_tellLaw_46 rfl rfl rfl (Nat.le_of_ble_eq_true rfl) rfl ?_
    refine j_aload_n dX12_tellLaw_49 rfl rfl ?_
    refine j_cV (as := []) (rest := []) dX12_tellLaw_50 rfl vw_X12_254 (hG 112 (17, 80) rfl) rfl ⟨Nat.le_of_ble_eq_true rfl, Nat.le_of_ble_eq_true rfl⟩ rfl rfl (fun _ _ => Nat.le_of_ble_eq_true rfl) (e0 c0) (fun r μ' hr => ?_)
    obtain ⟨rfl, hr⟩ := hr
    exact k0 c0 μ' hr
  · skip
    exact j_vret dX12_tellLaw_45 rfl (k1 c0)
theorem b_X12_tellLaw_53 {l : Launch} {G : jG} {μ : jM} {φ : jM → Prop} {x1 x2 x3 : Int32} {ψ0 : jM → Prop} (hG : gMM G) (hP : gNN μ) 
    (o0 : vp_in (μ.1 112 42) 260) 
    (e0 : jC0 l mX12_expression 3 G [.ref 112] (wI (wI μ 141 (Int32.toNatClampNeg (μ.1 112 42)) (vp_nar .boolean 1)) 142 (Int32.toNatClampNeg (μ.1 112 42)) (μ.1 112 48)) (pV ψ0)) 
    (k0 : ∀ μ', ψ0 μ' → J l mX12_tellLaw (jZ0 5 G (pV φ)) G 0 0 80 [.ref 112, .int x1, .int x2, .int x3] [] μ') :
    J l mX12_tellLaw (jZ0 5 G (pV φ)) G 0 0 53 [.ref 112, .int x1, .int x2, .int x3] [] μ := by
  refine j_aload_n dX12_tellLaw_53 rfl rfl ?_
  refine j_getR (ci := 12) (N := 80) (f := 43) (T := TX12) 141 dX12_tellLaw_54 rfl (hG 112 (17, 80) rfl) rfl (by decide) fl_X12_104 rfl (hP 112 43 141 rfl) ?_
  refine j_aload_n dX12_tellLaw_57 rfl rfl ?_
  refine j_getI (ci := 12) (N := 80) (f := 42) (T := TX12) dX12_tellLaw_58 rfl (hG 112 (17, 80) rfl) rfl (by decide) fl_X12_272 rfl ?_
  refine j_iconst 1 dX12_tellLaw_61 rfl (by decide) ?_
  refine j_zast' (j := (Int32.toNatClampNeg (μ.1 112 42))) dX12_tellLaw_62 rfl (hG 141 (2, 260) rfl) o0 rfl ?_
  refine j_aload_n dX12_tellLaw_63 rfl rfl ?_
  refine j_getR (ci := 12) (N := 80) (f := 44) (T := TX12) 142 dX12_tellLaw_64 rfl (hG 112 (17, 80) rfl) rfl (by decide) fl_X12_107 rfl (hP 112 44 142 rfl) ?_
  refine j_aload_n dX12_tellLaw_67 rfl rfl ?_
  refine j_getI (ci := 12) (N := 80) (f := 42) (T := TX12) dX12_tellLaw_68 rfl (hG 112 (17, 80) rfl) rfl (by decide) fl_X12_272 rfl ?_
  refine j_aload_n dX12_tellLaw_71 rfl rfl ?_
  refine j_getI (ci := 12) (N := 80) (f := 48) (T := TX12) dX12_tellLaw_72 rfl (hG 112 (17, 80) rfl) rfl (by decide) fl_X12_275 rfl ?_
  refine j_iast' (j := (Int32.toNatClampNeg (μ.1 112 42))) dX12_tellLaw_75 rfl (hG 142 (0, 260) rfl) o0 rfl ?_
  refine j_aload_n dX12_tellLaw_76 rfl rfl ?_
  refine j_cV (as := []) (rest := []) dX12_tellLaw_77 rfl vw_X12_326 (hG 112 (17, 80) rfl) rfl ⟨Nat.le_of_ble_eq_true rfl, Nat.le_of_ble_eq_true rfl⟩ rfl rfl (fun _ _ => Nat.le_of_ble_eq_true rfl) (e0 ) (fun r μ' hr => ?_)
  obtain ⟨rfl, hr⟩ := hr
  exact k0  μ' hr
theorem b_X12_tellLaw_80 {l : Launch} {G : jG} {μ : jM} {φ : jM → Prop} {x1 x2 x3 : Int32} {ψ0 : jM → Prop} (hG : gMM G) (hP : gNN μ) 
    (e0 : jC0 l mX12_must 2 G [.ref 112, .int 13] μ (pV ψ0)) 
    (k0 : ∀ μ', ψ0 μ' → J l mX12_tellLaw (jZ0 5 G (pV φ)) G 0 0 86 [.ref 112, .int x1, .int x2, .int x3] [] μ') :
    J l mX12_tellLaw (jZ0 5 G (pV φ)) G 0 0 80 [.ref 112, .int x1, .int x2, .int x3] [] μ := by
  refine j_aload_n dX12_tellLaw_80 rfl rfl ?_
  refine j_bipush 13 dX12_tellLaw_81 rfl (by decide) ?_
  refine j_cV (as := [.int 13]) (rest := []) dX12_tellLaw_83 rfl vw_X12_308 (hG 112 (17, 80) rfl) rfl ⟨Nat.le_of_ble_eq_true rfl, Nat.le_of_ble_eq_true rfl⟩ rfl rfl (fun _ _ => Nat.le_of_ble_eq_true rfl) (e0 ) (fun r μ' hr => ?_)
  obtain ⟨rfl, hr⟩ := hr
  exact k0  μ' hr
theorem b_X12_tellLaw_86 {l : Launch} {G : jG} {μ : jM} {φ : jM → Prop} {x1 x2 x3 : Int32} {ψ0 : jM → Prop} {ψ1 : jM → Prop} (hG : gMM G) (hP : gNN μ) 
    (o0 : vp_in (μ.1 112 42) 260) 
    (e0 : (¬ (μ.1 112 13) = (0 : Int32)) → jC0 l mX12_must 2 G [.ref 112, .int 32] (wI μ 143 (Int32.toNatClampNeg (μ.1 112 42)) (μ.1 112 48)) (pV ψ0)) 
    (k0 : (¬ (μ.1 112 13) = (0 : Int32)) → ∀ μ', ψ0 μ' → J l mX12_tellLaw (jZ0 5 G (pV φ)) G 0 0 116 [.ref 112, .int x1, .int x2, .int x3] [] μ') 
    (e1 : ((μ.1 112 13) = (0 : Int32)) → jC0 l mX12_expression 3 G [.ref 112] (wI μ 143 (Int32.toNatClampNeg (μ.1 112 42)) (μ.1 112 48)) (pV ψ1)) 
    (k1 : ((μ.1 112 13) = (0 : Int32)) → ∀ μ', ψ1 μ' → J l mX12_tellLaw (jZ0 5 G (pV φ)) G 0 0 110 [.ref 112, .int x1, .int x2, .int x3] [] μ') :
    J l mX12_tellLaw (jZ0 5 G (pV φ)) G 0 0 86 [.ref 112, .int x1, .int x2, .int x3] [] μ := by
  refine j_aload_n dX12_tellLaw_86 rfl rfl ?_
  refine j_getR (ci := 12) (N := 80) (f := 45) (T := TX12) 143 dX12_tellLaw_87 rfl (hG 112 (17, 80) rfl) rfl (by decide) fl_X12_110 rfl (hP 112 45 143 rfl) ?_
  refine j_aload_n dX12_tellLaw_90 rfl rfl ?_
  refine j_getI (ci := 12) (N := 80) (f := 42) (T := TX12) dX12_tellLaw_91 rfl (hG 112 (17, 80) rfl) rfl (by decide) fl_X12_272 rfl ?_
  refine j_aload_n dX12_tellLaw_94 rfl rfl ?_
  refine j_getI (ci := 12) (N := 80) (f := 48) (T := TX12) dX12_tellLaw_95 rfl (hG 112 (17, 80) rfl) rfl (by decide) fl_X12_275 rfl ?_
  refine j_iast' (j := (Int32.toNatClampNeg (μ.1 112 42))) dX12_tellLaw_98 rfl (hG 143 (0, 260) rfl) o0 rfl ?_
  refine j_aload_n dX12_tellLaw_99 rfl rfl ?_
  refine j_getI (ci := 12) (N := 80) (f := 13) (T := TX12) dX12_tellLaw_100 rfl (hG 112 (17, 80) rfl) rfl (by decide) fl_X12_233 rfl ?_
  refine j_if_ne 110 dX12_tellLaw_103 rfl (by decide) (fun c0 => ?_) (fun c0 => ?_)
  · skip
    refine j_aload_n dX12_tellLaw_110 rfl rfl ?_
    refine j_bipush 32 dX12_tellLaw_111 rfl (by decide) ?_
    refine j_cV (as := [.int 32]) (rest := []) dX12_tellLaw_113 rfl vw_X12_308 (hG 112 (17, 80) rfl) rfl ⟨Nat.le_of_ble_eq_true rfl, Nat.le_of_ble_eq_true rfl⟩ rfl rfl (fun _ _ => Nat.le_of_ble_eq_true rfl) (e0 c0) (fun r μ' hr => ?_)
    obtain ⟨rfl, hr⟩ := hr
    exact k0 c0 μ' hr
  · skip
    refine j_aload_n dX12_tellLaw_106 rfl rfl ?_
    refine j_cV (as := []) (rest := []) dX12_tellLaw_107 rfl vw_X12_326 (hG 112 (17, 80) rfl) rfl ⟨Nat.le_of_ble_eq_true rfl, Nat.le_of_ble_eq_true rfl⟩ rfl rfl (fun _ _ => Nat.le_of_ble_eq_true rfl) (e1 c0) (fun r μ' hr => ?_)
    obtain ⟨rfl, hr⟩ := hr
    exact k1 c0 μ' hr
theorem b_X12_tellLaw_110 {l : Launch} {G : jG} {μ : jM} {φ : jM → Prop} {x1 x2 x3 : Int32} {ψ0 : jM → Prop} (hG : gMM G) (hP : gNN μ) 
    (e0 : jC0 l mX12_must 2 G [.ref 112, .int 32] μ (pV ψ0)) 
    (k0 : ∀ μ', ψ0 μ' → J l mX12_tellLaw (jZ0 5 G (pV φ)) G 0 0 116 [.ref 112, .int x1, .int x2, .int x3] [] μ') :
    J l mX12_tellLaw (jZ0 5 G (pV φ)) G 0 0 110 [.ref 112, .int x1, .int x2, .int x3] [] μ := by
  refine j_aload_n dX12_tellLaw_110 rfl rfl ?_
  refine j_bipush 32 dX12_tellLaw_111 rfl (by decide) ?_
  refine j_cV (as := [.int 32]) (rest := []) dX12_tellLaw_113 rfl vw_X12_308 (hG 112 (17, 80) rfl) rfl ⟨Nat.le_of_ble_eq_true rfl, Nat.le_of_ble_eq_true rfl⟩ rfl rfl (fun _ _ => Nat.le_of_ble_eq_true rfl) (e0 ) (fun r μ' hr => ?_)
  obtain ⟨rfl, hr⟩ := hr
  exact k0  μ' hr
theorem b_X12_tellLaw_116 {l : Launch} {G : jG} {μ : jM} {φ : jM → Prop} {x1 x2 x3 : Int32} {ψ0 : jM → Prop} (hG : gMM G) (hP : gNN μ) 
    (e0 : jC0 l mX12_term 4 G [.ref 112] μ (pV ψ0)) 
    (k0 : ∀ μ', ψ0 μ' → J l mX12_tellLaw (jZ0 5 G (pV φ)) G 0 0 120 [.ref 112, .int x1, .int x2, .int x3] [] μ') :
    J l mX12_tellLaw (jZ0 5 G (pV φ)) G 0 0 116 [.ref 112, .int x1, .int x2, .int x3] [] μ := by
  refine j_aload_n dX12_tellLaw_116 rfl rfl ?_
  refine j_cV (as := []) (rest := []) dX12_tellLaw_117 rfl vw_X12_329 (hG 112 (17, 80) rfl) rfl ⟨Nat.le_of_ble_eq_true rfl, Nat.le_of_ble_eq_true rfl⟩ rfl rfl (fun _ _ => Nat.le_of_ble_eq_true rfl) (e0 ) (fun r μ' hr => ?_)
  obtain ⟨rfl, hr⟩ := hr
  exact k0  μ' hr
theorem b_X12_tellLaw_120 {l : Launch} {G : jG} {μ : jM} {φ : jM → Prop} {x1 x2 x3 : Int32} {ψ0 : jM → Prop} (hG : gMM G) (hP : gNN μ) 
    (e0 : jC0 l mX12_must 2 G [.ref 112, .int 33] μ (pV ψ0)) 
    (k0 : ∀ μ', ψ0 μ' → J l mX12_tellLaw (jZ0 5 G (pV φ)) G 0 0 126 [.ref 112, .int x1, .int x2, .int x3] [] μ') :
    J l mX12_tellLaw (jZ0 5 G (pV φ)) G 0 0 120 [.ref 112, .int x1, .int x2, .int x3] [] μ := by
  refine j_aload_n dX12_tellLaw_120 rfl rfl ?_
  refine j_bipush 33 dX12_tellLaw_121 rfl (by decide) ?_
  refine j_cV (as := [.int 33]) (rest := []) dX12_tellLaw_123 rfl vw_X12_308 (hG 112 (17, 80) rfl) rfl ⟨Nat.le_of_ble_eq_true rfl, Nat.le_of_ble_eq_true rfl⟩ rfl rfl (fun _ _ => Nat.le_of_ble_eq_true rfl) (e0 ) (fun r μ' hr => ?_)
  obtain ⟨rfl, hr⟩ := hr
  exact k0  μ' hr
theorem b_X12_tellLaw_126 {l : Launch} {G : jG} {μ : jM} {φ : jM → Prop} {x1 x2 x3 : Int32} (hG : gMM G) (hP : gNN μ) 
    (k0 : J l mX12_tellLaw (jZ0 5 G (pV φ)) G 0 0 12 [.ref 112, .int x1, .int x2, .int x3] [] μ) :
    J l mX12_tellLaw (jZ0 5 G (pV φ)) G 0 0 126 [.ref 112, .int x1, .int x2, .int x3] [] μ := by
  refine j_goto 12 dX12_tellLaw_126 (by decide) ?_
  exact k0 
theorem b_X12_tellLaw_143 {l : Launch} {G : jG} {μ : jM} {φ : jM → Prop} {x1 x2 : Int32} {ψ0 : jM → Prop} (hG : gMM G) (hP : gNN μ) 
    (e0 : jC0 l mX12_must 2 G [.ref 112, .int 4] μ (pV ψ0)) 
    (k0 : ∀ μ', ψ0 μ' → J l mX12_tellLaw (jZ0 5 G (pV φ)) G 0 0 148 [.ref 112, .int x1, .int x2, .null] [] μ') :
    J l mX12_tellLaw (jZ0 5 G (pV φ)) G 0 0 143 [.ref 112, .int x1, .int x2, .null] [] μ := by
  refine j_aload_n dX12_tellLaw_143 rfl rfl ?_
  refine j_iconst 4 dX12_tellLaw_144 rfl (by decide) ?_
  refine j_cV (as := [.int 4]) (rest := []) dX12_tellLaw_145 rfl vw_X12_308 (hG 112 (17, 80) rfl) rfl ⟨Nat.le_of_ble_eq_true rfl, Nat.le_of_ble_eq_true rfl⟩ rfl rfl (fun _ _ => Nat.le_of_ble_eq_true rfl) (e0 ) (fun r μ' hr => ?_)
  obtain ⟨rfl, hr⟩ := hr
  exact k0  μ' hr
theorem b_X12_tellLaw_148 {l : Launch} {G : jG} {μ : jM} {φ : jM → Prop} {x1 x2 : Int32} (hG : gMM G) (hP : gNN μ) 
    (o0 : ((μ.1 112 13) ≤ (0 : Int32)) → vp_in ((3 * (μ.1 112 19)) + x1) 6) 
    (k0 : ((μ.1 112 13) ≤ (0 : Int32)) → φ (wI (wI μ 139 (Int32.toNatClampNeg ((3 * (μ.1 112 19)) + x1)) x2) 140 (Int32.toNatClampNeg ((3 * (μ.1 112 19)) + x1)) (μ.1 112 42))) 
    (k1 : (¬ ((μ.1 112 13) ≤ (0 : Int32))) → φ μ) :
    J l mX12_tellLaw (jZ0 5 G (pV φ)) G 0 0 148 [.ref 112, .int x1, .int x2, .null] [] μ := by
  refine j_aload_n dX12_tellLaw_148 rfl rfl ?_
  refine j_getI (ci := 12) (N := 80) (f := 13) (T := TX12) dX12_tellLaw_149 rfl (hG 112 (17, 80) rfl) rfl (by decide) fl_X12_233 rfl ?_
  refine j_if_le 156 dX12_tellLaw_152 rfl (by decide) (fun c0 => ?_) (fun c0 => ?_)
  · skip
    refine j_aload_n dX12_tellLaw_156 rfl rfl ?_
    refine j_getR (ci := 12) (N := 80) (f := 40) (T := TX12) 139 dX12_tellLaw_157 rfl (hG 112 (17, 80) rfl) rfl (by decide) fl_X12_98 rfl (hP 112 40 139 rfl) ?_
    refine j_iconst 3 dX12_tellLaw_160 rfl (by decide) ?_
    refine j_aload_n dX12_tellLaw_161 rfl rfl ?_
    refine j_getI (ci := 12) (N := 80) (f := 19) (T := TX12) dX12_tellLaw_162 rfl (hG 112 (17, 80) rfl) rfl (by decide) fl_X12_266 rfl ?_
    refine j_imul dX12_tellLaw_165 rfl ?_
    refine j_iload_n dX12_tellLaw_166 rfl rfl ?_
    refine j_iadd dX12_tellLaw_167 rfl ?_
    refine j_iload_n dX12_tellLaw_168 rfl rfl ?_
    refine j_iast' (j := (Int32.toNatClampNeg ((3 * (μ.1 112 19)) + x1))) dX12_tellLaw_169 rfl (hG 139 (0, 6) rfl) (o0 c0) rfl ?_
    refine j_aload_n dX12_tellLaw_170 rfl rfl ?_
    refine j_getR (ci := 12) (N := 80) (f := 41) (T := TX12) 140 dX12_tellLaw_171 rfl (hG 112 (17, 80) rfl) rfl (by decide) fl_X12_101 rfl (hP 112 41 140 rfl) ?_
    refine j_iconst 3 dX12_tellLaw_174 rfl (by decide) ?_
    refine j_aload_n dX12_tellLaw_175 rfl rfl ?_
    refine j_getI (ci := 12) (N := 80) (f := 19) (T := TX12) dX12_tellLaw_176 rfl (hG 112 (17, 80) rfl) rfl (by decide) fl_X12_266 rfl ?_
    refine j_imul dX12_tellLaw_179 rfl ?_
    refine j_iload_n dX12_tellLaw_180 rfl rfl ?_
    refine j_iadd dX12_tellLaw_181 rfl ?_
    refine j_aload_n dX12_tellLaw_182 rfl rfl ?_
    refine j_getI (ci := 12) (N := 80) (f := 42) (T := TX12) dX12_tellLaw_183 rfl (hG 112 (17, 80) rfl) rfl (by decide) fl_X12_272 rfl ?_
    refine j_iast' (j := (Int32.toNatClampNeg ((3 * (μ.1 112 19)) + x1))) dX12_tellLaw_186 rfl (hG 140 (0, 6) rfl) (o0 c0) rfl ?_
    exact j_vret dX12_tellLaw_187 rfl (k0 c0)
  · skip
    exact j_vret dX12_tellLaw_155 rfl (k1 c0)
theorem b_X12_term_0 {l : Launch} {G : jG} {μ : jM} {φ : jM → Prop} {ψ1 : jM → Prop} (hG : gMM G) (hP : gNN μ) 
    (o0 : vp_in (μ.1 112 42) 260) 
    (k0 : (¬ (μ.1 112 13) = (0 : Int32)) → φ (wI (wI (wI μ 144 (Int32.toNatClampNeg (μ.1 112 42)) (μ.1 112 48)) 145 (Int32.toNatClampNeg (μ.1 112 42)) (μ.1 112 48)) 112 42 ((μ.1 112 42) + 1))) 
    (e1 : ((μ.1 112 13) = (0 : Int32)) → jC0 l mX12_expression 3 G [.ref 112] (wI μ 144 (Int32.toNatClampNeg (μ.1 112 42)) (μ.1 112 48)) (pV ψ1)) 
    (k1 : ((μ.1 112 13) = (0 : Int32)) → ∀ μ', ψ1 μ' → J l mX12_term (jZ0 4 G (pV φ)) G 0 0 24 [.ref 112] [] μ') :
    J l mX12_term (jZ0 4 G (pV φ)) G 0 0 0 [.ref 112] [] μ := by
  refine j_aload_n dX12_term_0 rfl rfl ?_
  refine j_getR (ci := 12) (N := 80) (f := 46) (T := TX12) 144 dX12_term_1 rfl (hG 112 (17, 80) rfl) rfl (by decide) fl_X12_113 rfl (hP 112 46 144 rfl) ?_
  refine j_aload_n dX12_term_4 rfl rfl ?_
  refine j_getI (ci := 12) (N := 80) (f := 42) (T := TX12) dX12_term_5 rfl (hG 112 (17, 80) rfl) rfl (by decide) fl_X12_272 rfl ?_
  refine j_aload_n dX12_term_8 rfl rfl ?_
  refine j_getI (ci := 12) (N := 80) (f := 48) (T := TX12) dX12_term_9 rfl (hG 112 (17, 80) rfl) rfl (by decide) fl_X12_275 rfl ?_
  refine j_iast' (j := (Int32.toNatClampNeg (μ.1 112 42))) dX12_term_12 rfl (hG 144 (0, 260) rfl) o0 rfl ?_
  refine j_aload_n dX12_term_13 rfl rfl ?_
  refine j_getI (ci := 12) (N := 80) (f := 13) (T := TX12) dX12_term_14 rfl (hG 112 (17, 80) rfl) rfl (by decide) fl_X12_233 rfl ?_
  refine j_if_ne 24 dX12_term_17 rfl (by decide) (fun c0 => ?_) (fun c0 => ?_)
  · skip
    refine j_aload_n dX12_term_24 rfl rfl ?_
    refine j_getR (ci := 12) (N := 80) (f := 47) (T := TX12) 145 dX12_term_25 rfl (hG 112 (17, 80) rfl) rfl (by decide) fl_X12_116 rfl (hP 112 47 145 rfl) ?_
    refine j_aload_n dX12_term_28 rfl rfl ?_
    refine j_getI (ci := 12) (N := 80) (f := 42) (T := TX12) dX12_term_29 rfl (hG 112 (17, 80) rfl) rfl (by decide) fl_X12_272 rfl ?_
    refine j_aload_n dX12_term_32 rfl rfl ?_
    refine j_getI (ci := 12) (N := 80) (f := 48) (T := TX12) dX12_term_33 rfl (hG 112 (17, 80) rfl) rfl (by decide) fl_X12_275 rfl ?_
    refine j_iast' (j := (Int32.toNatClampNeg (μ.1 112 42))) dX12_term_36 rfl (hG 145 (0, 260) rfl) o0 rfl ?_
    refine j_aload_n dX12_term_37 rfl rfl ?_
    refine j_dup dX12_term_38 rfl (fun _ _ => rfl) ?_
    refine j_getI (ci := 12) (N := 80) (f := 42) (T := TX12) dX12_term_39 rfl (hG 112 (17, 80) rfl) rfl (by decide) fl_X12_272 rfl ?_
    refine j_iconst 1 dX12_term_42 rfl (by decide) ?_
    refine j_iadd dX12_term_43 rfl ?_
    refine j_putI (ci := 12) (N := 80) (f := 42) (T := TX12) dX12_term_44 rfl (hG 112 (17, 80) rfl) rfl (by decide) fl_X12_272 rfl rfl ?_
    exact j_vret dX12_term_47 rfl (k0 c0)
  · skip
    refine j_aload_n dX12_term_20 rfl rfl ?_
    refine j_cV (as := []) (rest := []) dX12_term_21 rfl vw_X12_326 (hG 112 (17, 80) rfl) rfl ⟨Nat.le_of_ble_eq_true rfl, Nat.le_of_ble_eq_true rfl⟩ rfl rfl (fun _ _ => Nat.le_of_ble_eq_true rfl) (e1 c0) (fun r μ' hr => ?_)
    obtain ⟨rfl, hr⟩ := hr
    exact k1 c0 μ' hr
theorem b_X12_term_24 {l : Launch} {G : jG} {μ : jM} {φ : jM → Prop} (hG : gMM G) (hP : gNN μ) 
    (o0 : vp_in (μ.1 112 42) 260) 
    (k0 : φ (wI (wI μ 145 (Int32.toNatClampNeg (μ.1 112 42)) (μ.1 112 48)) 112 42 ((μ.1 112 42) + 1))) :
    J l mX12_term (jZ0 4 G (pV φ)) G 0 0 24 [.ref 112] [] μ := by
  refine j_aload_n dX12_term_24 rfl rfl ?_
  refine j_getR (ci := 12) (N := 80) (f := 47) (T := TX12) 145 dX12_term_25 rfl (hG 112 (17, 80) rfl) rfl (by decide) fl_X12_116 rfl (hP 112 47 145 rfl) ?_
  refine j_aload_n dX12_term_28 rfl rfl ?_
  refine j_getI (ci := 12) (N := 80) (f := 42) (T := TX12) dX12_term_29 rfl (hG 112 (17, 80) rfl) rfl (by decide) fl_X12_272 rfl ?_
  refine j_aload_n dX12_term_32 rfl rfl ?_
  refine j_getI (ci := 12) (N := 80) (f := 48) (T := TX12) dX12_term_33 rfl (hG 112 (17, 80) rfl) rfl (by decide) fl_X12_275 rfl ?_
  refine j_iast' (j := (Int32.toNatClampNeg (μ.1 112 42))) dX12_term_36 rfl (hG 145 (0, 260) rfl) o0 rfl ?_
  refine j_aload_n dX12_term_37 rfl rfl ?_
  refine j_dup dX12_term_38 rfl (fun _ _ => rfl) ?_
  refine j_getI (ci := 12) (N := 80) (f := 42) (T := TX12) dX12_term_39 rfl (hG 112 (17, 80) rfl) rfl (by decide) fl_X12_272 rfl ?_
  refine j_iconst 1 dX12_term_42 rfl (by decide) ?_
  refine j_iadd dX12_term_43 rfl ?_
  refine j_putI (ci := 12) (N := 80) (f := 42) (T := TX12) dX12_term_44 rfl (hG 112 (17, 80) rfl) rfl (by decide) fl_X12_272 rfl rfl ?_
  exact j_vret dX12_term_47 rfl (k0 )
theorem b_X12_emit_0 {l : Launch} {G : jG} {μ : jM} {φ : jM → Prop} {x1 x2 : Int32} (hG : gMM G) (hP : gNN μ) 
    (o0 : vp_in (μ.1 112 48) 840) 
    (k0 : φ (wI (wI (wI μ 146 (Int32.toNatClampNeg (μ.1 112 48)) x1) 147 (Int32.toNatClampNeg (μ.1 112 48)) x2) 112 48 ((μ.1 112 48) + 1))) :
    J l mX12_emit (jZ0 0 G (pV φ)) G 0 0 0 [.ref 112, .int x1, .int x2] [] μ := by
  refine j_aload_n dX12_emit_0 rfl rfl ?_
  refine j_getR (ci := 12) (N := 80) (f := 49) (T := TX12) 146 dX12_emit_1 rfl (hG 112 (17, 80) rfl) rfl (by decide) fl_X12_119 rfl (hP 112 49 146 rfl) ?_
  refine j_aload_n dX12_emit_4 rfl rfl ?_
  refine j_getI (ci := 12) (N := 80) (f := 48) (T := TX12) dX12_emit_5 rfl (hG 112 (17, 80) rfl) rfl (by decide) fl_X12_275 rfl ?_
  refine j_iload_n dX12_emit_8 rfl rfl ?_
  refine j_iast' (j := (Int32.toNatClampNeg (μ.1 112 48))) dX12_emit_9 rfl (hG 146 (0, 840) rfl) o0 rfl ?_
  refine j_aload_n dX12_emit_10 rfl rfl ?_
  refine j_getR (ci := 12) (N := 80) (f := 50) (T := TX12) 147 dX12_emit_11 rfl (hG 112 (17, 80) rfl) rfl (by decide) fl_X12_122 rfl (hP 112 50 147 rfl) ?_
  refine j_aload_n dX12_emit_14 rfl rfl ?_
  refine j_getI (ci := 12) (N := 80) (f := 48) (T := TX12) dX12_emit_15 rfl (hG 112 (17, 80) rfl) rfl (by decide) fl_X12_275 rfl ?_
  refine j_iload_n dX12_emit_18 rfl rfl ?_
  refine j_iast' (j := (Int32.toNatClampNeg (μ.1 112 48))) dX12_emit_19 rfl (hG 147 (0, 840) rfl) o0 rfl ?_
  refine j_aload_n dX12_emit_20 rfl rfl ?_
  refine j_dup dX12_emit_21 rfl (fun _ _ => rfl) ?_
  refine j_getI (ci := 12) (N := 80) (f := 48) (T := TX12) dX12_emit_22 rfl (hG 112 (17, 80) rfl) rfl (by decide) fl_X12_275 rfl ?_
  refine j_iconst 1 dX12_emit_25 rfl (by decide) ?_
  refine j_iadd dX12_emit_26 rfl ?_
  refine j_putI (ci := 12) (N := 80) (f := 48) (T := TX12) dX12_emit_27 rfl (hG 112 (17, 80) rfl) rfl (by decide) fl_X12_275 rfl rfl ?_
  exact j_vret dX12_emit_30 rfl (k0 )
theorem b_X12_comesOut_0 {l : Launch} {G : jG} {μ : jM} {φ : jM → Prop} {x1 : Int32} (hG : gMM G) (hP : gNN μ) 
    (k0 : ((μ.1 112 52) ≤ (0 : Int32)) → φ μ) 
    (o0 : (¬ ((μ.1 112 52) ≤ (0 : Int32))) → vp_in ((μ.1 112 52) - 1) 64) 
    (k1 : (¬ ((μ.1 112 52) ≤ (0 : Int32))) → ((μ.1 148 (Int32.toNatClampNeg ((μ.1 112 52) - 1))) = (6 : Int32)) → J l mX12_comesOut (jZ0 1 G (pV φ)) G 0 0 41 [.null, .null, .null] [] μ) 
    (k2 : (¬ ((μ.1 112 52) ≤ (0 : Int32))) → (¬ ((μ.1 148 (Int32.toNatClampNeg ((μ.1 112 52) - 1))) = (6 : Int32))) → (x1 = (0 : Int32)) → J l mX12_comesOut (jZ0 1 G (pV φ)) G 0 0 42 [.ref 112, .int x1, .int (μ.1 148 (Int32.toNatClampNeg ((μ.1 112 52) - 1)))] [] μ) 
    (k3 : (¬ ((μ.1 112 52) ≤ (0 : Int32))) → (¬ ((μ.1 148 (Int32.toNatClampNeg ((μ.1 112 52) - 1))) = (6 : Int32))) → (¬ (x1 = (0 : Int32))) → ((μ.1 148 (Int32.toNatClampNeg ((μ.1 112 52) - 1))) = (8 : Int32)) → J l mX12_comesOut (jZ0 1 G (pV φ)) G 0 0 41 [.null, .null, .null] [] μ) 
    (k4 : (¬ ((μ.1 112 52) ≤ (0 : Int32))) → (¬ ((μ.1 148 (Int32.toNatClampNeg ((μ.1 112 52) - 1))) = (6 : Int32))) → (¬ (x1 = (0 : Int32))) → (¬ ((μ.1 148 (Int32.toNatClampNeg ((μ.1 112 52) - 1))) = (8 : Int32))) → (¬ (μ.1 148 (Int32.toNatClampNeg ((μ.1 112 52) - 1))) = (9 : Int32)) → J l mX12_comesOut (jZ0 1 G (pV φ)) G 0 0 42 [.ref 112, .int x1, .int (μ.1 148 (Int32.toNatClampNeg ((μ.1 112 52) - 1)))] [] μ) 
    (k5 : (¬ ((μ.1 112 52) ≤ (0 : Int32))) → (¬ ((μ.1 148 (Int32.toNatClampNeg ((μ.1 112 52) - 1))) = (6 : Int32))) → (¬ (x1 = (0 : Int32))) → (¬ ((μ.1 148 (Int32.toNatClampNeg ((μ.1 112 52) - 1))) = (8 : Int32))) → ((μ.1 148 (Int32.toNatClampNeg ((μ.1 112 52) - 1))) = (9 : Int32)) → J l mX12_comesOut (jZ0 1 G (pV φ)) G 0 0 41 [.null, .null, .null] [] μ) :
    J l mX12_comesOut (jZ0 1 G (pV φ)) G 0 0 0 [.ref 112, .int x1, .null] [] μ := by
  refine j_aload_n dX12_comesOut_0 rfl rfl ?_
  refine j_getI (ci := 12) (N := 80) (f := 52) (T := TX12) dX12_comesOut_1 rfl (hG 112 (17, 80) rfl) rfl (by decide) fl_X12_332 rfl ?_
  refine j_if_le 91 dX12_comesOut_4 rfl (by decide) (fun c0 => ?_) (fun c0 => ?_)
  · skip
    exact j_vret dX12_comesOut_91 rfl (k0 c0)
  · skip
    refine j_aload_n dX12_comesOut_7 rfl rfl ?_
    refine j_getR (ci := 12) (N := 80) (f := 51) (T := TX12) 148 dX12_comesOut_8 rfl (hG 112 (17, 80) rfl) rfl (by decide) fl_X12_125 rfl (hP 112 51 148 rfl) ?_
    refine j_aload_n dX12_comesOut_11 rfl rfl ?_
    refine j_getI (ci := 12) (N := 80) (f := 52) (T := TX12) dX12_comesOut_12 rfl (hG 112 (17, 80) rfl) rfl (by decide) fl_X12_332 rfl ?_
    refine j_iconst 1 dX12_comesOut_15 rfl (by decide) ?_
    refine j_isub dX12_comesOut_16 rfl ?_
    refine j_iald' (j := (Int32.toNatClampNeg ((μ.1 112 52) - 1))) dX12_comesOut_17 rfl (hG 148 (0, 64) rfl) (o0 c0) rfl ?_
    refine j_istore_n (ls' := [.ref 112, .int x1, .int (μ.1 148 (Int32.toNatClampNeg ((μ.1 112 52) - 1)))]) dX12_comesOut_18 rfl rfl (Nat.le_of_ble_eq_true rfl) rfl ?_
    refine j_iload_n dX12_comesOut_19 rfl rfl ?_
    refine j_bipush 6 dX12_comesOut_20 rfl (by decide) ?_
    refine j_icmp_eq 41 dX12_comesOut_22 rfl (by decide) (fun c1 => ?_) (fun c1 => ?_)
    · skip
      refine j_forget (ls' := [.null, .null, .null]) ⟨Or.inl rfl, Or.inl rfl, Or.inl rfl, trivial⟩ ?_
      exact k1 c0 c1
    · skip
      refine j_iload_n dX12_comesOut_25 rfl rfl ?_
      refine j_if_eq 42 dX12_comesOut_26 rfl (by decide) (fun c2 => ?_) (fun c2 => ?_)
      · skip
        exact k2 c0 c1 c2
      · skip
        refine j_iload_n dX12_comesOut_29 rfl rfl ?_
        refine j_bipush 8 dX12_comesOut_30 rfl (by decide) ?_
        refine j_icmp_eq 41 dX12_comesOut_32 rfl (by decide) (fun c3 => ?_) (fun c3 => ?_)
        · skip
          refine j_forget (ls' := [.null, .null, .null]) ⟨Or.inl rfl, Or.inl rfl, Or.inl rfl, trivial⟩ ?_
          exact k3 c0 c1 c2 c3
        · skip
          refine j_iload_n dX12_comesOut_35 rfl rfl ?_
          refine j_bipush 9 dX12_comesOut_36 rfl (by decide) ?_
          refine j_icmp_ne 42 dX12_comesOut_38 rfl (by decide) (fun c4 => ?_) (fun c4 => ?_)
          · skip
            exact k4 c0 c1 c2 c3 c4
          · skip
            refine j_forget (ls' := [.null, .null, .null]) ⟨Or.inl rfl, Or.inl rfl, Or.inl rfl, trivial⟩ ?_
            exact k5 c0 c1 c2 c3 c4
theorem b_X12_comesOut_41 {l : Launch} {G : jG} {μ : jM} {φ : jM → Prop} (hG : gMM G) (hP : gNN μ) 
    (k0 : φ μ) :
    J l mX12_comesOut (jZ0 1 G (pV φ)) G 0 0 41 [.null, .null, .null] [] μ := by
  exact j_vret dX12_comesOut_41 rfl (k0 )
theorem b_X12_comesOut_42 {l : Launch} {G : jG} {μ : jM} {φ : jM → Prop} {x1 x2 : Int32} (hG : gMM G) (hP : gNN μ) 
    (k0 : (¬ x2 = (8 : Int32)) → (¬ x2 = (9 : Int32)) → (¬ x2 = (10 : Int32)) → J l mX12_comesOut (jZ0 1 G (pV φ)) G 0 0 84 [.ref 112, .int x1, .null] [.int 5, .ref 112] (wI μ 112 52 ((μ.1 112 52) - 1))) 
    (k1 : (¬ x2 = (8 : Int32)) → (¬ x2 = (9 : Int32)) → (x2 = (10 : Int32)) → J l mX12_comesOut (jZ0 1 G (pV φ)) G 0 0 84 [.ref 112, .int x1, .null] [.int 4, .ref 112] (wI μ 112 52 ((μ.1 112 52) - 1))) 
    (k2 : (¬ x2 = (8 : Int32)) → (x2 = (9 : Int32)) → J l mX12_comesOut (jZ0 1 G (pV φ)) G 0 0 84 [.ref 112, .int x1, .null] [.int 3, .ref 112] (wI μ 112 52 ((μ.1 112 52) - 1))) 
    (k3 : (x2 = (8 : Int32)) → J l mX12_comesOut (jZ0 1 G (pV φ)) G 0 0 84 [.ref 112, .int x1, .null] [.int 2, .ref 112] (wI μ 112 52 ((μ.1 112 52) - 1))) :
    J l mX12_comesOut (jZ0 1 G (pV φ)) G 0 0 42 [.ref 112, .int x1, .int x2] [] μ := by
  refine j_aload_n dX12_comesOut_42 rfl rfl ?_
  refine j_dup dX12_comesOut_43 rfl (fun _ _ => rfl) ?_
  refine j_getI (ci := 12) (N := 80) (f := 52) (T := TX12) dX12_comesOut_44 rfl (hG 112 (17, 80) rfl) rfl (by decide) fl_X12_332 rfl ?_
  refine j_iconst 1 dX12_comesOut_47 rfl (by decide) ?_
  refine j_isub dX12_comesOut_48 rfl ?_
  refine j_putI (ci := 12) (N := 80) (f := 52) (T := TX12) dX12_comesOut_49 rfl (hG 112 (17, 80) rfl) rfl (by decide) fl_X12_332 rfl rfl ?_
  refine j_aload_n dX12_comesOut_52 rfl rfl ?_
  refine j_iload_n dX12_comesOut_53 rfl rfl ?_
  refine j_bipush 8 dX12_comesOut_54 rfl (by decide) ?_
  refine j_icmp_ne 63 dX12_comesOut_56 rfl (by decide) (fun c0 => ?_) (fun c0 => ?_)
  · skip
    refine j_iload_n dX12_comesOut_63 rfl rfl ?_
    refine j_bipush 9 dX12_comesOut_64 rfl (by decide) ?_
    refine j_icmp_ne 73 dX12_comesOut_66 rfl (by decide) (fun c1 => ?_) (fun c1 => ?_)
    · skip
      refine j_iload_n dX12_comesOut_73 rfl rfl ?_
      refine j_bipush 10 dX12_comesOut_74 rfl (by decide) ?_
      refine j_icmp_ne 83 dX12_comesOut_76 rfl (by decide) (fun c2 => ?_) (fun c2 => ?_)
      · skip
        refine j_iconst 5 dX12_comesOut_83 rfl (by decide) ?_
        refine j_forget (ls' := [.ref 112, .int x1, .null]) ⟨Or.inr rfl, Or.inr rfl, Or.inl rfl, trivial⟩ ?_
        exact k0 c0 c1 c2
      · skip
        refine j_iconst 4 dX12_comesOut_79 rfl (by decide) ?_
        refine j_goto 84 dX12_comesOut_80 (by decide) ?_
        refine j_forget (ls' := [.ref 112, .int x1, .null]) ⟨Or.inr rfl, Or.inr rfl, Or.inl rfl, trivial⟩ ?_
        exact k1 c0 c1 c2
    · skip
      refine j_iconst 3 dX12_comesOut_69 rfl (by decide) ?_
      refine j_goto 84 dX12_comesOut_70 (by decide) ?_
      refine j_forget (ls' := [.ref 112, .int x1, .null]) ⟨Or.inr rfl, Or.inr rfl, Or.inl rfl, trivial⟩ ?_
      exact k2 c0 c1
  · skip
    refine j_iconst 2 dX12_comesOut_59 rfl (by decide) ?_
    refine j_goto 84 dX12_comesOut_60 (by decide) ?_
    refine j_forget (ls' := [.ref 112, .int x1, .null]) ⟨Or.inr rfl, Or.inr rfl, Or.inl rfl, trivial⟩ ?_
    exact k3 c0
theorem b_X12_comesOut_84 {l : Launch} {G : jG} {μ : jM} {φ : jM → Prop} {x1 z0 : Int32} {ψ0 : jM → Prop} (hG : gMM G) (hP : gNN μ) 
    (e0 : jC0 l mX12_emit 0 G [.ref 112, .int z0, .int 0] μ (pV ψ0)) 
    (k0 : ∀ μ', ψ0 μ' → J l mX12_comesOut (jZ0 1 G (pV φ)) G 0 0 88 [.ref 112, .int x1, .null] [] μ') :
    J l mX12_comesOut (jZ0 1 G (pV φ)) G 0 0 84 [.ref 112, .int x1, .null] [.int z0, .ref 112] μ := by
  refine j_iconst 0 dX12_comesOut_84 rfl (by decide) ?_
  refine j_cV (as := [.int z0, .int 0]) (rest := []) dX12_comesOut_85 rfl vw_X12_335 (hG 112 (17, 80) rfl) rfl ⟨Nat.le_of_ble_eq_true rfl, Nat.le_of_ble_eq_true rfl⟩ rfl rfl (fun _ _ => Nat.le_of_ble_eq_true rfl) (e0 ) (fun r μ' hr => ?_)
  obtain ⟨rfl, hr⟩ := hr
  exact k0  μ' hr
theorem b_X12_comesOut_88 {l : Launch} {G : jG} {μ : jM} {φ : jM → Prop} {x1 : Int32} (hG : gMM G) (hP : gNN μ) 
    (k0 : J l mX12_comesOut (jZ0 1 G (pV φ)) G 0 0 0 [.ref 112, .int x1, .null] [] μ) :
    J l mX12_comesOut (jZ0 1 G (pV φ)) G 0 0 88 [.ref 112, .int x1, .null] [] μ := by
  refine j_goto 0 dX12_comesOut_88 (by decide) ?_
  exact k0 
theorem b_X12_expression_0 {l : Launch} {G : jG} {μ : jM} {φ : jM → Prop} (hG : gMM G) (hP : gNN μ) 
    (k0 : J l mX12_expression (jZ0 3 G (pV φ)) G 0 0 12 [.ref 112, .int (μ.1 112 12), .int 1] [] (wI μ 112 52 0)) :
    J l mX12_expression (jZ0 3 G (pV φ)) G 0 0 0 [.ref 112, .null, .null] [] μ := by
  refine j_aload_n dX12_expression_0 rfl rfl ?_
  refine j_iconst 0 dX12_expression_1 rfl (by decide) ?_
  refine j_putI (ci := 12) (N := 80) (f := 52) (T := TX12) dX12_expression_2 rfl (hG 112 (17, 80) rfl) rfl (by decide) fl_X12_332 rfl rfl ?_
  refine j_aload_n dX12_expression_5 rfl rfl ?_
  refine j_getI (ci := 12) (N := 80) (f := 12) (T := TX12) dX12_expression_6 rfl (hG 112 (17, 80) rfl) rfl (by decide) fl_X12_260 rfl ?_
  refine j_istore_n (ls' := [.ref 112, .int (μ.1 112 12), .null]) dX12_expression_9 rfl rfl (Nat.le_of_ble_eq_true rfl) rfl ?_
  refine j_iconst 1 dX12_expression_10 rfl (by decide) ?_
  refine j_istore_n (ls' := [.ref 112, .int (μ.1 112 12), .int 1]) dX12_expression_11 rfl rfl (Nat.le_of_ble_eq_true rfl) rfl ?_
  exact k0 
theorem b_X12_expression_12 {l : Launch} {G : jG} {μ : jM} {φ : jM → Prop} {x1 x2 : Int32} (hG : gMM G) (hP : gNN μ) 
    (k0 : (x2 = (0 : Int32)) → φ μ) 
    (k1 : (¬ (x2 = (0 : Int32))) → (¬ (μ.1 112 13) = (0 : Int32)) → φ μ) 
    (k2 : (¬ (x2 = (0 : Int32))) → ((μ.1 112 13) = (0 : Int32)) → J l mX12_expression (jZ0 3 G (pV φ)) G 0 0 23 [.ref 112, .int x1, .null] [] μ) :
    J l mX12_expression (jZ0 3 G (pV φ)) G 0 0 12 [.ref 112, .int x1, .int x2] [] μ := by
  refine j_iload_n dX12_expression_12 rfl rfl ?_
  refine j_if_eq 272 dX12_expression_13 rfl (by decide) (fun c0 => ?_) (fun c0 => ?_)
  · skip
    exact j_vret dX12_expression_272 rfl (k0 c0)
  · skip
    refine j_aload_n dX12_expression_16 rfl rfl ?_
    refine j_getI (ci := 12) (N := 80) (f := 13) (T := TX12) dX12_expression_17 rfl (hG 112 (17, 80) rfl) rfl (by decide) fl_X12_233 rfl ?_
    refine j_if_ne 272 dX12_expression_20 rfl (by decide) (fun c1 => ?_) (fun c1 => ?_)
    · skip
      exact j_vret dX12_expression_272 rfl (k1 c0 c1)
    · skip
      refine j_forget (ls' := [.ref 112, .int x1, .null]) ⟨Or.inr rfl, Or.inr rfl, Or.inl rfl, trivial⟩ ?_
      exact k2 c0 c1
theorem b_X12_expression_23 {l : Launch} {G : jG} {μ : jM} {φ : jM → Prop} {x1 : Int32} {ψ0 : Int32 → jM → Prop} (hG : gMM G) (hP : gNN μ) 
    (e0 : jC0 l mX12_is 0 G [.ref 112, .int 6] μ (pI ψ0)) 
    (k0 : ∀ v μ', ψ0 v μ' → J l mX12_expression (jZ0 3 G (pV φ)) G 0 0 29 [.ref 112, .int x1, .null] [.int v] μ') :
    J l mX12_expression (jZ0 3 G (pV φ)) G 0 0 23 [.ref 112, .int x1, .null] [] μ := by
  refine j_aload_n dX12_expression_23 rfl rfl ?_
  refine j_bipush 6 dX12_expression_24 rfl (by decide) ?_
  refine j_cV (as := [.int 6]) (rest := []) dX12_expression_26 rfl vw_X12_251 (hG 112 (17, 80) rfl) rfl ⟨Nat.le_of_ble_eq_true rfl, Nat.le_of_ble_eq_true rfl⟩ rfl rfl (fun _ _ => Nat.le_of_ble_eq_true rfl) (e0 ) (fun r μ' hr => ?_)
  obtain ⟨v, rfl, hr⟩ := hr
  exact k0  v μ' hr
theorem b_X12_expression_29 {l : Launch} {G : jG} {μ : jM} {φ : jM → Prop} {x1 z0 : Int32} {ψ0 : jM → Prop} {ψ1 : jM → Prop} {ψ2 : jM → Prop} (hG : gMM G) (hP : gNN μ) 
    (e0 : (z0 = (0 : Int32)) → jC0 l mX12_unit 2 G [.ref 112] μ (pV ψ0)) 
    (k0 : (z0 = (0 : Int32)) → ∀ μ', ψ0 μ' → J l mX12_expression (jZ0 3 G (pV φ)) G 0 0 88 [.ref 112, .int x1, .null] [] μ') 
    (e1 : (¬ (z0 = (0 : Int32))) → (¬ (μ.1 112 12) = (6 : Int32)) → jC0 l mX12_goesOn 1 G [.ref 112] (wI μ 112 12 ((μ.1 112 12) + 1)) (pV ψ1)) 
    (k1 : (¬ (z0 = (0 : Int32))) → (¬ (μ.1 112 12) = (6 : Int32)) → ∀ μ', ψ1 μ' → J l mX12_expression (jZ0 3 G (pV φ)) G 0 0 60 [.ref 112, .int x1, .null] [] μ') 
    (e2 : (¬ (z0 = (0 : Int32))) → ((μ.1 112 12) = (6 : Int32)) → jC0 l mX12_fail 0 G [.ref 112, .int 2] μ (pV ψ2)) 
    (k2 : (¬ (z0 = (0 : Int32))) → ((μ.1 112 12) = (6 : Int32)) → ∀ μ', ψ2 μ' → J l mX12_expression (jZ0 3 G (pV φ)) G 0 0 46 [.ref 112, .int x1, .null] [] μ') :
    J l mX12_expression (jZ0 3 G (pV φ)) G 0 0 29 [.ref 112, .int x1, .null] [.int z0] μ := by
  refine j_if_eq 84 dX12_expression_29 rfl (by decide) (fun c0 => ?_) (fun c0 => ?_)
  · skip
    refine j_aload_n dX12_expression_84 rfl rfl ?_
    refine j_cV (as := []) (rest := []) dX12_expression_85 rfl vw_X12_338 (hG 112 (17, 80) rfl) rfl ⟨Nat.le_of_ble_eq_true rfl, Nat.le_of_ble_eq_true rfl⟩ rfl rfl (fun _ _ => Nat.le_of_ble_eq_true rfl) (e0 c0) (fun r μ' hr => ?_)
    obtain ⟨rfl, hr⟩ := hr
    exact k0 c0 μ' hr
  · skip
    refine j_aload_n dX12_expression_32 rfl rfl ?_
    refine j_getI (ci := 12) (N := 80) (f := 12) (T := TX12) dX12_expression_33 rfl (hG 112 (17, 80) rfl) rfl (by decide) fl_X12_260 rfl ?_
    refine j_bipush 6 dX12_expression_36 rfl (by decide) ?_
    refine j_icmp_ne 46 dX12_expression_38 rfl (by decide) (fun c1 => ?_) (fun c1 => ?_)
    · skip
      refine j_aload_n dX12_expression_46 rfl rfl ?_
      refine j_dup dX12_expression_47 rfl (fun _ _ => rfl) ?_
      refine j_getI (ci := 12) (N := 80) (f := 12) (T := TX12) dX12_expression_48 rfl (hG 112 (17, 80) rfl) rfl (by decide) fl_X12_260 rfl ?_
      refine j_iconst 1 dX12_expression_51 rfl (by decide) ?_
      refine j_iadd dX12_expression_52 rfl ?_
      refine j_putI (ci := 12) (N := 80) (f := 12) (T := TX12) dX12_expression_53 rfl (hG 112 (17, 80) rfl) rfl (by decide) fl_X12_260 rfl rfl ?_
      refine j_aload_n dX12_expression_56 rfl rfl ?_
      refine j_cV (as := []) (rest := []) dX12_expression_57 rfl vw_X12_254 (hG 112 (17, 80) rfl) rfl ⟨Nat.le_of_ble_eq_true rfl, Nat.le_of_ble_eq_true rfl⟩ rfl rfl (fun _ _ => Nat.le_of_ble_eq_true rfl) (e1 c0 c1) (fun r μ' hr => ?_)
      obtain ⟨rfl, hr⟩ := hr
      exact k1 c0 c1 μ' hr
    · skip
      refine j_aload_n dX12_expression_41 rfl rfl ?_
      refine j_iconst 2 dX12_expression_42 rfl (by decide) ?_
      refine j_cV (as := [.int 2]) (rest := []) dX12_expression_43 rfl vw_X12_248 (hG 112 (17, 80) rfl) rfl ⟨Nat.le_of_ble_eq_true rfl, Nat.le_of_ble_eq_true rfl⟩ rfl rfl (fun _ _ => Nat.le_of_ble_eq_true rfl) (e2 c0 c1) (fun r μ' hr => ?_)
      obtain ⟨rfl, hr⟩ := hr
      exact k2 c0 c1 μ' hr
theorem b_X12_expression_46 {l : Launch} {G : jG} {μ : jM} {φ : jM → Prop} {x1 : Int32} {ψ0 : jM → Prop} (hG : gMM G) (hP : gNN μ) 
    (e0 : jC0 l mX12_goesOn 1 G [.ref 112] (wI μ 112 12 ((μ.1 112 12) + 1)) (pV ψ0)) 
    (k0 : ∀ μ', ψ0 μ' → J l mX12_expression (jZ0 3 G (pV φ)) G 0 0 60 [.ref 112, .int x1, .null] [] μ') :
    J l mX12_expression (jZ0 3 G (pV φ)) G 0 0 46 [.ref 112, .int x1, .null] [] μ := by
  refine j_aload_n dX12_expression_46 rfl rfl ?_
  refine j_dup dX12_expression_47 rfl (fun _ _ => rfl) ?_
  refine j_getI (ci := 12) (N := 80) (f := 12) (T := TX12) dX12_expression_48 rfl (hG 112 (17, 80) rfl) rfl (by decide) fl_X12_260 rfl ?_
  refine j_iconst 1 dX12_expression_51 rfl (by decide) ?_
  refine j_iadd dX12_expression_52 rfl ?_
  refine j_putI (ci := 12) (N := 80) (f := 12) (T := TX12) dX12_expression_53 rfl (hG 112 (17, 80) rfl) rfl (by decide) fl_X12_260 rfl rfl ?_
  refine j_aload_n dX12_expression_56 rfl rfl ?_
  refine j_cV (as := []) (rest := []) dX12_expression_57 rfl vw_X12_254 (hG 112 (17, 80) rfl) rfl ⟨Nat.le_of_ble_eq_true rfl, Nat.le_of_ble_eq_true rfl⟩ rfl rfl (fun _ _ => Nat.le_of_ble_eq_true rfl) (e0 ) (fun r μ' hr => ?_)
  obtain ⟨rfl, hr⟩ := hr
  exact k0  μ' hr
theorem b_X12_expression_60 {l : Launch} {G : jG} {μ : jM} {φ : jM → Prop} {x1 : Int32} (hG : gMM G) (hP : gNN μ) 
    (o0 : vp_in (μ.1 112 52) 64) 
    (k0 : J l mX12_expression (jZ0 3 G (pV φ)) G 0 0 23 [.ref 112, .int x1, .null] [] (wI (wI μ 148 (Int32.toNatClampNeg (μ.1 112 52)) 6) 112 52 ((μ.1 112 52) + 1))) :
    J l mX12_expression (jZ0 3 G (pV φ)) G 0 0 60 [.ref 112, .int x1, .null] [] μ := by
  refine j_aload_n dX12_expression_60 rfl rfl ?_
  refine j_getR (ci := 12) (N := 80) (f := 51) (T := TX12) 148 dX12_expression_61 rfl (hG 112 (17, 80) rfl) rfl (by decide) fl_X12_125 rfl (hP 112 51 148 rfl) ?_
  refine j_aload_n dX12_expression_64 rfl rfl ?_
  refine j_getI (ci := 12) (N := 80) (f := 52) (T := TX12) dX12_expression_65 rfl (hG 112 (17, 80) rfl) rfl (by decide) fl_X12_332 rfl ?_
  refine j_bipush 6 dX12_expression_68 rfl (by decide) ?_
  refine j_iast' (j := (Int32.toNatClampNeg (μ.1 112 52))) dX12_expression_70 rfl (hG 148 (0, 64) rfl) o0 rfl ?_
  refine j_aload_n dX12_expression_71 rfl rfl ?_
  refine j_dup dX12_expression_72 rfl (fun _ _ => rfl) ?_
  refine j_getI (ci := 12) (N := 80) (f := 52) (T := TX12) dX12_expression_73 rfl (hG 112 (17, 80) rfl) rfl (by decide) fl_X12_332 rfl ?_
  refine j_iconst 1 dX12_expression_76 rfl (by decide) ?_
  refine j_iadd dX12_expression_77 rfl ?_
  refine j_putI (ci := 12) (N := 80) (f := 52) (T := TX12) dX12_expression_78 rfl (hG 112 (17, 80) rfl) rfl (by decide) fl_X12_332 rfl rfl ?_
  refine j_goto 23 dX12_expression_81 (by decide) ?_
  exact k0 
theorem b_X12_expression_88 {l : Launch} {G : jG} {μ : jM} {φ : jM → Prop} {x1 : Int32} (hG : gMM G) (hP : gNN μ) 
    (k0 : ((μ.1 112 13) ≤ (0 : Int32)) → J l mX12_expression (jZ0 3 G (pV φ)) G 0 0 96 [.ref 112, .int x1, .null] [] μ) 
    (k1 : (¬ ((μ.1 112 13) ≤ (0 : Int32))) → φ μ) :
    J l mX12_expression (jZ0 3 G (pV φ)) G 0 0 88 [.ref 112, .int x1, .null] [] μ := by
  refine j_aload_n dX12_expression_88 rfl rfl ?_
  refine j_getI (ci := 12) (N := 80) (f := 13) (T := TX12) dX12_expression_89 rfl (hG 112 (17, 80) rfl) rfl (by decide) fl_X12_233 rfl ?_
  refine j_if_le 96 dX12_expression_92 rfl (by decide) (fun c0 => ?_) (fun c0 => ?_)
  · skip
    exact k0 c0
  · skip
    exact j_vret dX12_expression_95 rfl (k1 c0)
theorem b_X12_expression_96 {l : Launch} {G : jG} {μ : jM} {φ : jM → Prop} {x1 : Int32} {ψ0 : Int32 → jM → Prop} (hG : gMM G) (hP : gNN μ) 
    (e0 : jC0 l mX12_is 0 G [.ref 112, .int 7] μ (pI ψ0)) 
    (k0 : ∀ v μ', ψ0 v μ' → J l mX12_expression (jZ0 3 G (pV φ)) G 0 0 102 [.ref 112, .int x1, .null] [.int v] μ') :
    J l mX12_expression (jZ0 3 G (pV φ)) G 0 0 96 [.ref 112, .int x1, .null] [] μ := by
  refine j_aload_n dX12_expression_96 rfl rfl ?_
  refine j_bipush 7 dX12_expression_97 rfl (by decide) ?_
  refine j_cV (as := [.int 7]) (rest := []) dX12_expression_99 rfl vw_X12_251 (hG 112 (17, 80) rfl) rfl ⟨Nat.le_of_ble_eq_true rfl, Nat.le_of_ble_eq_true rfl⟩ rfl rfl (fun _ _ => Nat.le_of_ble_eq_true rfl) (e0 ) (fun r μ' hr => ?_)
  obtain ⟨v, rfl, hr⟩ := hr
  exact k0  v μ' hr
theorem b_X12_expression_102 {l : Launch} {G : jG} {μ : jM} {φ : jM → Prop} {x1 z0 : Int32} {ψ0 : Int32 → jM → Prop} {ψ1 : Int32 → jM → Prop} {ψ2 : jM → Prop} (hG : gMM G) (hP : gNN μ) 
    (e0 : (z0 = (0 : Int32)) → jC0 l mX12_is 0 G [.ref 112, .int 8] μ (pI ψ0)) 
    (k0 : (z0 = (0 : Int32)) → ∀ v μ', ψ0 v μ' → J l mX12_expression (jZ0 3 G (pV φ)) G 0 0 151 [.ref 112, .int x1, .null] [.int v] μ') 
    (e1 : (¬ (z0 = (0 : Int32))) → ((μ.1 112 12) ≤ (x1 : Int32)) → jC0 l mX12_is 0 G [.ref 112, .int 8] μ (pI ψ1)) 
    (k1 : (¬ (z0 = (0 : Int32))) → ((μ.1 112 12) ≤ (x1 : Int32)) → ∀ v μ', ψ1 v μ' → J l mX12_expression (jZ0 3 G (pV φ)) G 0 0 151 [.ref 112, .int x1, .null] [.int v] μ') 
    (e2 : (¬ (z0 = (0 : Int32))) → (¬ ((μ.1 112 12) ≤ (x1 : Int32))) → jC0 l mX12_comesOut 1 G [.ref 112, .int 0] μ (pV ψ2)) 
    (k2 : (¬ (z0 = (0 : Int32))) → (¬ ((μ.1 112 12) ≤ (x1 : Int32))) → ∀ μ', ψ2 μ' → J l mX12_expression (jZ0 3 G (pV φ)) G 0 0 118 [.ref 112, .int x1, .null] [] μ') :
    J l mX12_expression (jZ0 3 G (pV φ)) G 0 0 102 [.ref 112, .int x1, .null] [.int z0] μ := by
  refine j_if_eq 145 dX12_expression_102 rfl (by decide) (fun c0 => ?_) (fun c0 => ?_)
  · skip
    refine j_aload_n dX12_expression_145 rfl rfl ?_
    refine j_bipush 8 dX12_expression_146 rfl (by decide) ?_
    refine j_cV (as := [.int 8]) (rest := []) dX12_expression_148 rfl vw_X12_251 (hG 112 (17, 80) rfl) rfl ⟨Nat.le_of_ble_eq_true rfl, Nat.le_of_ble_eq_true rfl⟩ rfl rfl (fun _ _ => Nat.le_of_ble_eq_true rfl) (e0 c0) (fun r μ' hr => ?_)
    obtain ⟨v, rfl, hr⟩ := hr
    exact k0 c0 v μ' hr
  · skip
    refine j_aload_n dX12_expression_105 rfl rfl ?_
    refine j_getI (ci := 12) (N := 80) (f := 12) (T := TX12) dX12_expression_106 rfl (hG 112 (17, 80) rfl) rfl (by decide) fl_X12_260 rfl ?_
    refine j_iload_n dX12_expression_109 rfl rfl ?_
    refine j_icmp_le 145 dX12_expression_110 rfl (by decide) (fun c1 => ?_) (fun c1 => ?_)
    · skip
      refine j_aload_n dX12_expression_145 rfl rfl ?_
      refine j_bipush 8 dX12_expression_146 rfl (by decide) ?_
      refine j_cV (as := [.int 8]) (rest := []) dX12_expression_148 rfl vw_X12_251 (hG 112 (17, 80) rfl) rfl ⟨Nat.le_of_ble_eq_true rfl, Nat.le_of_ble_eq_true rfl⟩ rfl rfl (fun _ _ => Nat.le_of_ble_eq_true rfl) (e1 c0 c1) (fun r μ' hr => ?_)
      obtain ⟨v, rfl, hr⟩ := hr
      exact k1 c0 c1 v μ' hr
    · skip
      refine j_aload_n dX12_expression_113 rfl rfl ?_
      refine j_iconst 0 dX12_expression_114 rfl (by decide) ?_
      refine j_cV (as := [.int 0]) (rest := []) dX12_expression_115 rfl vw_X12_341 (hG 112 (17, 80) rfl) rfl ⟨Nat.le_of_ble_eq_true rfl, Nat.le_of_ble_eq_true rfl⟩ rfl rfl (fun _ _ => Nat.le_of_ble_eq_true rfl) (e2 c0 c1) (fun r μ' hr => ?_)
      obtain ⟨rfl, hr⟩ := hr
      exact k2 c0 c1 μ' hr
theorem b_X12_expression_118 {l : Launch} {G : jG} {μ : jM} {φ : jM → Prop} {x1 : Int32} {ψ0 : jM → Prop} (hG : gMM G) (hP : gNN μ) 
    (e0 : jC0 l mX12_goesOn 1 G [.ref 112] (wI (wI μ 112 52 ((μ.1 112 52) - 1)) 112 12 ((μ.1 112 12) - 1)) (pV ψ0)) 
    (k0 : ∀ μ', ψ0 μ' → J l mX12_expression (jZ0 3 G (pV φ)) G 0 0 142 [.ref 112, .int x1, .null] [] μ') :
    J l mX12_expression (jZ0 3 G (pV φ)) G 0 0 118 [.ref 112, .int x1, .null] [] μ := by
  refine j_aload_n dX12_expression_118 rfl rfl ?_
  refine j_dup dX12_expression_119 rfl (fun _ _ => rfl) ?_
  refine j_getI (ci := 12) (N := 80) (f := 52) (T := TX12) dX12_expression_120 rfl (hG 112 (17, 80) rfl) rfl (by decide) fl_X12_332 rfl ?_
  refine j_iconst 1 dX12_expression_123 rfl (by decide) ?_
  refine j_isub dX12_expression_124 rfl ?_
  refine j_putI (ci := 12) (N := 80) (f := 52) (T := TX12) dX12_expression_125 rfl (hG 112 (17, 80) rfl) rfl (by decide) fl_X12_332 rfl rfl ?_
  refine j_aload_n dX12_expression_128 rfl rfl ?_
  refine j_dup dX12_expression_129 rfl (fun _ _ => rfl) ?_
  refine j_getI (ci := 12) (N := 80) (f := 12) (T := TX12) dX12_expression_130 rfl (hG 112 (17, 80) rfl) rfl (by decide) fl_X12_260 rfl ?_
  refine j_iconst 1 dX12_expression_133 rfl (by decide) ?_
  refine j_isub dX12_expression_134 rfl ?_
  refine j_putI (ci := 12) (N := 80) (f := 12) (T := TX12) dX12_expression_135 rfl (hG 112 (17, 80) rfl) rfl (by decide) fl_X12_260 rfl rfl ?_
  refine j_aload_n dX12_expression_138 rfl rfl ?_
  refine j_cV (as := []) (rest := []) dX12_expression_139 rfl vw_X12_254 (hG 112 (17, 80) rfl) rfl ⟨Nat.le_of_ble_eq_true rfl, Nat.le_of_ble_eq_true rfl⟩ rfl rfl (fun _ _ => Nat.le_of_ble_eq_true rfl) (e0 ) (fun r μ' hr => ?_)
  obtain ⟨rfl, hr⟩ := hr
  exact k0  μ' hr
theorem b_X12_expression_142 {l : Launch} {G : jG} {μ : jM} {φ : jM → Prop} {x1 : Int32} (hG : gMM G) (hP : gNN μ) 
    (k0 : J l mX12_expression (jZ0 3 G (pV φ)) G 0 0 96 [.ref 112, .int x1, .null] [] μ) :
    J l mX12_expression (jZ0 3 G (pV φ)) G 0 0 142 [.ref 112, .int x1, .null] [] μ := by
  refine j_goto 96 dX12_expression_142 (by decide) ?_
  exact k0 
theorem b_X12_expression_151 {l : Launch} {G : jG} {μ : jM} {φ : jM → Prop} {x1 z0 : Int32} {ψ0 : Int32 → jM → Prop} {ψ1 : jM → Prop} {ψ2 : jM → Prop} {ψ3 : Int32 → jM → Prop} (hG : gMM G) (hP : gNN μ) 
    (e0 : (¬ z0 = (0 : Int32)) → (¬ 1 = (0 : Int32)) → jC0 l mX12_is 0 G [.ref 112, .int 10] μ (pI ψ0)) 
    (k0 : (¬ z0 = (0 : Int32)) → (¬ 1 = (0 : Int32)) → ∀ v μ', ψ0 v μ' → J l mX12_expression (jZ0 3 G (pV φ)) G 0 0 217 [.ref 112, .int x1, .int 1] [.int v, .ref 112] μ') 
    (e1 : (¬ z0 = (0 : Int32)) → (1 = (0 : Int32)) → ((μ.1 112 12) ≤ (x1 : Int32)) → jC0 l mX12_comesOut 1 G [.ref 112, .int 0] μ (pV ψ1)) 
    (k1 : (¬ z0 = (0 : Int32)) → (1 = (0 : Int32)) → ((μ.1 112 12) ≤ (x1 : Int32)) → ∀ μ', ψ1 μ' → J l mX12_expression (jZ0 3 G (pV φ)) G 0 0 209 [.null, .null, .null] [] μ') 
    (e2 : (¬ z0 = (0 : Int32)) → (1 = (0 : Int32)) → (¬ ((μ.1 112 12) ≤ (x1 : Int32))) → jC0 l mX12_fail 0 G [.ref 112, .int 1] μ (pV ψ2)) 
    (k2 : (¬ z0 = (0 : Int32)) → (1 = (0 : Int32)) → (¬ ((μ.1 112 12) ≤ (x1 : Int32))) → ∀ μ', ψ2 μ' → J l mX12_expression (jZ0 3 G (pV φ)) G 0 0 204 [.ref 112, .null, .null] [] μ') 
    (e3 : (z0 = (0 : Int32)) → jC0 l mX12_is 0 G [.ref 112, .int 9] μ (pI ψ3)) 
    (k3 : (z0 = (0 : Int32)) → ∀ v μ', ψ3 v μ' → J l mX12_expression (jZ0 3 G (pV φ)) G 0 0 160 [.ref 112, .int x1, .null] [.int v] μ') :
    J l mX12_expression (jZ0 3 G (pV φ)) G 0 0 151 [.ref 112, .int x1, .null] [.int z0] μ := by
  refine j_if_ne 181 dX12_expression_151 rfl (by decide) (fun c0 => ?_) (fun c0 => ?_)
  · skip
    refine j_iconst 1 dX12_expression_181 rfl (by decide) ?_
    refine j_goto 186 dX12_expression_182 (by decide) ?_
    refine j_istore_n (ls' := [.ref 112, .int x1, .int 1]) dX12_expression_186 rfl rfl (Nat.le_of_ble_eq_true rfl) rfl ?_
    refine j_iload_n dX12_expression_187 rfl rfl ?_
    refine j_if_ne 210 dX12_expression_188 rfl (by decide) (fun c1 => ?_) (fun c1 => ?_)
    · skip
      refine j_aload_n dX12_expression_210 rfl rfl ?_
      refine j_aload_n dX12_expression_211 rfl rfl ?_
      refine j_bipush 10 dX12_expression_212 rfl (by decide) ?_
      refine j_cV (as := [.int 10]) (rest := [.ref 112]) dX12_expression_214 rfl vw_X12_251 (hG 112 (17, 80) rfl) rfl ⟨Nat.le_of_ble_eq_true rfl, Nat.le_of_ble_eq_true rfl⟩ rfl rfl (fun _ _ => Nat.le_of_ble_eq_true rfl) (e0 c0 c1) (fun r μ' hr => ?_)
      obtain ⟨v, rfl, hr⟩ := hr
      exact k0 c0 c1 v μ' hr
    · skip
      refine j_aload_n dX12_expression_191 rfl rfl ?_
      refine j_getI (ci := 12) (N := 80) (f := 12) (T := TX12) dX12_expression_192 rfl (hG 112 (17, 80) rfl) rfl (by decide) fl_X12_260 rfl ?_
      refine j_iload_n dX12_expression_195 rfl rfl ?_
      refine j_icmp_le 204 dX12_expression_196 rfl (by decide) (fun c2 => ?_) (fun c2 => ?_)
      · skip
        refine j_aload_n dX12_expression_204 rfl rfl ?_
        refine j_iconst 0 dX12_expression_205 rfl (by decide) ?_
        refine j_cV (as := [.int 0]) (rest := []) dX12_expression_206 rfl vw_X12_341 (hG 112 (17, 80) rfl) rfl ⟨Nat.le_of_ble_eq_true rfl, Nat.le_of_ble_eq_true rfl⟩ rfl rfl (fun _ _ => Nat.le_of_ble_eq_true rfl) (e1 c0 c1 c2) (fun r μ' hr => ?_)
        obtain ⟨rfl, hr⟩ := hr
        refine j_forget (ls' := [.null, .null, .null]) ⟨Or.inl rfl, Or.inl rfl, Or.inl rfl, trivial⟩ ?_
        exact k1 c0 c1 c2 μ' hr
      · skip
        refine j_aload_n dX12_expression_199 rfl rfl ?_
        refine j_iconst 1 dX12_expression_200 rfl (by decide) ?_
        refine j_cV (as := [.int 1]) (rest := []) dX12_expression_201 rfl vw_X12_248 (hG 112 (17, 80) rfl) rfl ⟨Nat.le_of_ble_eq_true rfl, Nat.le_of_ble_eq_true rfl⟩ rfl rfl (fun _ _ => Nat.le_of_ble_eq_true rfl) (e2 c0 c1 c2) (fun r μ' hr => ?_)
        obtain ⟨rfl, hr⟩ := hr
        refine j_forget (ls' := [.ref 112, .null, .null]) ⟨Or.inr rfl, Or.inl rfl, Or.inl rfl, trivial⟩ ?_
        exact k2 c0 c1 c2 μ' hr
  · skip
    refine j_aload_n dX12_expression_154 rfl rfl ?_
    refine j_bipush 9 dX12_expression_155 rfl (by decide) ?_
    refine j_cV (as := [.int 9]) (rest := []) dX12_expression_157 rfl vw_X12_251 (hG 112 (17, 80) rfl) rfl ⟨Nat.le_of_ble_eq_true rfl, Nat.le_of_ble_eq_true rfl⟩ rfl rfl (fun _ _ => Nat.le_of_ble_eq_true rfl) (e3 c0) (fun r μ' hr => ?_)
    obtain ⟨v, rfl, hr⟩ := hr
    exact k3 c0 v μ' hr
theorem b_X12_expression_160 {l : Launch} {G : jG} {μ : jM} {φ : jM → Prop} {x1 z0 : Int32} {ψ0 : Int32 → jM → Prop} {ψ1 : jM → Prop} {ψ2 : jM → Prop} {ψ3 : Int32 → jM → Prop} (hG : gMM G) (hP : gNN μ) 
    (e0 : (¬ z0 = (0 : Int32)) → (¬ 1 = (0 : Int32)) → jC0 l mX12_is 0 G [.ref 112, .int 10] μ (pI ψ0)) 
    (k0 : (¬ z0 = (0 : Int32)) → (¬ 1 = (0 : Int32)) → ∀ v μ', ψ0 v μ' → J l mX12_expression (jZ0 3 G (pV φ)) G 0 0 217 [.ref 112, .int x1, .int 1] [.int v, .ref 112] μ') 
    (e1 : (¬ z0 = (0 : Int32)) → (1 = (0 : Int32)) → ((μ.1 112 12) ≤ (x1 : Int32)) → jC0 l mX12_comesOut 1 G [.ref 112, .int 0] μ (pV ψ1)) 
    (k1 : (¬ z0 = (0 : Int32)) → (1 = (0 : Int32)) → ((μ.1 112 12) ≤ (x1 : Int32)) → ∀ μ', ψ1 μ' → J l mX12_expression (jZ0 3 G (pV φ)) G 0 0 209 [.null, .null, .null] [] μ') 
    (e2 : (¬ z0 = (0 : Int32)) → (1 = (0 : Int32)) → (¬ ((μ.1 112 12) ≤ (x1 : Int32))) → jC0 l mX12_fail 0 G [.ref 112, .int 1] μ (pV ψ2)) 
    (k2 : (¬ z0 = (0 : Int32)) → (1 = (0 : Int32)) → (¬ ((μ.1 112 12) ≤ (x1 : Int32))) → ∀ μ', ψ2 μ' → J l mX12_expression (jZ0 3 G (pV φ)) G 0 0 204 [.ref 112, .null, .null] [] μ') 
    (e3 : (z0 = (0 : Int32)) → jC0 l mX12_is 0 G [.ref 112, .int 10] μ (pI ψ3)) 
    (k3 : (z0 = (0 : Int32)) → ∀ v μ', ψ3 v μ' → J l mX12_expression (jZ0 3 G (pV φ)) G 0 0 169 [.ref 112, .int x1, .null] [.int v] μ') :
    J l mX12_expression (jZ0 3 G (pV φ)) G 0 0 160 [.ref 112, .int x1, .null] [.int z0] μ := by
  refine j_if_ne 181 dX12_expression_160 rfl (by decide) (fun c0 => ?_) (fun c0 => ?_)
  · skip
    refine j_iconst 1 dX12_expression_181 rfl (by decide) ?_
    refine j_goto 186 dX12_expression_182 (by decide) ?_
    refine j_istore_n (ls' := [.ref 112, .int x1, .int 1]) dX12_expression_186 rfl rfl (Nat.le_of_ble_eq_true rfl) rfl ?_
    refine j_iload_n dX12_expression_187 rfl rfl ?_
    refine j_if_ne 210 dX12_expression_188 rfl (by decide) (fun c1 => ?_) (fun c1 => ?_)
    · skip
      refine j_aload_n dX12_expression_210 rfl rfl ?_
      refine j_aload_n dX12_expression_211 rfl rfl ?_
      refine j_bipush 10 dX12_expression_212 rfl (by decide) ?_
      refine j_cV (as := [.int 10]) (rest := [.ref 112]) dX12_expression_214 rfl vw_X12_251 (hG 112 (17, 80) rfl) rfl ⟨Nat.le_of_ble_eq_true rfl, Nat.le_of_ble_eq_true rfl⟩ rfl rfl (fun _ _ => Nat.le_of_ble_eq_true rfl) (e0 c0 c1) (fun r μ' hr => ?_)
      obtain ⟨v, rfl, hr⟩ := hr
      exact k0 c0 c1 v μ' hr
    · skip
      refine j_aload_n dX12_expression_191 rfl rfl ?_
      refine j_getI (ci := 12) (N := 80) (f := 12) (T := TX12) dX12_expression_192 rfl (hG 112 (17, 80) rfl) rfl (by decide) fl_X12_260 rfl ?_
      refine j_iload_n dX12_expression_195 rfl rfl ?_
      refine j_icmp_le 204 dX12_expression_196 rfl (by decide) (fun c2 => ?_) (fun c2 => ?_)
      · skip
        refine j_aload_n dX12_expression_204 rfl rfl ?_
        refine j_iconst 0 dX12_expression_205 rfl (by decide) ?_
        refine j_cV (as := [.int 0]) (rest := []) dX12_expression_206 rfl vw_X12_341 (hG 112 (17, 80) rfl) rfl ⟨Nat.le_of_ble_eq_true rfl, Nat.le_of_ble_eq_true rfl⟩ rfl rfl (fun _ _ => Nat.le_of_ble_eq_true rfl) (e1 c0 c1 c2) (fun r μ' hr => ?_)
        obtain ⟨rfl, hr⟩ := hr
        refine j_forget (ls' := [.null, .null, .null]) ⟨Or.inl rfl, Or.inl rfl, Or.inl rfl, trivial⟩ ?_
        exact k1 c0 c1 c2 μ' hr
      · skip
        refine j_aload_n dX12_expression_199 rfl rfl ?_
        refine j_iconst 1 dX12_expression_200 rfl (by decide) ?_
        refine j_cV (as := [.int 1]) (rest := []) dX12_expression_201 rfl vw_X12_248 (hG 112 (17, 80) rfl) rfl ⟨Nat.le_of_ble_eq_true rfl, Nat.le_of_ble_eq_true rfl⟩ rfl rfl (fun _ _ => Nat.le_of_ble_eq_true rfl) (e2 c0 c1 c2) (fun r μ' hr => ?_)
        obtain ⟨rfl, hr⟩ := hr
        refine j_forget (ls' := [.ref 112, .null, .null]) ⟨Or.inr rfl, Or.inl rfl, Or.inl rfl, trivial⟩ ?_
        exact k2 c0 c1 c2 μ' hr
  · skip
    refine j_aload_n dX12_expression_163 rfl rfl ?_
    refine j_bipush 10 dX12_expression_164 rfl (by decide) ?_
    refine j_cV (as := [.int 10]) (rest := []) dX12_expression_166 rfl vw_X12_251 (hG 112 (17, 80) rfl) rfl ⟨Nat.le_of_ble_eq_true rfl, Nat.le_of_ble_eq_true rfl⟩ rfl rfl (fun _ _ => Nat.le_of_ble_eq_true rfl) (e3 c0) (fun r μ' hr => ?_)
    obtain ⟨v, rfl, hr⟩ := hr
    exact k3 c0 v μ' hr
theorem b_X12_expression_169 {l : Launch} {G : jG} {μ : jM} {φ : jM → Prop} {x1 z0 : Int32} {ψ0 : Int32 → jM → Prop} {ψ1 : jM → Prop} {ψ2 : jM → Prop} {ψ3 : Int32 → jM → Prop} (hG : gMM G) (hP : gNN μ) 
    (e0 : (¬ z0 = (0 : Int32)) → (¬ 1 = (0 : Int32)) → jC0 l mX12_is 0 G [.ref 112, .int 10] μ (pI ψ0)) 
    (k0 : (¬ z0 = (0 : Int32)) → (¬ 1 = (0 : Int32)) → ∀ v μ', ψ0 v μ' → J l mX12_expression (jZ0 3 G (pV φ)) G 0 0 217 [.ref 112, .int x1, .int 1] [.int v, .ref 112] μ') 
    (e1 : (¬ z0 = (0 : Int32)) → (1 = (0 : Int32)) → ((μ.1 112 12) ≤ (x1 : Int32)) → jC0 l mX12_comesOut 1 G [.ref 112, .int 0] μ (pV ψ1)) 
    (k1 : (¬ z0 = (0 : Int32)) → (1 = (0 : Int32)) → ((μ.1 112 12) ≤ (x1 : Int32)) → ∀ μ', ψ1 μ' → J l mX12_expression (jZ0 3 G (pV φ)) G 0 0 209 [.null, .null, .null] [] μ') 
    (e2 : (¬ z0 = (0 : Int32)) → (1 = (0 : Int32)) → (¬ ((μ.1 112 12) ≤ (x1 : Int32))) → jC0 l mX12_fail 0 G [.ref 112, .int 1] μ (pV ψ2)) 
    (k2 : (¬ z0 = (0 : Int32)) → (1 = (0 : Int32)) → (¬ ((μ.1 112 12) ≤ (x1 : Int32))) → ∀ μ', ψ2 μ' → J l mX12_expression (jZ0 3 G (pV φ)) G 0 0 204 [.ref 112, .null, .null] [] μ') 
    (e3 : (z0 = (0 : Int32)) → jC0 l mX12_is 0 G [.ref 112, .int 15] μ (pI ψ3)) 
    (k3 : (z0 = (0 : Int32)) → ∀ v μ', ψ3 v μ' → J l mX12_expression (jZ0 3 G (pV φ)) G 0 0 178 [.ref 112, .int x1, .null] [.int v] μ') :
    J l mX12_expression (jZ0 3 G (pV φ)) G 0 0 169 [.ref 112, .int x1, .null] [.int z0] μ := by
  refine j_if_ne 181 dX12_expression_169 rfl (by decide) (fun c0 => ?_) (fun c0 => ?_)
  · skip
    refine j_iconst 1 dX12_expression_181 rfl (by decide) ?_
    refine j_goto 186 dX12_expression_182 (by decide) ?_
    refine j_istore_n (ls' := [.ref 112, .int x1, .int 1]) dX12_expression_186 rfl rfl (Nat.le_of_ble_eq_true rfl) rfl ?_
    refine j_iload_n dX12_expression_187 rfl rfl ?_
    refine j_if_ne 210 dX12_expression_188 rfl (by decide) (fun c1 => ?_) (fun c1 => ?_)
    · skip
      refine j_aload_n dX12_expression_210 rfl rfl ?_
      refine j_aload_n dX12_expression_211 rfl rfl ?_
      refine j_bipush 10 dX12_expression_212 rfl (by decide) ?_
      refine j_cV (as := [.int 10]) (rest := [.ref 112]) dX12_expression_214 rfl vw_X12_251 (hG 112 (17, 80) rfl) rfl ⟨Nat.le_of_ble_eq_true rfl, Nat.le_of_ble_eq_true rfl⟩ rfl rfl (fun _ _ => Nat.le_of_ble_eq_true rfl) (e0 c0 c1) (fun r μ' hr => ?_)
      obtain ⟨v, rfl, hr⟩ := hr
      exact k0 c0 c1 v μ' hr
    · skip
      refine j_aload_n dX12_expression_191 rfl rfl ?_
      refine j_getI (ci := 12) (N := 80) (f := 12) (T := TX12) dX12_expression_192 rfl (hG 112 (17, 80) rfl) rfl (by decide) fl_X12_260 rfl ?_
      refine j_iload_n dX12_expression_195 rfl rfl ?_
      refine j_icmp_le 204 dX12_expression_196 rfl (by decide) (fun c2 => ?_) (fun c2 => ?_)
      · skip
        refine j_aload_n dX12_expression_204 rfl rfl ?_
        refine j_iconst 0 dX12_expression_205 rfl (by decide) ?_
        refine j_cV (as := [.int 0]) (rest := []) dX12_expression_206 rfl vw_X12_341 (hG 112 (17, 80) rfl) rfl ⟨Nat.le_of_ble_eq_true rfl, Nat.le_of_ble_eq_true rfl⟩ rfl rfl (fun _ _ => Nat.le_of_ble_eq_true rfl) (e1 c0 c1 c2) (fun r μ' hr => ?_)
        obtain ⟨rfl, hr⟩ := hr
        refine j_forget (ls' := [.null, .null, .null]) ⟨Or.inl rfl, Or.inl rfl, Or.inl rfl, trivial⟩ ?_
        exact k1 c0 c1 c2 μ' hr
      · skip
        refine j_aload_n dX12_expression_199 rfl rfl ?_
        refine j_iconst 1 dX12_expression_200 rfl (by decide) ?_
        refine j_cV (as := [.int 1]) (rest := []) dX12_expression_201 rfl vw_X12_248 (hG 112 (17, 80) rfl) rfl ⟨Nat.le_of_ble_eq_true rfl, Nat.le_of_ble_eq_true rfl⟩ rfl rfl (fun _ _ => Nat.le_of_ble_eq_true rfl) (e2 c0 c1 c2) (fun r μ' hr => ?_)
        obtain ⟨rfl, hr⟩ := hr
        refine j_forget (ls' := [.ref 112, .null, .null]) ⟨Or.inr rfl, Or.inl rfl, Or.inl rfl, trivial⟩ ?_
        exact k2 c0 c1 c2 μ' hr
  · skip
    refine j_aload_n dX12_expression_172 rfl rfl ?_
    refine j_bipush 15 dX12_expression_173 rfl (by decide) ?_
    refine j_cV (as := [.int 15]) (rest := []) dX12_expression_175 rfl vw_X12_251 (hG 112 (17, 80) rfl) rfl ⟨Nat.le_of_ble_eq_true rfl, Nat.le_of_ble_eq_true rfl⟩ rfl rfl (fun _ _ => Nat.le_of_ble_eq_true rfl) (e3 c0) (fun r μ' hr => ?_)
    obtain ⟨v, rfl, hr⟩ := hr
    exact k3 c0 v μ' hr
theorem b_X12_expression_178 {l : Launch} {G : jG} {μ : jM} {φ : jM → Prop} {x1 z0 : Int32} {ψ0 : Int32 → jM → Prop} {ψ1 : jM → Prop} {ψ2 : jM → Prop} {ψ3 : Int32 → jM → Prop} {ψ4 : jM → Prop} {ψ5 : jM → Prop} (hG : gMM G) (hP : gNN μ) 
    (e0 : (z0 = (0 : Int32)) → (¬ 0 = (0 : Int32)) → jC0 l mX12_is 0 G [.ref 112, .int 10] μ (pI ψ0)) 
    (k0 : (z0 = (0 : Int32)) → (¬ 0 = (0 : Int32)) → ∀ v μ', ψ0 v μ' → J l mX12_expression (jZ0 3 G (pV φ)) G 0 0 217 [.ref 112, .int x1, .int 0] [.int v, .ref 112] μ') 
    (e1 : (z0 = (0 : Int32)) → (0 = (0 : Int32)) → ((μ.1 112 12) ≤ (x1 : Int32)) → jC0 l mX12_comesOut 1 G [.ref 112, .int 0] μ (pV ψ1)) 
    (k1 : (z0 = (0 : Int32)) → (0 = (0 : Int32)) → ((μ.1 112 12) ≤ (x1 : Int32)) → ∀ μ', ψ1 μ' → J l mX12_expression (jZ0 3 G (pV φ)) G 0 0 209 [.null, .null, .null] [] μ') 
    (e2 : (z0 = (0 : Int32)) → (0 = (0 : Int32)) → (¬ ((μ.1 112 12) ≤ (x1 : Int32))) → jC0 l mX12_fail 0 G [.ref 112, .int 1] μ (pV ψ2)) 
    (k2 : (z0 = (0 : Int32)) → (0 = (0 : Int32)) → (¬ ((μ.1 112 12) ≤ (x1 : Int32))) → ∀ μ', ψ2 μ' → J l mX12_expression (jZ0 3 G (pV φ)) G 0 0 204 [.ref 112, .null, .null] [] μ') 
    (e3 : (¬ (z0 = (0 : Int32))) → (¬ 1 = (0 : Int32)) → jC0 l mX12_is 0 G [.ref 112, .int 10] μ (pI ψ3)) 
    (k3 : (¬ (z0 = (0 : Int32))) → (¬ 1 = (0 : Int32)) → ∀ v μ', ψ3 v μ' → J l mX12_expression (jZ0 3 G (pV φ)) G 0 0 217 [.ref 112, .int x1, .int 1] [.int v, .ref 112] μ') 
    (e4 : (¬ (z0 = (0 : Int32))) → (1 = (0 : Int32)) → ((μ.1 112 12) ≤ (x1 : Int32)) → jC0 l mX12_comesOut 1 G [.ref 112, .int 0] μ (pV ψ4)) 
    (k4 : (¬ (z0 = (0 : Int32))) → (1 = (0 : Int32)) → ((μ.1 112 12) ≤ (x1 : Int32)) → ∀ μ', ψ4 μ' → J l mX12_expression (jZ0 3 G (pV φ)) G 0 0 209 [.null, .null, .null] [] μ') 
    (e5 : (¬ (z0 = (0 : Int32))) → (1 = (0 : Int32)) → (¬ ((μ.1 112 12) ≤ (x1 : Int32))) → jC0 l mX12_fail 0 G [.ref 112, .int 1] μ (pV ψ5)) 
    (k5 : (¬ (z0 = (0 : Int32))) → (1 = (0 : Int32)) → (¬ ((μ.1 112 12) ≤ (x1 : Int32))) → ∀ μ', ψ5 μ' → J l mX12_expression (jZ0 3 G (pV φ)) G 0 0 204 [.ref 112, .null, .null] [] μ') :
    J l mX12_expression (jZ0 3 G (pV φ)) G 0 0 178 [.ref 112, .int x1, .null] [.int z0] μ := by
  refine j_if_eq 185 dX12_expression_178 rfl (by decide) (fun c0 => ?_) (fun c0 => ?_)
  · skip
    refine j_iconst 0 dX12_expression_185 rfl (by decide) ?_
    refine j_istore_n (ls' := [.ref 112, .int x1, .int 0]) dX12_expression_186 rfl rfl (Nat.le_of_ble_eq_true rfl) rfl ?_
    refine j_iload_n dX12_expression_187 rfl rfl ?_
    refine j_if_ne 210 dX12_expression_188 rfl (by decide) (fun c1 => ?_) (fun c1 => ?_)
    · skip
      refine j_aload_n dX12_expression_210 rfl rfl ?_
      refine j_aload_n dX12_expression_211 rfl rfl ?_
      refine j_bipush 10 dX12_expression_212 rfl (by decide) ?_
      refine j_cV (as := [.int 10]) (rest := [.ref 112]) dX12_expression_214 rfl vw_X12_251 (hG 112 (17, 80) rfl) rfl ⟨Nat.le_of_ble_eq_true rfl, Nat.le_of_ble_eq_true rfl⟩ rfl rfl (fun _ _ => Nat.le_of_ble_eq_true rfl) (e0 c0 c1) (fun r μ' hr => ?_)
      obtain ⟨v, rfl, hr⟩ := hr
      exact k0 c0 c1 v μ' hr
    · skip
      refine j_aload_n dX12_expression_191 rfl rfl ?_
      refine j_getI (ci := 12) (N := 80) (f := 12) (T := TX12) dX12_expression_192 rfl (hG 112 (17, 80) rfl) rfl (by decide) fl_X12_260 rfl ?_
      refine j_iload_n dX12_expression_195 rfl rfl ?_
      refine j_icmp_le 204 dX12_expression_196 rfl (by decide) (fun c2 => ?_) (fun c2 => ?_)
      · skip
        refine j_aload_n dX12_expression_204 rfl rfl ?_
        refine j_iconst 0 dX12_expression_205 rfl (by decide) ?_
        refine j_cV (as := [.int 0]) (rest := []) dX12_expression_206 rfl vw_X12_341 (hG 112 (17, 80) rfl) rfl ⟨Nat.le_of_ble_eq_true rfl, Nat.le_of_ble_eq_true rfl⟩ rfl rfl (fun _ _ => Nat.le_of_ble_eq_true rfl) (e1 c0 c1 c2) (fun r μ' hr => ?_)
        obtain ⟨rfl, hr⟩ := hr
        refine j_forget (ls' := [.null, .null, .null]) ⟨Or.inl rfl, Or.inl rfl, Or.inl rfl, trivial⟩ ?_
        exact k1 c0 c1 c2 μ' hr
      · skip
        refine j_aload_n dX12_expression_199 rfl rfl ?_
        refine j_iconst 1 dX12_expression_200 rfl (by decide) ?_
        refine j_cV (as := [.int 1]) (rest := []) dX12_expression_201 rfl vw_X12_248 (hG 112 (17, 80) rfl) rfl ⟨Nat.le_of_ble_eq_true rfl, Nat.le_of_ble_eq_true rfl⟩ rfl rfl (fun _ _ => Nat.le_of_ble_eq_true rfl) (e2 c0 c1 c2) (fun r μ' hr => ?_)
        obtain ⟨rfl, hr⟩ := hr
        refine j_forget (ls' := [.ref 112, .null, .null]) ⟨Or.inr rfl, Or.inl rfl, Or.inl rfl, trivial⟩ ?_
        exact k2 c0 c1 c2 μ' hr
  · skip
    refine j_iconst 1 dX12_expression_181 rfl (by decide) ?_
    refine j_goto 186 dX12_expression_182 (by decide) ?_
    refine j_istore_n (ls' := [.ref 112, .int x1, .int 1]) dX12_expression_186 rfl rfl (Nat.le_of_ble_eq_true rfl) rfl ?_
    refine j_iload_n dX12_expression_187 rfl rfl ?_
    refine j_if_ne 210 dX12_expression_188 rfl (by decide) (fun c3 => ?_) (fun c3 => ?_)
    · skip
      refine j_aload_n dX12_expression_210 rfl rfl ?_
      refine j_aload_n dX12_expression_211 rfl rfl ?_
      refine j_bipush 10 dX12_expression_212 rfl (by decide) ?_
      refine j_cV (as := [.int 10]) (rest := [.ref 112]) dX12_expression_214 rfl vw_X12_251 (hG 112 (17, 80) rfl) rfl ⟨Nat.le_of_ble_eq_true rfl, Nat.le_of_ble_eq_true rfl⟩ rfl rfl (fun _ _ => Nat.le_of_ble_eq_true rfl) (e3 c0 c3) (fun r μ' hr => ?_)
      obtain ⟨v, rfl, hr⟩ := hr
      exact k3 c0 c3 v μ' hr
    · skip
      refine j_aload_n dX12_expression_191 rfl rfl ?_
      refine j_getI (ci := 12) (N := 80) (f := 12) (T := TX12) dX12_expression_192 rfl (hG 112 (17, 80) rfl) rfl (by decide) fl_X12_260 rfl ?_
      refine j_iload_n dX12_expression_195 rfl rfl ?_
      refine j_icmp_le 204 dX12_expression_196 rfl (by decide) (fun c4 => ?_) (fun c4 => ?_)
      · skip
        refine j_aload_n dX12_expression_204 rfl rfl ?_
        refine j_iconst 0 dX12_expression_205 rfl (by decide) ?_
        refine j_cV (as := [.int 0]) (rest := []) dX12_expression_206 rfl vw_X12_341 (hG 112 (17, 80) rfl) rfl ⟨Nat.le_of_ble_eq_true rfl, Nat.le_of_ble_eq_true rfl⟩ rfl rfl (fun _ _ => Nat.le_of_ble_eq_true rfl) (e4 c0 c3 c4) (fun r μ' hr => ?_)
        obtain ⟨rfl, hr⟩ := hr
        refine j_forget (ls' := [.null, .null, .null]) ⟨Or.inl rfl, Or.inl rfl, Or.inl rfl, trivial⟩ ?_
        exact k4 c0 c3 c4 μ' hr
      · skip
        refine j_aload_n dX12_expression_199 rfl rfl ?_
        refine j_iconst 1 dX12_expression_200 rfl (by decide) ?_
        refine j_cV (as := [.int 1]) (rest := []) dX12_expression_201 rfl vw_X12_248 (hG 112 (17, 80) rfl) rfl ⟨Nat.le_of_ble_eq_true rfl, Nat.le_of_ble_eq_true rfl⟩ rfl rfl (fun _ _ => Nat.le_of_ble_eq_true rfl) (e5 c0 c3 c4) (fun r μ' hr => ?_)
        obtain ⟨rfl, hr⟩ := hr
        refine j_forget (ls' := [.ref 112, .null, .null]) ⟨Or.inr rfl, Or.inl rfl, Or.inl rfl, trivial⟩ ?_
        exact k5 c0 c3 c4 μ' hr
theorem b_X12_expression_204 {l : Launch} {G : jG} {μ : jM} {φ : jM → Prop} {ψ0 : jM → Prop} (hG : gMM G) (hP : gNN μ) 
    (e0 : jC0 l mX12_comesOut 1 G [.ref 112, .int 0] μ (pV ψ0)) 
    (k0 : ∀ μ', ψ0 μ' → J l mX12_expression (jZ0 3 G (pV φ)) G 0 0 209 [.null, .null, .null] [] μ') :
    J l mX12_expression (jZ0 3 G (pV φ)) G 0 0 204 [.ref 112, .null, .null] [] μ := by
  refine j_aload_n dX12_expression_204 rfl rfl ?_
  refine j_iconst 0 dX12_expression_205 rfl (by decide) ?_
  refine j_cV (as := [.int 0]) (rest := []) dX12_expression_206 rfl vw_X12_341 (hG 112 (17, 80) rfl) rfl ⟨Nat.le_of_ble_eq_true rfl, Nat.le_of_ble_eq_true rfl⟩ rfl rfl (fun _ _ => Nat.le_of_ble_eq_true rfl) (e0 ) (fun r μ' hr => ?_)
  obtain ⟨rfl, hr⟩ := hr
  refine j_forget (ls' := [.null, .null, .null]) ⟨Or.inl rfl, Or.inr rfl, Or.inr rfl, trivial⟩ ?_
  exact k0  μ' hr
theorem b_X12_expression_209 {l : Launch} {G : jG} {μ : jM} {φ : jM → Prop} (hG : gMM G) (hP : gNN μ) 
    (k0 : φ μ) :
    J l mX12_expression (jZ0 3 G (pV φ)) G 0 0 209 [.null, .null, .null] [] μ := by
  exact j_vret dX12_expression_209 rfl (k0 )
theorem b_X12_expression_217 {l : Launch} {G : jG} {μ : jM} {φ : jM → Prop} {x1 x2 z0 : Int32} {ψ0 : jM → Prop} {ψ1 : Int32 → jM → Prop} (hG : gMM G) (hP : gNN μ) 
    (e0 : (¬ z0 = (0 : Int32)) → jC0 l mX12_comesOut 1 G [.ref 112, .int 1] μ (pV ψ0)) 
    (k0 : (¬ z0 = (0 : Int32)) → ∀ μ', ψ0 μ' → J l mX12_expression (jZ0 3 G (pV φ)) G 0 0 237 [.ref 112, .int x1, .int x2] [] μ') 
    (e1 : (z0 = (0 : Int32)) → jC0 l mX12_is 0 G [.ref 112, .int 15] μ (pI ψ1)) 
    (k1 : (z0 = (0 : Int32)) → ∀ v μ', ψ1 v μ' → J l mX12_expression (jZ0 3 G (pV φ)) G 0 0 226 [.ref 112, .int x1, .int x2] [.int v, .ref 112] μ') :
    J l mX12_expression (jZ0 3 G (pV φ)) G 0 0 217 [.ref 112, .int x1, .int x2] [.int z0, .ref 112] μ := by
  refine j_if_ne 229 dX12_expression_217 rfl (by decide) (fun c0 => ?_) (fun c0 => ?_)
  · skip
    refine j_iconst 1 dX12_expression_229 rfl (by decide) ?_
    refine j_goto 234 dX12_expression_230 (by decide) ?_
    refine j_cV (as := [.int 1]) (rest := []) dX12_expression_234 rfl vw_X12_341 (hG 112 (17, 80) rfl) rfl ⟨Nat.le_of_ble_eq_true rfl, Nat.le_of_ble_eq_true rfl⟩ rfl rfl (fun _ _ => Nat.le_of_ble_eq_true rfl) (e0 c0) (fun r μ' hr => ?_)
    obtain ⟨rfl, hr⟩ := hr
    exact k0 c0 μ' hr
  · skip
    refine j_aload_n dX12_expression_220 rfl rfl ?_
    refine j_bipush 15 dX12_expression_221 rfl (by decide) ?_
    refine j_cV (as := [.int 15]) (rest := [.ref 112]) dX12_expression_223 rfl vw_X12_251 (hG 112 (17, 80) rfl) rfl ⟨Nat.le_of_ble_eq_true rfl, Nat.le_of_ble_eq_true rfl⟩ rfl rfl (fun _ _ => Nat.le_of_ble_eq_true rfl) (e1 c0) (fun r μ' hr => ?_)
    obtain ⟨v, rfl, hr⟩ := hr
    exact k1 c0 v μ' hr
theorem b_X12_expression_226 {l : Launch} {G : jG} {μ : jM} {φ : jM → Prop} {x1 x2 z0 : Int32} {ψ0 : jM → Prop} {ψ1 : jM → Prop} (hG : gMM G) (hP : gNN μ) 
    (e0 : (z0 = (0 : Int32)) → jC0 l mX12_comesOut 1 G [.ref 112, .int 0] μ (pV ψ0)) 
    (k0 : (z0 = (0 : Int32)) → ∀ μ', ψ0 μ' → J l mX12_expression (jZ0 3 G (pV φ)) G 0 0 237 [.ref 112, .int x1, .int x2] [] μ') 
    (e1 : (¬ (z0 = (0 : Int32))) → jC0 l mX12_comesOut 1 G [.ref 112, .int 1] μ (pV ψ1)) 
    (k1 : (¬ (z0 = (0 : Int32))) → ∀ μ', ψ1 μ' → J l mX12_expression (jZ0 3 G (pV φ)) G 0 0 237 [.ref 112, .int x1, .int x2] [] μ') :
    J l mX12_expression (jZ0 3 G (pV φ)) G 0 0 226 [.ref 112, .int x1, .int x2] [.int z0, .ref 112] μ := by
  refine j_if_eq 233 dX12_expression_226 rfl (by decide) (fun c0 => ?_) (fun c0 => ?_)
  · skip
    refine j_iconst 0 dX12_expression_233 rfl (by decide) ?_
    refine j_cV (as := [.int 0]) (rest := []) dX12_expression_234 rfl vw_X12_341 (hG 112 (17, 80) rfl) rfl ⟨Nat.le_of_ble_eq_true rfl, Nat.le_of_ble_eq_true rfl⟩ rfl rfl (fun _ _ => Nat.le_of_ble_eq_true rfl) (e0 c0) (fun r μ' hr => ?_)
    obtain ⟨rfl, hr⟩ := hr
    exact k0 c0 μ' hr
  · skip
    refine j_iconst 1 dX12_expression_229 rfl (by decide) ?_
    refine j_goto 234 dX12_expression_230 (by decide) ?_
    refine j_cV (as := [.int 1]) (rest := []) dX12_expression_234 rfl vw_X12_341 (hG 112 (17, 80) rfl) rfl ⟨Nat.le_of_ble_eq_true rfl, Nat.le_of_ble_eq_true rfl⟩ rfl rfl (fun _ _ => Nat.le_of_ble_eq_true rfl) (e1 c0) (fun r μ' hr => ?_)
    obtain ⟨rfl, hr⟩ := hr
    exact k1 c0 μ' hr
theorem b_X12_expression_237 {l : Launch} {G : jG} {μ : jM} {φ : jM → Prop} {x1 x2 : Int32} {ψ0 : jM → Prop} (hG : gMM G) (hP : gNN μ) 
    (o0 : vp_in (μ.1 112 11) 403) 
    (o1 : vp_in (μ.1 112 52) 64) 
    (e0 : jC0 l mX12_goesOn 1 G [.ref 112] (wI (wI μ 148 (Int32.toNatClampNeg (μ.1 112 52)) (μ.1 115 (Int32.toNatClampNeg (μ.1 112 11)))) 112 52 ((μ.1 112 52) + 1)) (pV ψ0)) 
    (k0 : ∀ μ', ψ0 μ' → J l mX12_expression (jZ0 3 G (pV φ)) G 0 0 269 [.ref 112, .int x1, .int x2] [] μ') :
    J l mX12_expression (jZ0 3 G (pV φ)) G 0 0 237 [.ref 112, .int x1, .int x2] [] μ := by
  refine j_aload_n dX12_expression_237 rfl rfl ?_
  refine j_getR (ci := 12) (N := 80) (f := 51) (T := TX12) 148 dX12_expression_238 rfl (hG 112 (17, 80) rfl) rfl (by decide) fl_X12_125 rfl (hP 112 51 148 rfl) ?_
  refine j_aload_n dX12_expression_241 rfl rfl ?_
  refine j_getI (ci := 12) (N := 80) (f := 52) (T := TX12) dX12_expression_242 rfl (hG 112 (17, 80) rfl) rfl (by decide) fl_X12_332 rfl ?_
  refine j_aload_n dX12_expression_245 rfl rfl ?_
  refine j_getR (ci := 12) (N := 80) (f := 5) (T := TX12) 115 dX12_expression_246 rfl (hG 112 (17, 80) rfl) rfl (by decide) fl_X12_20 rfl (hP 112 5 115 rfl) ?_
  refine j_aload_n dX12_expression_249 rfl rfl ?_
  refine j_getI (ci := 12) (N := 80) (f := 11) (T := TX12) dX12_expression_250 rfl (hG 112 (17, 80) rfl) rfl (by decide) fl_X12_236 rfl ?_
  refine j_iald' (j := (Int32.toNatClampNeg (μ.1 112 11))) dX12_expression_253 rfl (hG 115 (0, 403) rfl) o0 rfl ?_
  refine j_iast' (j := (Int32.toNatClampNeg (μ.1 112 52))) dX12_expression_254 rfl (hG 148 (0, 64) rfl) o1 rfl ?_
  refine j_aload_n dX12_expression_255 rfl rfl ?_
  refine j_dup dX12_expression_256 rfl (fun _ _ => rfl) ?_
  refine j_getI (ci := 12) (N := 80) (f := 52) (T := TX12) dX12_expression_257 rfl (hG 112 (17, 80) rfl) rfl (by decide) fl_X12_332 rfl ?_
  refine j_iconst 1 dX12_expression_260 rfl (by decide) ?_
  refine j_iadd dX12_expression_261 rfl ?_
  refine j_putI (ci := 12) (N := 80) (f := 52) (T := TX12) dX12_expression_262 rfl (hG 112 (17, 80) rfl) rfl (by decide) fl_X12_332 rfl rfl ?_
  refine j_aload_n dX12_expression_265 rfl rfl ?_
  refine j_cV (as := []) (rest := []) dX12_expression_266 rfl vw_X12_254 (hG 112 (17, 80) rfl) rfl ⟨Nat.le_of_ble_eq_true rfl, Nat.le_of_ble_eq_true rfl⟩ rfl rfl (fun _ _ => Nat.le_of_ble_eq_true rfl) (e0 ) (fun r μ' hr => ?_)
  obtain ⟨rfl, hr⟩ := hr
  exact k0  μ' hr
theorem b_X12_expression_269 {l : Launch} {G : jG} {μ : jM} {φ : jM → Prop} {x1 x2 : Int32} (hG : gMM G) (hP : gNN μ) 
    (k0 : J l mX12_expression (jZ0 3 G (pV φ)) G 0 0 12 [.ref 112, .int x1, .int x2] [] μ) :
    J l mX12_expression (jZ0 3 G (pV φ)) G 0 0 269 [.ref 112, .int x1, .int x2] [] μ := by
  refine j_goto 12 dX12_expression_269 (by decide) ?_
  exact k0 
theorem b_X12_unit_0 {l : Launch} {G : jG} {μ : jM} {φ : jM → Prop} {ψ0 : Int32 → jM → Prop} (hG : gMM G) (hP : gNN μ) 
    (e0 : jC0 l mX12_is 0 G [.ref 112, .int 2] μ (pI ψ0)) 
    (k0 : ∀ v μ', ψ0 v μ' → J l mX12_unit (jZ0 2 G (pV φ)) G 0 0 5 [.ref 112] [.int v] μ') :
    J l mX12_unit (jZ0 2 G (pV φ)) G 0 0 0 [.ref 112] [] μ := by
  refine j_aload_n dX12_unit_0 rfl rfl ?_
  refine j_iconst 2 dX12_unit_1 rfl (by decide) ?_
  refine j_cV (as := [.int 2]) (rest := []) dX12_unit_2 rfl vw_X12_251 (hG 112 (17, 80) rfl) rfl ⟨Nat.le_of_ble_eq_true rfl, Nat.le_of_ble_eq_true rfl⟩ rfl rfl (fun _ _ => Nat.le_of_ble_eq_true rfl) (e0 ) (fun r μ' hr => ?_)
  obtain ⟨v, rfl, hr⟩ := hr
  exact k0  v μ' hr
theorem b_X12_unit_5 {l : Launch} {G : jG} {μ : jM} {φ : jM → Prop} {z0 : Int32} {ψ0 : jM → Prop} {ψ1 : jM → Prop} {ψ2 : jM → Prop} {ψ3 : jM → Prop} {ψ4 : jM → Prop} (hG : gMM G) (hP : gNN μ) 
    (e0 : (z0 = (0 : Int32)) → (¬ (μ.1 112 13) = (0 : Int32)) → jC0 l mX12_fail 0 G [.ref 112, .int 1] μ (pV ψ0)) 
    (k0 : (z0 = (0 : Int32)) → (¬ (μ.1 112 13) = (0 : Int32)) → ∀ μ', ψ0 μ' → J l mX12_unit (jZ0 2 G (pV φ)) G 0 0 93 [.null] [] μ') 
    (o0 : (z0 = (0 : Int32)) → ((μ.1 112 13) = (0 : Int32)) → vp_in (μ.1 112 11) 403) 
    (e1 : (z0 = (0 : Int32)) → ((μ.1 112 13) = (0 : Int32)) → ((μ.1 115 (Int32.toNatClampNeg (μ.1 112 11))) < (34 : Int32)) → jC0 l mX12_fail 0 G [.ref 112, .int 1] μ (pV ψ1)) 
    (k1 : (z0 = (0 : Int32)) → ((μ.1 112 13) = (0 : Int32)) → ((μ.1 115 (Int32.toNatClampNeg (μ.1 112 11))) < (34 : Int32)) → ∀ μ', ψ1 μ' → J l mX12_unit (jZ0 2 G (pV φ)) G 0 0 93 [.null] [] μ') 
    (e2 : (z0 = (0 : Int32)) → ((μ.1 112 13) = (0 : Int32)) → (¬ ((μ.1 115 (Int32.toNatClampNeg (μ.1 112 11))) < (34 : Int32))) → (42 < ((μ.1 115 (Int32.toNatClampNeg (μ.1 112 11))) : Int32)) → jC0 l mX12_fail 0 G [.ref 112, .int 1] μ (pV ψ2)) 
    (k2 : (z0 = (0 : Int32)) → ((μ.1 112 13) = (0 : Int32)) → (¬ ((μ.1 115 (Int32.toNatClampNeg (μ.1 112 11))) < (34 : Int32))) → (42 < ((μ.1 115 (Int32.toNatClampNeg (μ.1 112 11))) : Int32)) → ∀ μ', ψ2 μ' → J l mX12_unit (jZ0 2 G (pV φ)) G 0 0 93 [.null] [] μ') 
    (e3 : (z0 = (0 : Int32)) → ((μ.1 112 13) = (0 : Int32)) → (¬ ((μ.1 115 (Int32.toNatClampNeg (μ.1 112 11))) < (34 : Int32))) → (¬ (42 < ((μ.1 115 (Int32.toNatClampNeg (μ.1 112 11))) : Int32))) → jC0 l mX12_emit 0 G [.ref 112, .int 1, .int ((μ.1 115 (Int32.toNatClampNeg (μ.1 112 11))) - 34)] μ (pV ψ3)) 
    (k3 : (z0 = (0 : Int32)) → ((μ.1 112 13) = (0 : Int32)) → (¬ ((μ.1 115 (Int32.toNatClampNeg (μ.1 112 11))) < (34 : Int32))) → (¬ (42 < ((μ.1 115 (Int32.toNatClampNeg (μ.1 112 11))) : Int32))) → ∀ μ', ψ3 μ' → J l mX12_unit (jZ0 2 G (pV φ)) G 0 0 81 [.ref 112] [] μ') 
    (o1 : (¬ (z0 = (0 : Int32))) → vp_in (μ.1 112 11) 403) 
    (e4 : (¬ (z0 = (0 : Int32))) → jC0 l mX12_emit 0 G [.ref 112, .int 0, .int (μ.1 117 (Int32.toNatClampNeg (μ.1 112 11)))] μ (pV ψ4)) 
    (k4 : (¬ (z0 = (0 : Int32))) → ∀ μ', ψ4 μ' → J l mX12_unit (jZ0 2 G (pV φ)) G 0 0 22 [.ref 112] [] μ') :
    J l mX12_unit (jZ0 2 G (pV φ)) G 0 0 5 [.ref 112] [.int z0] μ := by
  refine j_if_eq 29 dX12_unit_5 rfl (by decide) (fun c0 => ?_) (fun c0 => ?_)
  · skip
    refine j_aload_n dX12_unit_29 rfl rfl ?_
    refine j_getI (ci := 12) (N := 80) (f := 13) (T := TX12) dX12_unit_30 rfl (hG 112 (17, 80) rfl) rfl (by decide) fl_X12_233 rfl ?_
    refine j_if_ne 88 dX12_unit_33 rfl (by decide) (fun c1 => ?_) (fun c1 => ?_)
    · skip
      refine j_aload_n dX12_unit_88 rfl rfl ?_
      refine j_iconst 1 dX12_unit_89 rfl (by decide) ?_
      refine j_cV (as := [.int 1]) (rest := []) dX12_unit_90 rfl vw_X12_248 (hG 112 (17, 80) rfl) rfl ⟨Nat.le_of_ble_eq_true rfl, Nat.le_of_ble_eq_true rfl⟩ rfl rfl (fun _ _ => Nat.le_of_ble_eq_true rfl) (e0 c0 c1) (fun r μ' hr => ?_)
      obtain ⟨rfl, hr⟩ := hr
      refine j_forget (ls' := [.null]) ⟨Or.inl rfl, trivial⟩ ?_
      exact k0 c0 c1 μ' hr
    · skip
      refine j_aload_n dX12_unit_36 rfl rfl ?_
      refine j_getR (ci := 12) (N := 80) (f := 5) (T := TX12) 115 dX12_unit_37 rfl (hG 112 (17, 80) rfl) rfl (by decide) fl_X12_20 rfl (hP 112 5 115 rfl) ?_
      refine j_aload_n dX12_unit_40 rfl rfl ?_
      refine j_getI (ci := 12) (N := 80) (f := 11) (T := TX12) dX12_unit_41 rfl (hG 112 (17, 80) rfl) rfl (by decide) fl_X12_236 rfl ?_
      refine j_iald' (j := (Int32.toNatClampNeg (μ.1 112 11))) dX12_unit_44 rfl (hG 115 (0, 403) rfl) (o0 c0 c1) rfl ?_
      refine j_bipush 34 dX12_unit_45 rfl (by decide) ?_
      refine j_icmp_lt 88 dX12_unit_47 rfl (by decide) (fun c2 => ?_) (fun c2 => ?_)
      · skip
        refine j_aload_n dX12_unit_88 rfl rfl ?_
        refine j_iconst 1 dX12_unit_89 rfl (by decide) ?_
        refine j_cV (as := [.int 1]) (rest := []) dX12_unit_90 rfl vw_X12_248 (hG 112 (17, 80) rfl) rfl ⟨Nat.le_of_ble_eq_true rfl, Nat.le_of_ble_eq_true rfl⟩ rfl rfl (fun _ _ => Nat.le_of_ble_eq_true rfl) (e1 c0 c1 c2) (fun r μ' hr => ?_)
        obtain ⟨rfl, hr⟩ := hr
        refine j_forget (ls' := [.null]) ⟨Or.inl rfl, trivial⟩ ?_
        exact k1 c0 c1 c2 μ' hr
      · skip
        refine j_aload_n dX12_unit_50 rfl rfl ?_
        refine j_getR (ci := 12) (N := 80) (f := 5) (T := TX12) 115 dX12_unit_51 rfl (hG 112 (17, 80) rfl) rfl (by decide) fl_X12_20 rfl (hP 112 5 115 rfl) ?_
        refine j_aload_n dX12_unit_54 rfl rfl ?_
        refine j_getI (ci := 12) (N := 80) (f := 11) (T := TX12) dX12_unit_55 rfl (hG 112 (17, 80) rfl) rfl (by decide) fl_X12_236 rfl ?_
        refine j_iald' (j := (Int32.toNatClampNeg (μ.1 112 11))) dX12_unit_58 rfl (hG 115 (0, 403) rfl) (o0 c0 c1) rfl ?_
        refine j_bipush 42 dX12_unit_59 rfl (by decide) ?_
        refine j_icmp_gt 88 dX12_unit_61 rfl (by decide) (fun c3 => ?_) (fun c3 => ?_)
        · skip
          refine j_aload_n dX12_unit_88 rfl rfl ?_
          refine j_iconst 1 dX12_unit_89 rfl (by decide) ?_
          refine j_cV (as := [.int 1]) (rest := []) dX12_unit_90 rfl vw_X12_248 (hG 112 (17, 80) rfl) rfl ⟨Nat.le_of_ble_eq_true rfl, Nat.le_of_ble_eq_true rfl⟩ rfl rfl (fun _ _ => Nat.le_of_ble_eq_true rfl) (e2 c0 c1 c2 c3) (fun r μ' hr => ?_)
          obtain ⟨rfl, hr⟩ := hr
          refine j_forget (ls' := [.null]) ⟨Or.inl rfl, trivial⟩ ?_
          exact k2 c0 c1 c2 c3 μ' hr
        · skip
          refine j_aload_n dX12_unit_64 rfl rfl ?_
          refine j_iconst 1 dX12_unit_65 rfl (by decide) ?_
          refine j_aload_n dX12_unit_66 rfl rfl ?_
          refine j_getR (ci := 12) (N := 80) (f := 5) (T := TX12) 115 dX12_unit_67 rfl (hG 112 (17, 80) rfl) rfl (by decide) fl_X12_20 rfl (hP 112 5 115 rfl) ?_
          refine j_aload_n dX12_unit_70 rfl rfl ?_
          refine j_getI (ci := 12) (N := 80) (f := 11) (T := TX12) dX12_unit_71 rfl (hG 112 (17, 80) rfl) rfl (by decide) fl_X12_236 rfl ?_
          refine j_iald' (j := (Int32.toNatClampNeg (μ.1 112 11))) dX12_unit_74 rfl (hG 115 (0, 403) rfl) (o0 c0 c1) rfl ?_
          refine j_bipush 34 dX12_unit_75 rfl (by decide) ?_
          refine j_isub dX12_unit_77 rfl ?_
          refine j_cV (as := [.int 1, .int ((μ.1 115 (Int32.toNatClampNeg (μ.1 112 11))) - 34)]) (rest := []) dX12_unit_78 rfl vw_X12_335 (hG 112 (17, 80) rfl) rfl ⟨Nat.le_of_ble_eq_true rfl, Nat.le_of_ble_eq_true rfl⟩ rfl rfl (fun _ _ => Nat.le_of_ble_eq_true rfl) (e3 c0 c1 c2 c3) (fun r μ' hr => ?_)
          obtain ⟨rfl, hr⟩ := hr
          exact k3 c0 c1 c2 c3 μ' hr
  · skip
    refine j_aload_n dX12_unit_8 rfl rfl ?_
    refine j_iconst 0 dX12_unit_9 rfl (by decide) ?_
    refine j_aload_n dX12_unit_10 rfl rfl ?_
    refine j_getR (ci := 12) (N := 80) (f := 7) (T := TX12) 117 dX12_unit_11 rfl (hG 112 (17, 80) rfl) rfl (by decide) fl_X12_27 rfl (hP 112 7 117 rfl) ?_
    refine j_aload_n dX12_unit_14 rfl rfl ?_
    refine j_getI (ci := 12) (N := 80) (f := 11) (T := TX12) dX12_unit_15 rfl (hG 112 (17, 80) rfl) rfl (by decide) fl_X12_236 rfl ?_
    refine j_iald' (j := (Int32.toNatClampNeg (μ.1 112 11))) dX12_unit_18 rfl (hG 117 (0, 403) rfl) (o1 c0) rfl ?_
    refine j_cV (as := [.int 0, .int (μ.1 117 (Int32.toNatClampNeg (μ.1 112 11)))]) (rest := []) dX12_unit_19 rfl vw_X12_335 (hG 112 (17, 80) rfl) rfl ⟨Nat.le_of_ble_eq_true rfl, Nat.le_of_ble_eq_true rfl⟩ rfl rfl (fun _ _ => Nat.le_of_ble_eq_true rfl) (e4 c0) (fun r μ' hr => ?_)
    obtain ⟨rfl, hr⟩ := hr
    exact k4 c0 μ' hr
theorem b_X12_unit_22 {l : Launch} {G : jG} {μ : jM} {φ : jM → Prop} {ψ0 : jM → Prop} (hG : gMM G) (hP : gNN μ) 
    (e0 : jC0 l mX12_goesOn 1 G [.ref 112] μ (pV ψ0)) 
    (k0 : ∀ μ', ψ0 μ' → J l mX12_unit (jZ0 2 G (pV φ)) G 0 0 26 [.null] [] μ') :
    J l mX12_unit (jZ0 2 G (pV φ)) G 0 0 22 [.ref 112] [] μ := by
  refine j_aload_n dX12_unit_22 rfl rfl ?_
  refine j_cV (as := []) (rest := []) dX12_unit_23 rfl vw_X12_254 (hG 112 (17, 80) rfl) rfl ⟨Nat.le_of_ble_eq_true rfl, Nat.le_of_ble_eq_true rfl⟩ rfl rfl (fun _ _ => Nat.le_of_ble_eq_true rfl) (e0 ) (fun r μ' hr => ?_)
  obtain ⟨rfl, hr⟩ := hr
  refine j_forget (ls' := [.null]) ⟨Or.inl rfl, trivial⟩ ?_
  exact k0  μ' hr
theorem b_X12_unit_26 {l : Launch} {G : jG} {μ : jM} {φ : jM → Prop} (hG : gMM G) (hP : gNN μ) 
    (k0 : φ μ) :
    J l mX12_unit (jZ0 2 G (pV φ)) G 0 0 26 [.null] [] μ := by
  refine j_goto 93 dX12_unit_26 (by decide) ?_
  exact j_vret dX12_unit_93 rfl (k0 )
theorem b_X12_unit_81 {l : Launch} {G : jG} {μ : jM} {φ : jM → Prop} {ψ0 : jM → Prop} (hG : gMM G) (hP : gNN μ) 
    (e0 : jC0 l mX12_goesOn 1 G [.ref 112] μ (pV ψ0)) 
    (k0 : ∀ μ', ψ0 μ' → J l mX12_unit (jZ0 2 G (pV φ)) G 0 0 85 [.null] [] μ') :
    J l mX12_unit (jZ0 2 G (pV φ)) G 0 0 81 [.ref 112] [] μ := by
  refine j_aload_n dX12_unit_81 rfl rfl ?_
  refine j_cV (as := []) (rest := []) dX12_unit_82 rfl vw_X12_254 (hG 112 (17, 80) rfl) rfl ⟨Nat.le_of_ble_eq_true rfl, Nat.le_of_ble_eq_true rfl⟩ rfl rfl (fun _ _ => Nat.le_of_ble_eq_true rfl) (e0 ) (fun r μ' hr => ?_)
  obtain ⟨rfl, hr⟩ := hr
  refine j_forget (ls' := [.null]) ⟨Or.inl rfl, trivial⟩ ?_
  exact k0  μ' hr
theorem b_X12_unit_85 {l : Launch} {G : jG} {μ : jM} {φ : jM → Prop} (hG : gMM G) (hP : gNN μ) 
    (k0 : φ μ) :
    J l mX12_unit (jZ0 2 G (pV φ)) G 0 0 85 [.null] [] μ := by
  refine j_goto 93 dX12_unit_85 (by decide) ?_
  exact j_vret dX12_unit_93 rfl (k0 )
theorem b_X12_unit_93 {l : Launch} {G : jG} {μ : jM} {φ : jM → Prop} (hG : gMM G) (hP : gNN μ) 
    (k0 : φ μ) :
    J l mX12_unit (jZ0 2 G (pV φ)) G 0 0 93 [.null] [] μ := by
  exact j_vret dX12_unit_93 rfl (k0 )
theorem b_X12_termOf_0 {l : Launch} {G : jG} {μ : jM} {φ : Int32 → jM → Prop} {x1 x2 : Int32} (hG : gMM G) (hP : gNN μ) 
    (k0 : J l mX12_termOf (jZ0 0 G (pI φ)) G 0 0 5 [.ref 112, .null, .int x2, .int 0, .int x1, .null, .null, .null] [] μ) :
    J l mX12_termOf (jZ0 0 G (pI φ)) G 0 0 0 [.ref 112, .int x1, .int x2, .null, .null, .null, .null, .null] [] μ := by
  refine j_iconst 0 dX12_termOf_0 rfl (by decide) ?_
  refine j_istore_n (ls' := [.ref 112, .int x1, .int x2, .int 0, .null, .null, .null, .null]) dX12_termOf_1 rfl rfl (Nat.le_of_ble_eq_true rfl) rfl ?_
  refine j_iload_n dX12_termOf_2 rfl rfl ?_
  refine j_istore (ls' := [.ref 112, .int x1, .int x2, .int 0, .int x1, .null, .null, .null]) dX12_termOf_3 rfl (Nat.le_of_ble_eq_true rfl) rfl ?_
  refine j_forget (ls' := [.ref 112, .null, .int x2, .int 0, .int x1, .null, .null, .null]) ⟨Or.inr rfl, Or.inl rfl, Or.inr rfl, Or.inr rfl, Or.inr rfl, Or.inr rfl, Or.inr rfl, Or.inr rfl, trivial⟩ ?_
  exact k0 
theorem b_X12_termOf_5 {l : Launch} {G : jG} {μ : jM} {φ : Int32 → jM → Prop} {x2 x3 x4 : Int32} (hG : gMM G) (hP : gNN μ) 
    (k0 : (x2 ≤ (x4 : Int32)) → φ (μ.1 150 0) μ) 
    (o0 : (¬ (x2 ≤ (x4 : Int32))) → vp_in x4 840) 
    (o1 : (¬ (x2 ≤ (x4 : Int32))) → (2 ≤ ((μ.1 146 (Int32.toNatClampNeg x4)) : Int32)) → vp_in ((x3 + (-1)) - 1) 400) 
    (o2 : (¬ (x2 ≤ (x4 : Int32))) → (2 ≤ ((μ.1 146 (Int32.toNatClampNeg x4)) : Int32)) → vp_in (x3 + (-1)) 400) 
    (k1 : (¬ (x2 ≤ (x4 : Int32))) → (2 ≤ ((μ.1 146 (Int32.toNatClampNeg x4)) : Int32)) → (¬ (μ.1 146 (Int32.toNatClampNeg x4)) = (5 : Int32)) → J l mX12_termOf (jZ0 0 G (pI φ)) G 0 0 104 [.ref 112, .null, .int x2, .int (x3 + (-1)), .int x4, .int (μ.1 146 (Int32.toNatClampNeg x4)), .int (μ.1 150 (Int32.toNatClampNeg ((x3 + (-1)) - 1))), .int (μ.1 150 (Int32.toNatClampNeg (x3 + (-1))))] [] μ) 
    (k2 : (¬ (x2 ≤ (x4 : Int32))) → (2 ≤ ((μ.1 146 (Int32.toNatClampNeg x4)) : Int32)) → ((μ.1 146 (Int32.toNatClampNeg x4)) = (5 : Int32)) → (¬ (μ.1 150 (Int32.toNatClampNeg (x3 + (-1)))) = (0 : Int32)) → J l mX12_termOf (jZ0 0 G (pI φ)) G 0 0 104 [.ref 112, .null, .int x2, .int (x3 + (-1)), .int x4, .int (μ.1 146 (Int32.toNatClampNeg x4)), .int (μ.1 150 (Int32.toNatClampNeg ((x3 + (-1)) - 1))), .int (μ.1 150 (Int32.toNatClampNeg (x3 + (-1))))] [] μ) 
    (k3 : (¬ (x2 ≤ (x4 : Int32))) → (2 ≤ ((μ.1 146 (Int32.toNatClampNeg x4)) : Int32)) → ((μ.1 146 (Int32.toNatClampNeg x4)) = (5 : Int32)) → ((μ.1 150 (Int32.toNatClampNeg (x3 + (-1)))) = (0 : Int32)) → φ 0 (wI μ 112 55 1)) 
    (o3 : (¬ (x2 ≤ (x4 : Int32))) → (¬ (2 ≤ ((μ.1 146 (Int32.toNatClampNeg x4)) : Int32))) → (¬ (μ.1 146 (Int32.toNatClampNeg x4)) = (0 : Int32)) → vp_in (μ.1 147 (Int32.toNatClampNeg x4)) 9) 
    (k4 : (¬ (x2 ≤ (x4 : Int32))) → (¬ (2 ≤ ((μ.1 146 (Int32.toNatClampNeg x4)) : Int32))) → (¬ (μ.1 146 (Int32.toNatClampNeg x4)) = (0 : Int32)) → J l mX12_termOf (jZ0 0 G (pI φ)) G 0 0 58 [.ref 112, .null, .int x2, .int x3, .int x4, .null, .null, .null] [.int (μ.1 149 (Int32.toNatClampNeg (μ.1 147 (Int32.toNatClampNeg x4)))), .int x3, .ref 150] μ) 
    (k5 : (¬ (x2 ≤ (x4 : Int32))) → (¬ (2 ≤ ((μ.1 146 (Int32.toNatClampNeg x4)) : Int32))) → ((μ.1 146 (Int32.toNatClampNeg x4)) = (0 : Int32)) → J l mX12_termOf (jZ0 0 G (pI φ)) G 0 0 58 [.ref 112, .null, .int x2, .int x3, .int x4, .null, .null, .null] [.int (μ.1 147 (Int32.toNatClampNeg x4)), .int x3, .ref 150] μ) :
    J l mX12_termOf (jZ0 0 G (pI φ)) G 0 0 5 [.ref 112, .null, .int x2, .int x3, .int x4, .null, .null, .null] [] μ := by
  refine j_iload dX12_termOf_5 rfl rfl ?_
  refine j_iload_n dX12_termOf_7 rfl rfl ?_
  refine j_icmp_ge 165 dX12_termOf_8 rfl (by decide) (fun c0 => ?_) (fun c0 => ?_)
  · skip
    refine j_aload_n dX12_termOf_165 rfl rfl ?_
    refine j_getR (ci := 12) (N := 80) (f := 54) (T := TX12) 150 dX12_termOf_166 rfl (hG 112 (17, 80) rfl) rfl (by decide) fl_X12_131 rfl (hP 112 54 150 rfl) ?_
    refine j_iconst 0 dX12_termOf_169 rfl (by decide) ?_
    refine j_iald' (j := 0) dX12_termOf_170 rfl (hG 150 (0, 400) rfl) (vpK (by decide)) (by decide) ?_
    exact j_iret dX12_termOf_171 rfl (k0 c0)
  · skip
    refine j_aload_n dX12_termOf_11 rfl rfl ?_
    refine j_getR (ci := 12) (N := 80) (f := 49) (T := TX12) 146 dX12_termOf_12 rfl (hG 112 (17, 80) rfl) rfl (by decide) fl_X12_119 rfl (hP 112 49 146 rfl) ?_
    refine j_iload dX12_termOf_15 rfl rfl ?_
    refine j_iald' (j := (Int32.toNatClampNeg x4)) dX12_termOf_17 rfl (hG 146 (0, 840) rfl) (o0 c0) rfl ?_
    refine j_istore (ls' := [.ref 112, .null, .int x2, .int x3, .int x4, .int (μ.1 146 (Int32.toNatClampNeg x4)), .null, .null]) dX12_termOf_18 rfl (Nat.le_of_ble_eq_true rfl) rfl ?_
    refine j_iload dX12_termOf_20 rfl rfl ?_
    refine j_iconst 2 dX12_termOf_22 rfl (by decide) ?_
    refine j_icmp_ge 65 dX12_termOf_23 rfl (by decide) (fun c1 => ?_) (fun c1 => ?_)
    · skip
      refine j_iinc (x3 + (-1)) (ls' := [.ref 112, .null, .int x2, .int (x3 + (-1)), .int x4, .int (μ.1 146 (Int32.toNatClampNeg x4)), .null, .null]) dX12_termOf_65 rfl rfl rfl (Nat.le_of_ble_eq_true rfl) rfl ?_
      refine j_aload_n dX12_termOf_68 rfl rfl ?_
      refine j_getR (ci := 12) (N := 80) (f := 54) (T := TX12) 150 dX12_termOf_69 rfl (hG 112 (17, 80) rfl) rfl (by decide) fl_X12_131 rfl (hP 112 54 150 rfl) ?_
      refine j_iload_n dX12_termOf_72 rfl rfl ?_
      refine j_iconst 1 dX12_termOf_73 rfl (by decide) ?_
      refine j_isub dX12_termOf_74 rfl ?_
      refine j_iald' (j := (Int32.toNatClampNeg ((x3 + (-1)) - 1))) dX12_termOf_75 rfl (hG 150 (0, 400) rfl) (o1 c0 c1) rfl ?_
      refine j_istore (ls' := [.ref 112, .null, .int x2, .int (x3 + (-1)), .int x4, .int (μ.1 146 (Int32.toNatClampNeg x4)), .int (μ.1 150 (Int32.toNatClampNeg ((x3 + (-1)) - 1))), .null]) dX12_termOf_76 rfl (Nat.le_of_ble_eq_true rfl) rfl ?_
      refine j_aload_n dX12_termOf_78 rfl rfl ?_
      refine j_getR (ci := 12) (N := 80) (f := 54) (T := TX12) 150 dX12_termOf_79 rfl (hG 112 (17, 80) rfl) rfl (by decide) fl_X12_131 rfl (hP 112 54 150 rfl) ?_
      refine j_iload_n dX12_termOf_82 rfl rfl ?_
      refine j_iald' (j := (Int32.toNatClampNeg (x3 + (-1)))) dX12_termOf_83 rfl (hG 150 (0, 400) rfl) (o2 c0 c1) rfl ?_
      refine j_istore (ls' := [.ref 112, .null, .int x2, .int (x3 + (-1)), .int x4, .int (μ.1 146 (Int32.toNatClampNeg x4)), .int (μ.1 150 (Int32.toNatClampNeg ((x3 + (-1)) - 1))), .int (μ.1 150 (Int32.toNatClampNeg (x3 + (-1))))]) dX12_termOf_84 rfl (Nat.le_of_ble_eq_true rfl) rfl ?_
      refine j_iload dX12_termOf_86 rfl rfl ?_
      refine j_iconst 5 dX12_termOf_88 rfl (by decide) ?_
      refine j_icmp_ne 104 dX12_termOf_89 rfl (by decide) (fun c2 => ?_) (fun c2 => ?_)
      · skip
        exact k1 c0 c1 c2
      · skip
        refine j_iload dX12_termOf_92 rfl rfl ?_
        refine j_if_ne 104 dX12_termOf_94 rfl (by decide) (fun c3 => ?_) (fun c3 => ?_)
        · skip
          exact k2 c0 c1 c2 c3
        · skip
          refine j_aload_n dX12_termOf_97 rfl rfl ?_
          refine j_iconst 1 dX12_termOf_98 rfl (by decide) ?_
          refine j_putB (ci := 12) (N := 80) (f := 55) (T := TX12) dX12_termOf_99 rfl (hG 112 (17, 80) rfl) rfl (by decide) fl_X12_345 rfl rfl (by decide) ?_
          refine j_iconst 0 dX12_termOf_102 rfl (by decide) ?_
          exact j_iret dX12_termOf_103 rfl (k3 c0 c1 c2 c3)
    · skip
      refine j_aload_n dX12_termOf_26 rfl rfl ?_
      refine j_getR (ci := 12) (N := 80) (f := 54) (T := TX12) 150 dX12_termOf_27 rfl (hG 112 (17, 80) rfl) rfl (by decide) fl_X12_131 rfl (hP 112 54 150 rfl) ?_
      refine j_iload_n dX12_termOf_30 rfl rfl ?_
      refine j_iload dX12_termOf_31 rfl rfl ?_
      refine j_if_ne 46 dX12_termOf_33 rfl (by decide) (fun c4 => ?_) (fun c4 => ?_)
      · skip
        refine j_aload_n dX12_termOf_46 rfl rfl ?_
        refine j_getR (ci := 12) (N := 80) (f := 53) (T := TX12) 149 dX12_termOf_47 rfl (hG 112 (17, 80) rfl) rfl (by decide) fl_X12_128 rfl (hP 112 53 149 rfl) ?_
        refine j_aload_n dX12_termOf_50 rfl rfl ?_
        refine j_getR (ci := 12) (N := 80) (f := 50) (T := TX12) 147 dX12_termOf_51 rfl (hG 112 (17, 80) rfl) rfl (by decide) fl_X12_122 rfl (hP 112 50 147 rfl) ?_
        refine j_iload dX12_termOf_54 rfl rfl ?_
        refine j_iald' (j := (Int32.toNatClampNeg x4)) dX12_termOf_56 rfl (hG 147 (0, 840) rfl) (o0 c0) rfl ?_
        refine j_iald' (j := (Int32.toNatClampNeg (μ.1 147 (Int32.toNatClampNeg x4)))) dX12_termOf_57 rfl (hG 149 (0, 9) rfl) (o3 c0 c1 c4) rfl ?_
        refine j_forget (ls' := [.ref 112, .null, .int x2, .int x3, .int x4, .null, .null, .null]) ⟨Or.inr rfl, Or.inr rfl, Or.inr rfl, Or.inr rfl, Or.inr rfl, Or.inl rfl, Or.inr rfl, Or.inr rfl, trivial⟩ ?_
        exact k4 c0 c1 c4
      · skip
        refine j_aload_n dX12_termOf_36 rfl rfl ?_
        refine j_getR (ci := 12) (N := 80) (f := 50) (T := TX12) 147 dX12_termOf_37 rfl (hG 112 (17, 80) rfl) rfl (by decide) fl_X12_122 rfl (hP 112 50 147 rfl) ?_
        refine j_iload dX12_termOf_40 rfl rfl ?_
        refine j_iald' (j := (Int32.toNatClampNeg x4)) dX12_termOf_42 rfl (hG 147 (0, 840) rfl) (o0 c0) rfl ?_
        refine j_goto 58 dX12_termOf_43 (by decide) ?_
        refine j_forget (ls' := [.ref 112, .null, .int x2, .int x3, .int x4, .null, .null, .null]) ⟨Or.inr rfl, Or.inr rfl, Or.inr rfl, Or.inr rfl, Or.inr rfl, Or.inl rfl, Or.inr rfl, Or.inr rfl, trivial⟩ ?_
        exact k5 c0 c1 c4
theorem b_X12_termOf_58 {l : Launch} {G : jG} {μ : jM} {φ : Int32 → jM → Prop} {x2 x3 x4 z0 z1 : Int32} (hG : gMM G) (hP : gNN μ) 
    (o0 : vp_in z1 400) 
    (k0 : J l mX12_termOf (jZ0 0 G (pI φ)) G 0 0 159 [.ref 112, .null, .int x2, .int (x3 + 1), .int x4, .null, .null, .null] [] (wI μ 150 (Int32.toNatClampNeg z1) z0)) :
    J l mX12_termOf (jZ0 0 G (pI φ)) G 0 0 58 [.ref 112, .null, .int x2, .int x3, .int x4, .null, .null, .null] [.int z0, .int z1, .ref 150] μ := by
  refine j_iast' (j := (Int32.toNatClampNeg z1)) dX12_termOf_58 rfl (hG 150 (0, 400) rfl) o0 rfl ?_
  refine j_iinc (x3 + 1) (ls' := [.ref 112, .null, .int x2, .int (x3 + 1), .int x4, .null, .null, .null]) dX12_termOf_59 rfl rfl rfl (Nat.le_of_ble_eq_true rfl) rfl ?_
  refine j_goto 159 dX12_termOf_62 (by decide) ?_
  exact k0 
theorem b_X12_termOf_104 {l : Launch} {G : jG} {μ : jM} {φ : Int32 → jM → Prop} {x2 x3 x4 x5 x6 x7 : Int32} (hG : gMM G) (hP : gNN μ) 
    (o0 : (¬ x5 = (2 : Int32)) → (¬ x5 = (3 : Int32)) → (¬ x5 = (4 : Int32)) → ¬ (x7 : Int32) = 0) 
    (k0 : (¬ x5 = (2 : Int32)) → (¬ x5 = (3 : Int32)) → (¬ x5 = (4 : Int32)) → J l mX12_termOf (jZ0 0 G (pI φ)) G 0 0 158 [.ref 112, .null, .int x2, .int x3, .int x4, .null, .null, .null] [.int (x6 / x7), .int (x3 - 1), .ref 150] μ) 
    (k1 : (¬ x5 = (2 : Int32)) → (¬ x5 = (3 : Int32)) → (x5 = (4 : Int32)) → J l mX12_termOf (jZ0 0 G (pI φ)) G 0 0 158 [.ref 112, .null, .int x2, .int x3, .int x4, .null, .null, .null] [.int (x6 * x7), .int (x3 - 1), .ref 150] μ) 
    (k2 : (¬ x5 = (2 : Int32)) → (x5 = (3 : Int32)) → J l mX12_termOf (jZ0 0 G (pI φ)) G 0 0 158 [.ref 112, .null, .int x2, .int x3, .int x4, .null, .null, .null] [.int (x6 - x7), .int (x3 - 1), .ref 150] μ) 
    (k3 : (x5 = (2 : Int32)) → J l mX12_termOf (jZ0 0 G (pI φ)) G 0 0 158 [.ref 112, .null, .int x2, .int x3, .int x4, .null, .null, .null] [.int (x6 + x7), .int (x3 - 1), .ref 150] μ) :
    J l mX12_termOf (jZ0 0 G (pI φ)) G 0 0 104 [.ref 112, .null, .int x2, .int x3, .int x4, .int x5, .int x6, .int x7] [] μ := by
  refine j_aload_n dX12_termOf_104 rfl rfl ?_
  refine j_getR (ci := 12) (N := 80) (f := 54) (T := TX12) 150 dX12_termOf_105 rfl (hG 112 (17, 80) rfl) rfl (by decide) fl_X12_131 rfl (hP 112 54 150 rfl) ?_
  refine j_iload_n dX12_termOf_108 rfl rfl ?_
  refine j_iconst 1 dX12_termOf_109 rfl (by decide) ?_
  refine j_isub dX12_termOf_110 rfl ?_
  refine j_iload dX12_termOf_111 rfl rfl ?_
  refine j_iconst 2 dX12_termOf_113 rfl (by decide) ?_
  refine j_icmp_ne 125 dX12_termOf_114 rfl (by decide) (fun c0 => ?_) (fun c0 => ?_)
  · skip
    refine j_iload dX12_termOf_125 rfl rfl ?_
    refine j_iconst 3 dX12_termOf_127 rfl (by decide) ?_
    refine j_icmp_ne 139 dX12_termOf_128 rfl (by decide) (fun c1 => ?_) (fun c1 => ?_)
    · skip
      refine j_iload dX12_termOf_139 rfl rfl ?_
      refine j_iconst 4 dX12_termOf_141 rfl (by decide) ?_
      refine j_icmp_ne 153 dX12_termOf_142 rfl (by decide) (fun c2 => ?_) (fun c2 => ?_)
      · skip
        refine j_iload dX12_termOf_153 rfl rfl ?_
        refine j_iload dX12_termOf_155 rfl rfl ?_
        refine j_idiv dX12_termOf_157 rfl (o0 c0 c1 c2) ?_
        refine j_forget (ls' := [.ref 112, .null, .int x2, .int x3, .int x4, .null, .null, .null]) ⟨Or.inr rfl, Or.inr rfl, Or.inr rfl, Or.inr rfl, Or.inr rfl, Or.inl rfl, Or.inl rfl, Or.inl rfl, trivial⟩ ?_
        exact k0 c0 c1 c2
      · skip
        refine j_iload dX12_termOf_145 rfl rfl ?_
        refine j_iload dX12_termOf_147 rfl rfl ?_
        refine j_imul dX12_termOf_149 rfl ?_
        refine j_goto 158 dX12_termOf_150 (by decide) ?_
        refine j_forget (ls' := [.ref 112, .null, .int x2, .int x3, .int x4, .null, .null, .null]) ⟨Or.inr rfl, Or.inr rfl, Or.inr rfl, Or.inr rfl, Or.inr rfl, Or.inl rfl, Or.inl rfl, Or.inl rfl, trivial⟩ ?_
        exact k1 c0 c1 c2
    · skip
      refine j_iload dX12_termOf_131 rfl rfl ?_
      refine j_iload dX12_termOf_133 rfl rfl ?_
      refine j_isub dX12_termOf_135 rfl ?_
      refine j_goto 158 dX12_termOf_136 (by decide) ?_
      refine j_forget (ls' := [.ref 112, .null, .int x2, .int x3, .int x4, .null, .null, .null]) ⟨Or.inr rfl, Or.inr rfl, Or.inr rfl, Or.inr rfl, Or.inr rfl, Or.inl rfl, Or.inl rfl, Or.inl rfl, trivial⟩ ?_
      exact k2 c0 c1
  · skip
    refine j_iload dX12_termOf_117 rfl rfl ?_
    refine j_iload dX12_termOf_119 rfl rfl ?_
    refine j_iadd dX12_termOf_121 rfl ?_
    refine j_goto 158 dX12_termOf_122 (by decide) ?_
    refine j_forget (ls' := [.ref 112, .null, .int x2, .int x3, .int x4, .null, .null, .null]) ⟨Or.inr rfl, Or.inr rfl, Or.inr rfl, Or.inr rfl, Or.inr rfl, Or.inl rfl, Or.inl rfl, Or.inl rfl, trivial⟩ ?_
    exact k3 c0
theorem b_X12_termOf_158 {l : Launch} {G : jG} {μ : jM} {φ : Int32 → jM → Prop} {x2 x3 x4 z0 z1 : Int32} (hG : gMM G) (hP : gNN μ) 
    (o0 : vp_in z1 400) 
    (k0 : J l mX12_termOf (jZ0 0 G (pI φ)) G 0 0 159 [.ref 112, .null, .int x2, .int x3, .int x4, .null, .null, .null] [] (wI μ 150 (Int32.toNatClampNeg z1) z0)) :
    J l mX12_termOf (jZ0 0 G (pI φ)) G 0 0 158 [.ref 112, .null, .int x2, .int x3, .int x4, .null, .null, .null] [.int z0, .int z1, .ref 150] μ := by
  refine j_iast' (j := (Int32.toNatClampNeg z1)) dX12_termOf_158 rfl (hG 150 (0, 400) rfl) o0 rfl ?_
  exact k0 
theorem b_X12_termOf_159 {l : Launch} {G : jG} {μ : jM} {φ : Int32 → jM → Prop} {x2 x3 x4 : Int32} (hG : gMM G) (hP : gNN μ) 
    (k0 : J l mX12_termOf (jZ0 0 G (pI φ)) G 0 0 5 [.ref 112, .null, .int x2, .int x3, .int (x4 + 1), .null, .null, .null] [] μ) :
    J l mX12_termOf (jZ0 0 G (pI φ)) G 0 0 159 [.ref 112, .null, .int x2, .int x3, .int x4, .null, .null, .null] [] μ := by
  refine j_iinc (x4 + 1) (ls' := [.ref 112, .null, .int x2, .int x3, .int (x4 + 1), .null, .null, .null]) dX12_termOf_159 rfl rfl rfl (Nat.le_of_ble_eq_true rfl) rfl ?_
  refine j_goto 5 dX12_termOf_162 (by decide) ?_
  exact k0 
theorem b_X12_in_0 {l : Launch} {G : jG} {μ : jM} {φ : Int32 → jM → Prop} {x0 x1 x2 : Int32} (hG : gMM G) (hP : gNN μ) 
    (k0 : (x0 < (x1 : Int32)) → φ 0 μ) 
    (k1 : (¬ (x0 < (x1 : Int32))) → (x2 < (x0 : Int32)) → φ 0 μ) 
    (k2 : (¬ (x0 < (x1 : Int32))) → (¬ (x2 < (x0 : Int32))) → φ 1 μ) :
    J l mX12_in (jZ0 0 G (pI φ)) G 0 0 0 [.int x0, .int x1, .int x2] [] μ := by
  refine j_iload_n dX12_in_0 rfl rfl ?_
  refine j_iload_n dX12_in_1 rfl rfl ?_
  refine j_icmp_lt 14 dX12_in_2 rfl (by decide) (fun c0 => ?_) (fun c0 => ?_)
  · skip
    refine j_iconst 0 dX12_in_14 rfl (by decide) ?_
    exact j_zret dX12_in_15 rfl (by decide) (k0 c0)
  · skip
    refine j_iload_n dX12_in_5 rfl rfl ?_
    refine j_iload_n dX12_in_6 rfl rfl ?_
    refine j_icmp_gt 14 dX12_in_7 rfl (by decide) (fun c1 => ?_) (fun c1 => ?_)
    · skip
      refine j_iconst 0 dX12_in_14 rfl (by decide) ?_
      exact j_zret dX12_in_15 rfl (by decide) (k1 c0 c1)
    · skip
      refine j_iconst 1 dX12_in_10 rfl (by decide) ?_
      refine j_goto 15 dX12_in_11 (by decide) ?_
      exact j_zret dX12_in_15 rfl (by decide) (k2 c0 c1)
