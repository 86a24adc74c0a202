theorem b_X12_undo_0 {l : Launch} {G : jG} {μ : jM} {φ : Int32 → jM → Prop} (hG : gMM G) (hP : gNN μ) 
    (k0 : (¬ (μ.1 112 66) = (0 : Int32)) → J l mX12_undo (jZ0 0 G (pI φ)) G 0 0 21 [.ref 112, .int 0] [] (wI μ 112 66 ((μ.1 112 66) - 1))) 
    (k1 : ((μ.1 112 66) = (0 : Int32)) → φ 0 μ) :
    J l mX12_undo (jZ0 0 G (pI φ)) G 0 0 0 [.ref 112, .null] [] μ := by
  refine j_aload_n dX12_undo_0 rfl rfl ?_
  refine j_getI (ci := 12) (N := 80) (f := 66) (T := TX12) dX12_undo_1 rfl (hG 112 (17, 80) rfl) rfl (by decide) fl_X12_281 rfl ?_
  refine j_if_ne 9 dX12_undo_4 rfl (by decide) (fun c0 => ?_) (fun c0 => ?_)
  · skip
    refine j_aload_n dX12_undo_9 rfl rfl ?_
    refine j_dup dX12_undo_10 rfl (fun _ _ => rfl) ?_
    refine j_getI (ci := 12) (N := 80) (f := 66) (T := TX12) dX12_undo_11 rfl (hG 112 (17, 80) rfl) rfl (by decide) fl_X12_281 rfl ?_
    refine j_iconst 1 dX12_undo_14 rfl (by decide) ?_
    refine j_isub dX12_undo_15 rfl ?_
    refine j_putI (ci := 12) (N := 80) (f := 66) (T := TX12) dX12_undo_16 rfl (hG 112 (17, 80) rfl) rfl (by decide) fl_X12_281 rfl rfl ?_
    refine j_iconst 0 dX12_undo_19 rfl (by decide) ?_
    refine j_istore_n (ls' := [.ref 112, .int 0]) dX12_undo_20 rfl rfl (Nat.le_of_ble_eq_true rfl) rfl ?_
    exact k0 c0
  · skip
    refine j_iconst 0 dX12_undo_7 rfl (by decide) ?_
    exact j_zret dX12_undo_8 rfl (by decide) (k1 c0)
theorem b_X12_undo_21 {l : Launch} {G : jG} {μ : jM} {φ : Int32 → jM → Prop} {x1 : Int32} (hG : gMM G) (hP : gNN μ) 
    (k0 : (68 ≤ (x1 : Int32)) → φ 1 μ) 
    (o0 : (¬ (68 ≤ (x1 : Int32))) → vp_in ((68 * (μ.1 112 66)) + x1) 2720) 
    (o1 : (¬ (68 ≤ (x1 : Int32))) → vp_in x1 68) 
    (k1 : (¬ (68 ≤ (x1 : Int32))) → J l mX12_undo (jZ0 0 G (pI φ)) G 0 0 21 [.ref 112, .int (x1 + 1)] [] (wI μ 151 (Int32.toNatClampNeg x1) (μ.1 157 (Int32.toNatClampNeg ((68 * (μ.1 112 66)) + x1))))) :
    J l mX12_undo (jZ0 0 G (pI φ)) G 0 0 21 [.ref 112, .int x1] [] μ := by
  refine j_iload_n dX12_undo_21 rfl rfl ?_
  refine j_bipush 68 dX12_undo_22 rfl (by decide) ?_
  refine j_icmp_ge 53 dX12_undo_24 rfl (by decide) (fun c0 => ?_) (fun c0 => ?_)
  · skip
    refine j_iconst 1 dX12_undo_53 rfl (by decide) ?_
    exact j_zret dX12_undo_54 rfl (by decide) (k0 c0)
  · skip
    refine j_aload_n dX12_undo_27 rfl rfl ?_
    refine j_getR (ci := 12) (N := 80) (f := 56) (T := TX12) 151 dX12_undo_28 rfl (hG 112 (17, 80) rfl) rfl (by decide) fl_X12_134 rfl (hP 112 56 151 rfl) ?_
    refine j_iload_n dX12_undo_31 rfl rfl ?_
    refine j_aload_n dX12_undo_32 rfl rfl ?_
    refine j_getR (ci := 12) (N := 80) (f := 67) (T := TX12) 157 dX12_undo_33 rfl (hG 112 (17, 80) rfl) rfl (by decide) fl_X12_152 rfl (hP 112 67 157 rfl) ?_
    refine j_bipush 68 dX12_undo_36 rfl (by decide) ?_
    refine j_aload_n dX12_undo_38 rfl rfl ?_
    refine j_getI (ci := 12) (N := 80) (f := 66) (T := TX12) dX12_undo_39 rfl (hG 112 (17, 80) rfl) rfl (by decide) fl_X12_281 rfl ?_
    refine j_imul dX12_undo_42 rfl ?_
    refine j_iload_n dX12_undo_43 rfl rfl ?_
    refine j_iadd dX12_undo_44 rfl ?_
    refine j_iald' (j := (Int32.toNatClampNeg ((68 * (μ.1 112 66)) + x1))) dX12_undo_45 rfl (hG 157 (0, 2720) rfl) (o0 c0) rfl ?_
    refine j_iast' (j := (Int32.toNatClampNeg x1)) dX12_undo_46 rfl (hG 151 (0, 68) rfl) (o1 c0) rfl ?_
    refine j_iinc (x1 + 1) (ls' := [.ref 112, .int (x1 + 1)]) dX12_undo_47 rfl rfl rfl (Nat.le_of_ble_eq_true rfl) rfl ?_
    refine j_goto 21 dX12_undo_50 (by decide) ?_
    exact k1 c0
theorem b_X12_moreIn_0 {l : Launch} {G : jG} {μ : jM} {φ : Int32 → jM → Prop} {x1 x2 : Int32} (hG : gMM G) (hP : gNN μ) 
    (k0 : J l mX12_moreIn (jZ0 0 G (pI φ)) G 0 0 5 [.ref 112, .int x1, .int x2, .int 0, .int x1] [] μ) :
    J l mX12_moreIn (jZ0 0 G (pI φ)) G 0 0 0 [.ref 112, .int x1, .int x2, .null, .null] [] μ := by
  refine j_iconst 0 dX12_moreIn_0 rfl (by decide) ?_
  refine j_istore_n (ls' := [.ref 112, .int x1, .int x2, .int 0, .null]) dX12_moreIn_1 rfl rfl (Nat.le_of_ble_eq_true rfl) rfl ?_
  refine j_iload_n dX12_moreIn_2 rfl rfl ?_
  refine j_istore (ls' := [.ref 112, .int x1, .int x2, .int 0, .int x1]) dX12_moreIn_3 rfl (Nat.le_of_ble_eq_true rfl) rfl ?_
  exact k0 
theorem b_X12_moreIn_5 {l : Launch} {G : jG} {μ : jM} {φ : Int32 → jM → Prop} {x1 x2 x3 x4 : Int32} (hG : gMM G) (hP : gNN μ) 
    (k0 : ((x1 + x2) ≤ (x4 : Int32)) → φ x3 μ) 
    (o0 : (¬ ((x1 + x2) ≤ (x4 : Int32))) → vp_in x4 68) 
    (k1 : (¬ ((x1 + x2) ≤ (x4 : Int32))) → J l mX12_moreIn (jZ0 0 G (pI φ)) G 0 0 5 [.ref 112, .int x1, .int x2, .int (x3 + ((μ.1 152 (Int32.toNatClampNeg x4)) - (μ.1 151 (Int32.toNatClampNeg x4)))), .int (x4 + 1)] [] μ) :
    J l mX12_moreIn (jZ0 0 G (pI φ)) G 0 0 5 [.ref 112, .int x1, .int x2, .int x3, .int x4] [] μ := by
  refine j_iload dX12_moreIn_5 rfl rfl ?_
  refine j_iload_n dX12_moreIn_7 rfl rfl ?_
  refine j_iload_n dX12_moreIn_8 rfl rfl ?_
  refine j_iadd dX12_moreIn_9 rfl ?_
  refine j_icmp_ge 37 dX12_moreIn_10 rfl (by decide) (fun c0 => ?_) (fun c0 => ?_)
  · skip
    refine j_iload_n dX12_moreIn_37 rfl rfl ?_
    exact j_iret dX12_moreIn_38 rfl (k0 c0)
  · skip
    refine j_iload_n dX12_moreIn_13 rfl rfl ?_
    refine j_aload_n dX12_moreIn_14 rfl rfl ?_
    refine j_getR (ci := 12) (N := 80) (f := 57) (T := TX12) 152 dX12_moreIn_15 rfl (hG 112 (17, 80) rfl) rfl (by decide) fl_X12_137 rfl (hP 112 57 152 rfl) ?_
    refine j_iload dX12_moreIn_18 rfl rfl ?_
    refine j_iald' (j := (Int32.toNatClampNeg x4)) dX12_moreIn_20 rfl (hG 152 (0, 68) rfl) (o0 c0) rfl ?_
    refine j_aload_n dX12_moreIn_21 rfl rfl ?_
    refine j_getR (ci := 12) (N := 80) (f := 56) (T := TX12) 151 dX12_moreIn_22 rfl (hG 112 (17, 80) rfl) rfl (by decide) fl_X12_134 rfl (hP 112 56 151 rfl) ?_
    refine j_iload dX12_moreIn_25 rfl rfl ?_
    refine j_iald' (j := (Int32.toNatClampNeg x4)) dX12_moreIn_27 rfl (hG 151 (0, 68) rfl) (o0 c0) rfl ?_
    refine j_isub dX12_moreIn_28 rfl ?_
    refine j_iadd dX12_moreIn_29 rfl ?_
    refine j_istore_n (ls' := [.ref 112, .int x1, .int x2, .int (x3 + ((μ.1 152 (Int32.toNatClampNeg x4)) - (μ.1 151 (Int32.toNatClampNeg x4)))), .int x4]) dX12_moreIn_30 rfl rfl (Nat.le_of_ble_eq_true rfl) rfl ?_
    refine j_iinc (x4 + 1) (ls' := [.ref 112, .int x1, .int x2, .int (x3 + ((μ.1 152 (Int32.toNatClampNeg x4)) - (μ.1 151 (Int32.toNatClampNeg x4)))), .int (x4 + 1)]) dX12_moreIn_31 rfl rfl rfl (Nat.le_of_ble_eq_true rfl) rfl ?_
    refine j_goto 5 dX12_moreIn_34 (by decide) ?_
    exact k1 c0
theorem b_X12_tonight_0 {l : Launch} {G : jG} {μ : jM} {φ : Int32 → jM → Prop} {x1 : Int32} {ψ0 : Int32 → jM → Prop} (hG : gMM G) (hP : gNN μ) 
    (e0 : jC0 l mX12_in 0 G [.int x1, .int 0, .int 2] μ (pI ψ0)) 
    (k0 : ∀ v μ', ψ0 v μ' → J l mX12_tonight (jZ0 8 G (pI φ)) G 0 0 6 [.ref 112, .int x1] [.int v] μ') :
    J l mX12_tonight (jZ0 8 G (pI φ)) G 0 0 0 [.ref 112, .int x1] [] μ := by
  refine j_iload_n dX12_tonight_0 rfl rfl ?_
  refine j_iconst 0 dX12_tonight_1 rfl (by decide) ?_
  refine j_iconst 2 dX12_tonight_2 rfl (by decide) ?_
  refine j_cS (as := [.int x1, .int 0, .int 2]) (rest := []) dX12_tonight_3 rfl vw_X12_349 ⟨Nat.le_of_ble_eq_true rfl, Nat.le_of_ble_eq_true rfl⟩ rfl rfl (fun _ _ => Nat.le_of_ble_eq_true rfl) (e0 ) (fun r μ' hr => ?_)
  obtain ⟨v, rfl, hr⟩ := hr
  exact k0  v μ' hr
theorem b_X12_tonight_6 {l : Launch} {G : jG} {μ : jM} {φ : Int32 → jM → Prop} {x1 z0 : Int32} {ψ0 : jM → Prop} (hG : gMM G) (hP : gNN μ) 
    (e0 : (¬ z0 = (0 : Int32)) → jC0 l mX12_copies 1 G [.ref 112] μ (pV ψ0)) 
    (k0 : (¬ z0 = (0 : Int32)) → ∀ μ', ψ0 μ' → J l mX12_tonight (jZ0 8 G (pI φ)) G 0 0 15 [.ref 112, .int x1] [] μ') 
    (k1 : (z0 = (0 : Int32)) → φ (-1) μ) :
    J l mX12_tonight (jZ0 8 G (pI φ)) G 0 0 6 [.ref 112, .int x1] [.int z0] μ := by
  refine j_if_ne 11 dX12_tonight_6 rfl (by decide) (fun c0 => ?_) (fun c0 => ?_)
  · skip
    refine j_aload_n dX12_tonight_11 rfl rfl ?_
    refine j_cV (as := []) (rest := []) dX12_tonight_12 rfl vw_X12_430 (hG 112 (17, 80) rfl) rfl ⟨Nat.le_of_ble_eq_true rfl, Nat.le_of_ble_eq_true rfl⟩ rfl rfl (fun _ _ => Nat.le_of_ble_eq_true rfl) (e0 c0) (fun r μ' hr => ?_)
    obtain ⟨rfl, hr⟩ := hr
    exact k0 c0 μ' hr
  · skip
    refine j_iconst (-1) dX12_tonight_9 rfl (by decide) ?_
    exact j_iret dX12_tonight_10 rfl (k1 c0)
theorem b_X12_tonight_15 {l : Launch} {G : jG} {μ : jM} {φ : Int32 → jM → Prop} {x1 : Int32} {ψ0 : jM → Prop} (hG : gMM G) (hP : gNN μ) 
    (e0 : jC0 l mX12_nightGoes 7 G [.ref 112] μ (pV ψ0)) 
    (k0 : ∀ μ', ψ0 μ' → J l mX12_tonight (jZ0 8 G (pI φ)) G 0 0 19 [.ref 112, .int x1] [] μ') :
    J l mX12_tonight (jZ0 8 G (pI φ)) G 0 0 15 [.ref 112, .int x1] [] μ := by
  refine j_aload_n dX12_tonight_15 rfl rfl ?_
  refine j_cV (as := []) (rest := []) dX12_tonight_16 rfl vw_X12_424 (hG 112 (17, 80) rfl) rfl ⟨Nat.le_of_ble_eq_true rfl, Nat.le_of_ble_eq_true rfl⟩ rfl rfl (fun _ _ => Nat.le_of_ble_eq_true rfl) (e0 ) (fun r μ' hr => ?_)
  obtain ⟨rfl, hr⟩ := hr
  exact k0  μ' hr
theorem b_X12_tonight_19 {l : Launch} {G : jG} {μ : jM} {φ : Int32 → jM → Prop} {x1 : Int32} {ψ0 : Int32 → jM → Prop} {ψ1 : Int32 → jM → Prop} (hG : gMM G) (hP : gNN μ) 
    (e0 : (¬ x1 = (0 : Int32)) → (¬ x1 = (1 : Int32)) → jC0 l mX12_moreIn 0 G [.ref 112, .int 12, .int 12] μ (pI ψ0)) 
    (k0 : (¬ x1 = (0 : Int32)) → (¬ x1 = (1 : Int32)) → ∀ v μ', ψ0 v μ' → J l mX12_tonight (jZ0 8 G (pI φ)) G 0 0 65 [.null, .null] [.int v] μ') 
    (e1 : (¬ x1 = (0 : Int32)) → (x1 = (1 : Int32)) → jC0 l mX12_moreIn 0 G [.ref 112, .int 43, .int 7] μ (pI ψ1)) 
    (k1 : (¬ x1 = (0 : Int32)) → (x1 = (1 : Int32)) → ∀ v μ', ψ1 v μ' → J l mX12_tonight (jZ0 8 G (pI φ)) G 0 0 54 [.null, .null] [.int v] μ') 
    (k2 : (x1 = (0 : Int32)) → φ ((μ.1 152 66) - (μ.1 151 66)) μ) :
    J l mX12_tonight (jZ0 8 G (pI φ)) G 0 0 19 [.ref 112, .int x1] [] μ := by
  refine j_iload_n dX12_tonight_19 rfl rfl ?_
  refine j_if_ne 41 dX12_tonight_20 rfl (by decide) (fun c0 => ?_) (fun c0 => ?_)
  · skip
    refine j_iload_n dX12_tonight_41 rfl rfl ?_
    refine j_iconst 1 dX12_tonight_42 rfl (by decide) ?_
    refine j_icmp_ne 57 dX12_tonight_43 rfl (by decide) (fun c1 => ?_) (fun c1 => ?_)
    · skip
      refine j_aload_n dX12_tonight_57 rfl rfl ?_
      refine j_bipush 12 dX12_tonight_58 rfl (by decide) ?_
      refine j_bipush 12 dX12_tonight_60 rfl (by decide) ?_
      refine j_cV (as := [.int 12, .int 12]) (rest := []) dX12_tonight_62 rfl vw_X12_445 (hG 112 (17, 80) rfl) rfl ⟨Nat.le_of_ble_eq_true rfl, Nat.le_of_ble_eq_true rfl⟩ rfl rfl (fun _ _ => Nat.le_of_ble_eq_true rfl) (e0 c0 c1) (fun r μ' hr => ?_)
      obtain ⟨v, rfl, hr⟩ := hr
      refine j_forget (ls' := [.null, .null]) ⟨Or.inl rfl, Or.inl rfl, trivial⟩ ?_
      exact k0 c0 c1 v μ' hr
    · skip
      refine j_aload_n dX12_tonight_46 rfl rfl ?_
      refine j_bipush 43 dX12_tonight_47 rfl (by decide) ?_
      refine j_bipush 7 dX12_tonight_49 rfl (by decide) ?_
      refine j_cV (as := [.int 43, .int 7]) (rest := []) dX12_tonight_51 rfl vw_X12_445 (hG 112 (17, 80) rfl) rfl ⟨Nat.le_of_ble_eq_true rfl, Nat.le_of_ble_eq_true rfl⟩ rfl rfl (fun _ _ => Nat.le_of_ble_eq_true rfl) (e1 c0 c1) (fun r μ' hr => ?_)
      obtain ⟨v, rfl, hr⟩ := hr
      refine j_forget (ls' := [.null, .null]) ⟨Or.inl rfl, Or.inl rfl, trivial⟩ ?_
      exact k1 c0 c1 v μ' hr
  · skip
    refine j_aload_n dX12_tonight_23 rfl rfl ?_
    refine j_getR (ci := 12) (N := 80) (f := 57) (T := TX12) 152 dX12_tonight_24 rfl (hG 112 (17, 80) rfl) rfl (by decide) fl_X12_137 rfl (hP 112 57 152 rfl) ?_
    refine j_bipush 66 dX12_tonight_27 rfl (by decide) ?_
    refine j_iald' (j := 66) dX12_tonight_29 rfl (hG 152 (0, 68) rfl) (vpK (by decide)) (by decide) ?_
    refine j_aload_n dX12_tonight_30 rfl rfl ?_
    refine j_getR (ci := 12) (N := 80) (f := 56) (T := TX12) 151 dX12_tonight_31 rfl (hG 112 (17, 80) rfl) rfl (by decide) fl_X12_134 rfl (hP 112 56 151 rfl) ?_
    refine j_bipush 66 dX12_tonight_34 rfl (by decide) ?_
    refine j_iald' (j := 66) dX12_tonight_36 rfl (hG 151 (0, 68) rfl) (vpK (by decide)) (by decide) ?_
    refine j_isub dX12_tonight_37 rfl ?_
    refine j_goto 65 dX12_tonight_38 (by decide) ?_
    exact j_iret dX12_tonight_65 rfl (k2 c0)
theorem b_X12_tonight_54 {l : Launch} {G : jG} {μ : jM} {φ : Int32 → jM → Prop} {z0 : Int32} (hG : gMM G) (hP : gNN μ) 
    (k0 : φ z0 μ) :
    J l mX12_tonight (jZ0 8 G (pI φ)) G 0 0 54 [.null, .null] [.int z0] μ := by
  refine j_goto 65 dX12_tonight_54 (by decide) ?_
  exact j_iret dX12_tonight_65 rfl (k0 )
theorem b_X12_tonight_65 {l : Launch} {G : jG} {μ : jM} {φ : Int32 → jM → Prop} {z0 : Int32} (hG : gMM G) (hP : gNN μ) 
    (k0 : φ z0 μ) :
    J l mX12_tonight (jZ0 8 G (pI φ)) G 0 0 65 [.null, .null] [.int z0] μ := by
  exact j_iret dX12_tonight_65 rfl (k0 )
theorem b_X12_fillsPut_0 {l : Launch} {G : jG} {μ : jM} {φ : jM → Prop} {x1 x2 : Int32} (hG : gMM G) (hP : gNN μ) 
    (k0 : J l mX12_fillsPut (jZ0 9 G (pV φ)) G 0 0 14 [.ref 112, .int x1, .int x2, .int 0] [] (wI (wI μ 112 68 (-2)) 112 69 (-2))) :
    J l mX12_fillsPut (jZ0 9 G (pV φ)) G 0 0 0 [.ref 112, .int x1, .int x2, .null] [] μ := by
  refine j_aload_n dX12_fillsPut_0 rfl rfl ?_
  refine j_bipush (-2) dX12_fillsPut_1 rfl (by decide) ?_
  refine j_putI (ci := 12) (N := 80) (f := 68) (T := TX12) dX12_fillsPut_3 rfl (hG 112 (17, 80) rfl) rfl (by decide) fl_X12_448 rfl rfl ?_
  refine j_aload_n dX12_fillsPut_6 rfl rfl ?_
  refine j_bipush (-2) dX12_fillsPut_7 rfl (by decide) ?_
  refine j_putI (ci := 12) (N := 80) (f := 69) (T := TX12) dX12_fillsPut_9 rfl (hG 112 (17, 80) rfl) rfl (by decide) fl_X12_451 rfl rfl ?_
  refine j_iconst 0 dX12_fillsPut_12 rfl (by decide) ?_
  refine j_istore_n (ls' := [.ref 112, .int x1, .int x2, .int 0]) dX12_fillsPut_13 rfl rfl (Nat.le_of_ble_eq_true rfl) rfl ?_
  exact k0 
theorem b_X12_fillsPut_14 {l : Launch} {G : jG} {μ : jM} {φ : jM → Prop} {x1 x2 x3 : Int32} {ψ1 : Int32 → jM → Prop} (hG : gMM G) (hP : gNN μ) 
    (o0 : vp_in (μ.1 112 18) 2) 
    (k0 : ((1 <<< ((μ.1 123 (Int32.toNatClampNeg (μ.1 112 18))) &&& 31)) ≤ (x3 : Int32)) → φ μ) 
    (e1 : (¬ ((1 <<< ((μ.1 123 (Int32.toNatClampNeg (μ.1 112 18))) &&& 31)) ≤ (x3 : Int32))) → jC0 l mX12_bits 0 G [.int x3] μ (pI ψ1)) 
    (k1 : (¬ ((1 <<< ((μ.1 123 (Int32.toNatClampNeg (μ.1 112 18))) &&& 31)) ≤ (x3 : Int32))) → ∀ v μ', ψ1 v μ' → J l mX12_fillsPut (jZ0 9 G (pV φ)) G 0 0 33 [.ref 112, .int x1, .int x2, .int x3] [.int v] μ') :
    J l mX12_fillsPut (jZ0 9 G (pV φ)) G 0 0 14 [.ref 112, .int x1, .int x2, .int x3] [] μ := by
  refine j_iload_n dX12_fillsPut_14 rfl rfl ?_
  refine j_iconst 1 dX12_fillsPut_15 rfl (by decide) ?_
  refine j_aload_n dX12_fillsPut_16 rfl rfl ?_
  refine j_getR (ci := 12) (N := 80) (f := 24) (T := TX12) 123 dX12_fillsPut_17 rfl (hG 112 (17, 80) rfl) rfl (by decide) fl_X12_49 rfl (hP 112 24 123 rfl) ?_
  refine j_aload_n dX12_fillsPut_20 rfl rfl ?_
  refine j_getI (ci := 12) (N := 80) (f := 18) (T := TX12) dX12_fillsPut_21 rfl (hG 112 (17, 80) rfl) rfl (by decide) fl_X12_263 rfl ?_
  refine j_iald' (j := (Int32.toNatClampNeg (μ.1 112 18))) dX12_fillsPut_24 rfl (hG 123 (0, 2) rfl) o0 rfl ?_
  refine j_ishl dX12_fillsPut_25 rfl ?_
  refine j_icmp_ge 119 dX12_fillsPut_26 rfl (by decide) (fun c0 => ?_) (fun c0 => ?_)
  · skip
    exact j_vret dX12_fillsPut_119 rfl (k0 c0)
  · skip
    refine j_iload_n dX12_fillsPut_29 rfl rfl ?_
    refine j_cS (as := [.int x3]) (rest := []) dX12_fillsPut_30 rfl vw_X12_454 ⟨Nat.le_of_ble_eq_true rfl, Nat.le_of_ble_eq_true rfl⟩ rfl rfl (fun _ _ => Nat.le_of_ble_eq_true rfl) (e1 c0) (fun r μ' hr => ?_)
    obtain ⟨v, rfl, hr⟩ := hr
    exact k1 c0 v μ' hr
theorem b_X12_fillsPut_33 {l : Launch} {G : jG} {μ : jM} {φ : jM → Prop} {x1 x2 x3 z0 : Int32} {ψ0 : jM → Prop} (hG : gMM G) (hP : gNN μ) 
    (e0 : (z0 = (x1 : Int32)) → jC0 l mX12_copies 1 G [.ref 112] μ (pV ψ0)) 
    (k0 : (z0 = (x1 : Int32)) → ∀ μ', ψ0 μ' → J l mX12_fillsPut (jZ0 9 G (pV φ)) G 0 0 44 [.ref 112, .int x1, .int x2, .int x3] [] μ') 
    (k1 : (¬ (z0 = (x1 : Int32))) → J l mX12_fillsPut (jZ0 9 G (pV φ)) G 0 0 14 [.ref 112, .int x1, .int x2, .int (x3 + 1)] [] μ) :
    J l mX12_fillsPut (jZ0 9 G (pV φ)) G 0 0 33 [.ref 112, .int x1, .int x2, .int x3] [.int z0] μ := by
  refine j_iload_n dX12_fillsPut_33 rfl rfl ?_
  refine j_icmp_eq 40 dX12_fillsPut_34 rfl (by decide) (fun c0 => ?_) (fun c0 => ?_)
  · skip
    refine j_aload_n dX12_fillsPut_40 rfl rfl ?_
    refine j_cV (as := []) (rest := []) dX12_fillsPut_41 rfl vw_X12_430 (hG 112 (17, 80) rfl) rfl ⟨Nat.le_of_ble_eq_true rfl, Nat.le_of_ble_eq_true rfl⟩ rfl rfl (fun _ _ => Nat.le_of_ble_eq_true rfl) (e0 c0) (fun r μ' hr => ?_)
    obtain ⟨rfl, hr⟩ := hr
    exact k0 c0 μ' hr
  · skip
    refine j_goto 113 dX12_fillsPut_37 (by decide) ?_
    refine j_iinc (x3 + 1) (ls' := [.ref 112, .int x1, .int x2, .int (x3 + 1)]) dX12_fillsPut_113 rfl rfl rfl (Nat.le_of_ble_eq_true rfl) rfl ?_
    refine j_goto 14 dX12_fillsPut_116 (by decide) ?_
    exact k1 c0
theorem b_X12_fillsPut_44 {l : Launch} {G : jG} {μ : jM} {φ : jM → Prop} {x1 x2 x3 : Int32} {ψ0 : jM → Prop} (hG : gMM G) (hP : gNN μ) 
    (e0 : jC0 l mX12_goes 8 G [.ref 112, .int x2] (wI μ 152 64 x3) (pV ψ0)) 
    (k0 : ∀ μ', ψ0 μ' → J l mX12_fillsPut (jZ0 9 G (pV φ)) G 0 0 57 [.ref 112, .int x1, .int x2, .int x3] [] μ') :
    J l mX12_fillsPut (jZ0 9 G (pV φ)) G 0 0 44 [.ref 112, .int x1, .int x2, .int x3] [] μ := by
  refine j_aload_n dX12_fillsPut_44 rfl rfl ?_
  refine j_getR (ci := 12) (N := 80) (f := 57) (T := TX12) 152 dX12_fillsPut_45 rfl (hG 112 (17, 80) rfl) rfl (by decide) fl_X12_137 rfl (hP 112 57 152 rfl) ?_
  refine j_bipush 64 dX12_fillsPut_48 rfl (by decide) ?_
  refine j_iload_n dX12_fillsPut_50 rfl rfl ?_
  refine j_iast' (j := 64) dX12_fillsPut_51 rfl (hG 152 (0, 68) rfl) (vpK (by decide)) (by decide) ?_
  refine j_aload_n dX12_fillsPut_52 rfl rfl ?_
  refine j_iload_n dX12_fillsPut_53 rfl rfl ?_
  refine j_cV (as := [.int x2]) (rest := []) dX12_fillsPut_54 rfl vw_X12_442 (hG 112 (17, 80) rfl) rfl ⟨Nat.le_of_ble_eq_true rfl, Nat.le_of_ble_eq_true rfl⟩ rfl rfl (fun _ _ => Nat.le_of_ble_eq_true rfl) (e0 ) (fun r μ' hr => ?_)
  obtain ⟨rfl, hr⟩ := hr
  exact k0  μ' hr
theorem b_X12_fillsPut_57 {l : Launch} {G : jG} {μ : jM} {φ : jM → Prop} {x1 x2 x3 : Int32} (hG : gMM G) (hP : gNN μ) 
    (k0 : ((μ.1 112 69) < (0 : Int32)) → J l mX12_fillsPut (jZ0 9 G (pV φ)) G 0 0 14 [.ref 112, .int x1, .int x2, .int (x3 + 1)] [] (wI (wI μ 112 68 ((μ.1 152 66) - (μ.1 151 66))) 112 69 x3)) 
    (k1 : (¬ ((μ.1 112 69) < (0 : Int32))) → ((μ.1 112 68) < (((μ.1 152 66) - (μ.1 151 66)) : Int32)) → J l mX12_fillsPut (jZ0 9 G (pV φ)) G 0 0 14 [.ref 112, .int x1, .int x2, .int (x3 + 1)] [] (wI (wI μ 112 68 ((μ.1 152 66) - (μ.1 151 66))) 112 69 x3)) 
    (k2 : (¬ ((μ.1 112 69) < (0 : Int32))) → (¬ ((μ.1 112 68) < (((μ.1 152 66) - (μ.1 151 66)) : Int32))) → J l mX12_fillsPut (jZ0 9 G (pV φ)) G 0 0 14 [.ref 112, .int x1, .int x2, .int (x3 + 1)] [] μ) :
    J l mX12_fillsPut (jZ0 9 G (pV φ)) G 0 0 57 [.ref 112, .int x1, .int x2, .int x3] [] μ := by
  refine j_aload_n dX12_fillsPut_57 rfl rfl ?_
  refine j_getI (ci := 12) (N := 80) (f := 69) (T := TX12) dX12_fillsPut_58 rfl (hG 112 (17, 80) rfl) rfl (by decide) fl_X12_451 rfl ?_
  refine j_if_lt 89 dX12_fillsPut_61 rfl (by decide) (fun c0 => ?_) (fun c0 => ?_)
  · skip
    refine j_aload_n dX12_fillsPut_89 rfl rfl ?_
    refine j_aload_n dX12_fillsPut_90 rfl rfl ?_
    refine j_getR (ci := 12) (N := 80) (f := 57) (T := TX12) 152 dX12_fillsPut_91 rfl (hG 112 (17, 80) rfl) rfl (by decide) fl_X12_137 rfl (hP 112 57 152 rfl) ?_
    refine j_bipush 66 dX12_fillsPut_94 rfl (by decide) ?_
    refine j_iald' (j := 66) dX12_fillsPut_96 rfl (hG 152 (0, 68) rfl) (vpK (by decide)) (by decide) ?_
    refine j_aload_n dX12_fillsPut_97 rfl rfl ?_
    refine j_getR (ci := 12) (N := 80) (f := 56) (T := TX12) 151 dX12_fillsPut_98 rfl (hG 112 (17, 80) rfl) rfl (by decide) fl_X12_134 rfl (hP 112 56 151 rfl) ?_
    refine j_bipush 66 dX12_fillsPut_101 rfl (by decide) ?_
    refine j_iald' (j := 66) dX12_fillsPut_103 rfl (hG 151 (0, 68) rfl) (vpK (by decide)) (by decide) ?_
    refine j_isub dX12_fillsPut_104 rfl ?_
    refine j_putI (ci := 12) (N := 80) (f := 68) (T := TX12) dX12_fillsPut_105 rfl (hG 112 (17, 80) rfl) rfl (by decide) fl_X12_448 rfl rfl ?_
    refine j_aload_n dX12_fillsPut_108 rfl rfl ?_
    refine j_iload_n dX12_fillsPut_109 rfl rfl ?_
    refine j_putI (ci := 12) (N := 80) (f := 69) (T := TX12) dX12_fillsPut_110 rfl (hG 112 (17, 80) rfl) rfl (by decide) fl_X12_451 rfl rfl ?_
    refine j_iinc (x3 + 1) (ls' := [.ref 112, .int x1, .int x2, .int (x3 + 1)]) dX12_fillsPut_113 rfl rfl rfl (Nat.le_of_ble_eq_true rfl) rfl ?_
    refine j_goto 14 dX12_fillsPut_116 (by decide) ?_
    exact k0 c0
  · skip
    refine j_aload_n dX12_fillsPut_64 rfl rfl ?_
    refine j_getR (ci := 12) (N := 80) (f := 57) (T := TX12) 152 dX12_fillsPut_65 rfl (hG 112 (17, 80) rfl) rfl (by decide) fl_X12_137 rfl (hP 112 57 152 rfl) ?_
    refine j_bipush 66 dX12_fillsPut_68 rfl (by decide) ?_
    refine j_iald' (j := 66) dX12_fillsPut_70 rfl (hG 152 (0, 68) rfl) (vpK (by decide)) (by decide) ?_
    refine j_aload_n dX12_fillsPut_71 rfl rfl ?_
    refine j_getR (ci := 12) (N := 80) (f := 56) (T := TX12) 151 dX12_fillsPut_72 rfl (hG 112 (17, 80) rfl) rfl (by decide) fl_X12_134 rfl (hP 112 56 151 rfl) ?_
    refine j_bipush 66 dX12_fillsPut_75 rfl (by decide) ?_
    refine j_iald' (j := 66) dX12_fillsPut_77 rfl (hG 151 (0, 68) rfl) (vpK (by decide)) (by decide) ?_
    refine j_isub dX12_fillsPut_78 rfl ?_
    refine j_aload_n dX12_fillsPut_79 rfl rfl ?_
    refine j_getI (ci := 12) (N := 80) (f := 68) (T := TX12) dX12_fillsPut_80 rfl (hG 112 (17, 80) rfl) rfl (by decide) fl_X12_448 rfl ?_
    refine j_icmp_gt 89 dX12_fillsPut_83 rfl (by decide) (fun c1 => ?_) (fun c1 => ?_)
    · skip
      refine j_aload_n dX12_fillsPut_89 rfl rfl ?_
      refine j_aload_n dX12_fillsPut_90 rfl rfl ?_
      refine j_getR (ci := 12) (N := 80) (f := 57) (T := TX12) 152 dX12_fillsPut_91 rfl (hG 112 (17, 80) rfl) rfl (by decide) fl_X12_137 rfl (hP 112 57 152 rfl) ?_
      refine j_bipush 66 dX12_fillsPut_94 rfl (by decide) ?_
      refine j_iald' (j := 66) dX12_fillsPut_96 rfl (hG 152 (0, 68) rfl) (vpK (by decide)) (by decide) ?_
      refine j_aload_n dX12_fillsPut_97 rfl rfl ?_
      refine j_getR (ci := 12) (N := 80) (f := 56) (T := TX12) 151 dX12_fillsPut_98 rfl (hG 112 (17, 80) rfl) rfl (by decide) fl_X12_134 rfl (hP 112 56 151 rfl) ?_
      refine j_bipush 66 dX12_fillsPut_101 rfl (by decide) ?_
      refine j_iald' (j := 66) dX12_fillsPut_103 rfl (hG 151 (0, 68) rfl) (vpK (by decide)) (by decide) ?_
      refine j_isub dX12_fillsPut_104 rfl ?_
      refine j_putI (ci := 12) (N := 80) (f := 68) (T := TX12) dX12_fillsPut_105 rfl (hG 112 (17, 80) rfl) rfl (by decide) fl_X12_448 rfl rfl ?_
      refine j_aload_n dX12_fillsPut_108 rfl rfl ?_
      refine j_iload_n dX12_fillsPut_109 rfl rfl ?_
      refine j_putI (ci := 12) (N := 80) (f := 69) (T := TX12) dX12_fillsPut_110 rfl (hG 112 (17, 80) rfl) rfl (by decide) fl_X12_451 rfl rfl ?_
      refine j_iinc (x3 + 1) (ls' := [.ref 112, .int x1, .int x2, .int (x3 + 1)]) dX12_fillsPut_113 rfl rfl rfl (Nat.le_of_ble_eq_true rfl) rfl ?_
      refine j_goto 14 dX12_fillsPut_116 (by decide) ?_
      exact k1 c0 c1
    · skip
      refine j_goto 113 dX12_fillsPut_86 (by decide) ?_
      refine j_iinc (x3 + 1) (ls' := [.ref 112, .int x1, .int x2, .int (x3 + 1)]) dX12_fillsPut_113 rfl rfl rfl (Nat.le_of_ble_eq_true rfl) rfl ?_
      refine j_goto 14 dX12_fillsPut_116 (by decide) ?_
      exact k2 c0 c1
theorem b_X12_put_0 {l : Launch} {G : jG} {μ : jM} {φ : Int32 → jM → Prop} {x1 x2 x3 : Int32} {ψ0 : Int32 → jM → Prop} (hG : gMM G) (hP : gNN μ) 
    (e0 : jC0 l mX12_in 0 G [.int x1, .int 1, .int 3] μ (pI ψ0)) 
    (k0 : ∀ v μ', ψ0 v μ' → J l mX12_put (jZ0 10 G (pI φ)) G 0 0 6 [.ref 112, .int x1, .int x2, .int x3] [.int v] μ') :
    J l mX12_put (jZ0 10 G (pI φ)) G 0 0 0 [.ref 112, .int x1, .int x2, .int x3] [] μ := by
  refine j_iload_n dX12_put_0 rfl rfl ?_
  refine j_iconst 1 dX12_put_1 rfl (by decide) ?_
  refine j_iconst 3 dX12_put_2 rfl (by decide) ?_
  refine j_cS (as := [.int x1, .int 1, .int 3]) (rest := []) dX12_put_3 rfl vw_X12_349 ⟨Nat.le_of_ble_eq_true rfl, Nat.le_of_ble_eq_true rfl⟩ rfl rfl (fun _ _ => Nat.le_of_ble_eq_true rfl) (e0 ) (fun r μ' hr => ?_)
  obtain ⟨v, rfl, hr⟩ := hr
  exact k0  v μ' hr
theorem b_X12_put_6 {l : Launch} {G : jG} {μ : jM} {φ : Int32 → jM → Prop} {x1 x2 x3 z0 : Int32} {ψ1 : Int32 → jM → Prop} (hG : gMM G) (hP : gNN μ) 
    (k0 : (z0 = (0 : Int32)) → φ (-1) μ) 
    (e1 : (¬ (z0 = (0 : Int32))) → jC0 l mX12_in 0 G [.int x2, .int 1, .int 9] μ (pI ψ1)) 
    (k1 : (¬ (z0 = (0 : Int32))) → ∀ v μ', ψ1 v μ' → J l mX12_put (jZ0 10 G (pI φ)) G 0 0 16 [.ref 112, .int x1, .int x2, .int x3] [.int v] μ') :
    J l mX12_put (jZ0 10 G (pI φ)) G 0 0 6 [.ref 112, .int x1, .int x2, .int x3] [.int z0] μ := by
  refine j_if_eq 28 dX12_put_6 rfl (by decide) (fun c0 => ?_) (fun c0 => ?_)
  · skip
    refine j_iconst (-1) dX12_put_28 rfl (by decide) ?_
    exact j_iret dX12_put_29 rfl (k0 c0)
  · skip
    refine j_iload_n dX12_put_9 rfl rfl ?_
    refine j_iconst 1 dX12_put_10 rfl (by decide) ?_
    refine j_bipush 9 dX12_put_11 rfl (by decide) ?_
    refine j_cS (as := [.int x2, .int 1, .int 9]) (rest := []) dX12_put_13 rfl vw_X12_349 ⟨Nat.le_of_ble_eq_true rfl, Nat.le_of_ble_eq_true rfl⟩ rfl rfl (fun _ _ => Nat.le_of_ble_eq_true rfl) (e1 c0) (fun r μ' hr => ?_)
    obtain ⟨v, rfl, hr⟩ := hr
    exact k1 c0 v μ' hr
theorem b_X12_put_16 {l : Launch} {G : jG} {μ : jM} {φ : Int32 → jM → Prop} {x1 x2 x3 z0 : Int32} {ψ1 : Int32 → jM → Prop} (hG : gMM G) (hP : gNN μ) 
    (k0 : (z0 = (0 : Int32)) → φ (-1) μ) 
    (e1 : (¬ (z0 = (0 : Int32))) → jC0 l mX12_in 0 G [.int x3, .int 0, .int 1] μ (pI ψ1)) 
    (k1 : (¬ (z0 = (0 : Int32))) → ∀ v μ', ψ1 v μ' → J l mX12_put (jZ0 10 G (pI φ)) G 0 0 25 [.ref 112, .int x1, .int x2, .int x3] [.int v] μ') :
    J l mX12_put (jZ0 10 G (pI φ)) G 0 0 16 [.ref 112, .int x1, .int x2, .int x3] [.int z0] μ := by
  refine j_if_eq 28 dX12_put_16 rfl (by decide) (fun c0 => ?_) (fun c0 => ?_)
  · skip
    refine j_iconst (-1) dX12_put_28 rfl (by decide) ?_
    exact j_iret dX12_put_29 rfl (k0 c0)
  · skip
    refine j_iload_n dX12_put_19 rfl rfl ?_
    refine j_iconst 0 dX12_put_20 rfl (by decide) ?_
    refine j_iconst 1 dX12_put_21 rfl (by decide) ?_
    refine j_cS (as := [.int x3, .int 0, .int 1]) (rest := []) dX12_put_22 rfl vw_X12_349 ⟨Nat.le_of_ble_eq_true rfl, Nat.le_of_ble_eq_true rfl⟩ rfl rfl (fun _ _ => Nat.le_of_ble_eq_true rfl) (e1 c0) (fun r μ' hr => ?_)
    obtain ⟨v, rfl, hr⟩ := hr
    exact k1 c0 v μ' hr
theorem b_X12_put_25 {l : Launch} {G : jG} {μ : jM} {φ : Int32 → jM → Prop} {x1 x2 x3 z0 : Int32} {ψ0 : jM → Prop} (hG : gMM G) (hP : gNN μ) 
    (e0 : (¬ z0 = (0 : Int32)) → jC0 l mX12_fillsPut 9 G [.ref 112, .int x1, .int x2] μ (pV ψ0)) 
    (k0 : (¬ z0 = (0 : Int32)) → ∀ μ', ψ0 μ' → J l mX12_put (jZ0 10 G (pI φ)) G 0 0 36 [.ref 112, .null, .null, .int x3] [] μ') 
    (k1 : (z0 = (0 : Int32)) → φ (-1) μ) :
    J l mX12_put (jZ0 10 G (pI φ)) G 0 0 25 [.ref 112, .int x1, .int x2, .int x3] [.int z0] μ := by
  refine j_if_ne 30 dX12_put_25 rfl (by decide) (fun c0 => ?_) (fun c0 => ?_)
  · skip
    refine j_aload_n dX12_put_30 rfl rfl ?_
    refine j_iload_n dX12_put_31 rfl rfl ?_
    refine j_iload_n dX12_put_32 rfl rfl ?_
    refine j_cV (as := [.int x1, .int x2]) (rest := []) dX12_put_33 rfl vw_X12_457 (hG 112 (17, 80) rfl) rfl ⟨Nat.le_of_ble_eq_true rfl, Nat.le_of_ble_eq_true rfl⟩ rfl rfl (fun _ _ => Nat.le_of_ble_eq_true rfl) (e0 c0) (fun r μ' hr => ?_)
    obtain ⟨rfl, hr⟩ := hr
    refine j_forget (ls' := [.ref 112, .null, .null, .int x3]) ⟨Or.inr rfl, Or.inl rfl, Or.inl rfl, Or.inr rfl, trivial⟩ ?_
    exact k0 c0 μ' hr
  · skip
    refine j_iconst (-1) dX12_put_28 rfl (by decide) ?_
    exact j_iret dX12_put_29 rfl (k1 c0)
theorem b_X12_put_36 {l : Launch} {G : jG} {μ : jM} {φ : Int32 → jM → Prop} {x3 : Int32} (hG : gMM G) (hP : gNN μ) 
    (k0 : (¬ x3 = (0 : Int32)) → φ (μ.1 112 69) μ) 
    (k1 : (x3 = (0 : Int32)) → φ (μ.1 112 68) μ) :
    J l mX12_put (jZ0 10 G (pI φ)) G 0 0 36 [.ref 112, .null, .null, .int x3] [] μ := by
  refine j_iload_n dX12_put_36 rfl rfl ?_
  refine j_if_ne 47 dX12_put_37 rfl (by decide) (fun c0 => ?_) (fun c0 => ?_)
  · skip
    refine j_aload_n dX12_put_47 rfl rfl ?_
    refine j_getI (ci := 12) (N := 80) (f := 69) (T := TX12) dX12_put_48 rfl (hG 112 (17, 80) rfl) rfl (by decide) fl_X12_451 rfl ?_
    exact j_iret dX12_put_51 rfl (k0 c0)
  · skip
    refine j_aload_n dX12_put_40 rfl rfl ?_
    refine j_getI (ci := 12) (N := 80) (f := 68) (T := TX12) dX12_put_41 rfl (hG 112 (17, 80) rfl) rfl (by decide) fl_X12_448 rfl ?_
    refine j_goto 51 dX12_put_44 (by decide) ?_
    exact j_iret dX12_put_51 rfl (k1 c0)
theorem b_X12_isFree_0 {l : Launch} {G : jG} {μ : jM} {φ : Int32 → jM → Prop} {x1 : Int32} {ψ0 : Int32 → jM → Prop} (hG : gMM G) (hP : gNN μ) 
    (e0 : jC0 l mX12_findsWay 6 G [.ref 112, .int x1] μ (pI ψ0)) 
    (k0 : ∀ v μ', ψ0 v μ' → J l mX12_isFree (jZ0 7 G (pI φ)) G 0 0 5 [.ref 112, .null, .null] [.int v] μ') :
    J l mX12_isFree (jZ0 7 G (pI φ)) G 0 0 0 [.ref 112, .int x1, .null] [] μ := by
  refine j_aload_n dX12_isFree_0 rfl rfl ?_
  refine j_iload_n dX12_isFree_1 rfl rfl ?_
  refine j_cV (as := [.int x1]) (rest := []) dX12_isFree_2 rfl vw_X12_418 (hG 112 (17, 80) rfl) rfl ⟨Nat.le_of_ble_eq_true rfl, Nat.le_of_ble_eq_true rfl⟩ rfl rfl (fun _ _ => Nat.le_of_ble_eq_true rfl) (e0 ) (fun r μ' hr => ?_)
  obtain ⟨v, rfl, hr⟩ := hr
  refine j_forget (ls' := [.ref 112, .null, .null]) ⟨Or.inr rfl, Or.inl rfl, Or.inr rfl, trivial⟩ ?_
  exact k0  v μ' hr
theorem b_X12_isFree_5 {l : Launch} {G : jG} {μ : jM} {φ : Int32 → jM → Prop} {z0 : Int32} (hG : gMM G) (hP : gNN μ) 
    (k0 : (¬ z0 = (0 : Int32)) → J l mX12_isFree (jZ0 7 G (pI φ)) G 0 0 12 [.ref 112, .null, .int 0] [] μ) 
    (k1 : (z0 = (0 : Int32)) → φ 0 μ) :
    J l mX12_isFree (jZ0 7 G (pI φ)) G 0 0 5 [.ref 112, .null, .null] [.int z0] μ := by
  refine j_if_ne 10 dX12_isFree_5 rfl (by decide) (fun c0 => ?_) (fun c0 => ?_)
  · skip
    refine j_iconst 0 dX12_isFree_10 rfl (by decide) ?_
    refine j_istore_n (ls' := [.ref 112, .null, .int 0]) dX12_isFree_11 rfl rfl (Nat.le_of_ble_eq_true rfl) rfl ?_
    exact k0 c0
  · skip
    refine j_iconst 0 dX12_isFree_8 rfl (by decide) ?_
    exact j_zret dX12_isFree_9 rfl (by decide) (k1 c0)
theorem b_X12_isFree_12 {l : Launch} {G : jG} {μ : jM} {φ : Int32 → jM → Prop} {x2 : Int32} {ψ1 : Int32 → jM → Prop} (hG : gMM G) (hP : gNN μ) 
    (k0 : ((μ.1 112 65) ≤ (x2 : Int32)) → φ 1 μ) 
    (o0 : (¬ ((μ.1 112 65) ≤ (x2 : Int32))) → vp_in x2 8) 
    (e1 : (¬ ((μ.1 112 65) ≤ (x2 : Int32))) → jC0 l mX12_hasGate 0 G [.ref 112, .int (μ.1 156 (Int32.toNatClampNeg x2))] μ (pI ψ1)) 
    (k1 : (¬ ((μ.1 112 65) ≤ (x2 : Int32))) → ∀ v μ', ψ1 v μ' → J l mX12_isFree (jZ0 7 G (pI φ)) G 0 0 30 [.ref 112, .null, .int x2] [.int v] μ') :
    J l mX12_isFree (jZ0 7 G (pI φ)) G 0 0 12 [.ref 112, .null, .int x2] [] μ := by
  refine j_iload_n dX12_isFree_12 rfl rfl ?_
  refine j_aload_n dX12_isFree_13 rfl rfl ?_
  refine j_getI (ci := 12) (N := 80) (f := 65) (T := TX12) dX12_isFree_14 rfl (hG 112 (17, 80) rfl) rfl (by decide) fl_X12_409 rfl ?_
  refine j_icmp_ge 41 dX12_isFree_17 rfl (by decide) (fun c0 => ?_) (fun c0 => ?_)
  · skip
    refine j_iconst 1 dX12_isFree_41 rfl (by decide) ?_
    exact j_zret dX12_isFree_42 rfl (by decide) (k0 c0)
  · skip
    refine j_aload_n dX12_isFree_20 rfl rfl ?_
    refine j_aload_n dX12_isFree_21 rfl rfl ?_
    refine j_getR (ci := 12) (N := 80) (f := 64) (T := TX12) 156 dX12_isFree_22 rfl (hG 112 (17, 80) rfl) rfl (by decide) fl_X12_149 rfl (hP 112 64 156 rfl) ?_
    refine j_iload_n dX12_isFree_25 rfl rfl ?_
    refine j_iald' (j := (Int32.toNatClampNeg x2)) dX12_isFree_26 rfl (hG 156 (0, 8) rfl) (o0 c0) rfl ?_
    refine j_cV (as := [.int (μ.1 156 (Int32.toNatClampNeg x2))]) (rest := []) dX12_isFree_27 rfl vw_X12_385 (hG 112 (17, 80) rfl) rfl ⟨Nat.le_of_ble_eq_true rfl, Nat.le_of_ble_eq_true rfl⟩ rfl rfl (fun _ _ => Nat.le_of_ble_eq_true rfl) (e1 c0) (fun r μ' hr => ?_)
    obtain ⟨v, rfl, hr⟩ := hr
    exact k1 c0 v μ' hr
theorem b_X12_isFree_30 {l : Launch} {G : jG} {μ : jM} {φ : Int32 → jM → Prop} {x2 z0 : Int32} (hG : gMM G) (hP : gNN μ) 
    (k0 : (z0 = (0 : Int32)) → J l mX12_isFree (jZ0 7 G (pI φ)) G 0 0 12 [.ref 112, .null, .int (x2 + 1)] [] μ) 
    (k1 : (¬ (z0 = (0 : Int32))) → φ 0 μ) :
    J l mX12_isFree (jZ0 7 G (pI φ)) G 0 0 30 [.ref 112, .null, .int x2] [.int z0] μ := by
  refine j_if_eq 35 dX12_isFree_30 rfl (by decide) (fun c0 => ?_) (fun c0 => ?_)
  · skip
    refine j_iinc (x2 + 1) (ls' := [.ref 112, .null, .int (x2 + 1)]) dX12_isFree_35 rfl rfl rfl (Nat.le_of_ble_eq_true rfl) rfl ?_
    refine j_goto 12 dX12_isFree_38 (by decide) ?_
    exact k0 c0
  · skip
    refine j_iconst 0 dX12_isFree_33 rfl (by decide) ?_
    exact j_zret dX12_isFree_34 rfl (by decide) (k1 c0)
theorem b_X12_freeNow_0 {l : Launch} {G : jG} {μ : jM} {φ : Int32 → jM → Prop} (hG : gMM G) (hP : gNN μ) 
    (k0 : J l mX12_freeNow (jZ0 8 G (pI φ)) G 0 0 4 [.ref 112, .int 0, .int 0] [] μ) :
    J l mX12_freeNow (jZ0 8 G (pI φ)) G 0 0 0 [.ref 112, .null, .null] [] μ := by
  refine j_iconst 0 dX12_freeNow_0 rfl (by decide) ?_
  refine j_istore_n (ls' := [.ref 112, .int 0, .null]) dX12_freeNow_1 rfl rfl (Nat.le_of_ble_eq_true rfl) rfl ?_
  refine j_iconst 0 dX12_freeNow_2 rfl (by decide) ?_
  refine j_istore_n (ls' := [.ref 112, .int 0, .int 0]) dX12_freeNow_3 rfl rfl (Nat.le_of_ble_eq_true rfl) rfl ?_
  exact k0 
theorem b_X12_freeNow_4 {l : Launch} {G : jG} {μ : jM} {φ : Int32 → jM → Prop} {x1 x2 : Int32} {ψ1 : Int32 → jM → Prop} (hG : gMM G) (hP : gNN μ) 
    (o0 : vp_in (μ.1 112 18) 2) 
    (k0 : ((μ.1 129 (Int32.toNatClampNeg (μ.1 112 18))) ≤ (x2 : Int32)) → φ x1 μ) 
    (e1 : (¬ ((μ.1 129 (Int32.toNatClampNeg (μ.1 112 18))) ≤ (x2 : Int32))) → jC0 l mX12_isFree 7 G [.ref 112, .int x2] μ (pI ψ1)) 
    (k1 : (¬ ((μ.1 129 (Int32.toNatClampNeg (μ.1 112 18))) ≤ (x2 : Int32))) → ∀ v μ', ψ1 v μ' → J l mX12_freeNow (jZ0 8 G (pI φ)) G 0 0 22 [.ref 112, .int x1, .int x2] [.int v] μ') :
    J l mX12_freeNow (jZ0 8 G (pI φ)) G 0 0 4 [.ref 112, .int x1, .int x2] [] μ := by
  refine j_iload_n dX12_freeNow_4 rfl rfl ?_
  refine j_aload_n dX12_freeNow_5 rfl rfl ?_
  refine j_getR (ci := 12) (N := 80) (f := 30) (T := TX12) 129 dX12_freeNow_6 rfl (hG 112 (17, 80) rfl) rfl (by decide) fl_X12_68 rfl (hP 112 30 129 rfl) ?_
  refine j_aload_n dX12_freeNow_9 rfl rfl ?_
  refine j_getI (ci := 12) (N := 80) (f := 18) (T := TX12) dX12_freeNow_10 rfl (hG 112 (17, 80) rfl) rfl (by decide) fl_X12_263 rfl ?_
  refine j_iald' (j := (Int32.toNatClampNeg (μ.1 112 18))) dX12_freeNow_13 rfl (hG 129 (0, 2) rfl) o0 rfl ?_
  refine j_icmp_ge 37 dX12_freeNow_14 rfl (by decide) (fun c0 => ?_) (fun c0 => ?_)
  · skip
    refine j_iload_n dX12_freeNow_37 rfl rfl ?_
    exact j_iret dX12_freeNow_38 rfl (k0 c0)
  · skip
    refine j_aload_n dX12_freeNow_17 rfl rfl ?_
    refine j_iload_n dX12_freeNow_18 rfl rfl ?_
    refine j_cV (as := [.int x2]) (rest := []) dX12_freeNow_19 rfl vw_X12_460 (hG 112 (17, 80) rfl) rfl ⟨Nat.le_of_ble_eq_true rfl, Nat.le_of_ble_eq_true rfl⟩ rfl rfl (fun _ _ => Nat.le_of_ble_eq_true rfl) (e1 c0) (fun r μ' hr => ?_)
    obtain ⟨v, rfl, hr⟩ := hr
    exact k1 c0 v μ' hr
theorem b_X12_freeNow_22 {l : Launch} {G : jG} {μ : jM} {φ : Int32 → jM → Prop} {x1 x2 z0 : Int32} (hG : gMM G) (hP : gNN μ) 
    (k0 : (z0 = (0 : Int32)) → J l mX12_freeNow (jZ0 8 G (pI φ)) G 0 0 4 [.ref 112, .int x1, .int (x2 + 1)] [] μ) 
    (k1 : (¬ (z0 = (0 : Int32))) → J l mX12_freeNow (jZ0 8 G (pI φ)) G 0 0 4 [.ref 112, .int (x1 ||| (1 <<< (x2 &&& 31))), .int (x2 + 1)] [] μ) :
    J l mX12_freeNow (jZ0 8 G (pI φ)) G 0 0 22 [.ref 112, .int x1, .int x2] [.int z0] μ := by
  refine j_if_eq 31 dX12_freeNow_22 rfl (by decide) (fun c0 => ?_) (fun c0 => ?_)
  · skip
    refine j_iinc (x2 + 1) (ls' := [.ref 112, .int x1, .int (x2 + 1)]) dX12_freeNow_31 rfl rfl rfl (Nat.le_of_ble_eq_true rfl) rfl ?_
    refine j_goto 4 dX12_freeNow_34 (by decide) ?_
    exact k0 c0
  · skip
    refine j_iload_n dX12_freeNow_25 rfl rfl ?_
    refine j_iconst 1 dX12_freeNow_26 rfl (by decide) ?_
    refine j_iload_n dX12_freeNow_27 rfl rfl ?_
    refine j_ishl dX12_freeNow_28 rfl ?_
    refine j_ior dX12_freeNow_29 rfl ?_
    refine j_istore_n (ls' := [.ref 112, .int (x1 ||| (1 <<< (x2 &&& 31))), .int x2]) dX12_freeNow_30 rfl rfl (Nat.le_of_ble_eq_true rfl) rfl ?_
    refine j_iinc (x2 + 1) (ls' := [.ref 112, .int (x1 ||| (1 <<< (x2 &&& 31))), .int (x2 + 1)]) dX12_freeNow_31 rfl rfl rfl (Nat.le_of_ble_eq_true rfl) rfl ?_
    refine j_goto 4 dX12_freeNow_34 (by decide) ?_
    exact k1 c0
theorem b_X12_free_0 {l : Launch} {G : jG} {μ : jM} {φ : Int32 → jM → Prop} {ψ0 : jM → Prop} (hG : gMM G) (hP : gNN μ) 
    (e0 : jC0 l mX12_copies 1 G [.ref 112] μ (pV ψ0)) 
    (k0 : ∀ μ', ψ0 μ' → J l mX12_free (jZ0 9 G (pI φ)) G 0 0 4 [.ref 112] [] μ') :
    J l mX12_free (jZ0 9 G (pI φ)) G 0 0 0 [.ref 112] [] μ := by
  refine j_aload_n dX12_free_0 rfl rfl ?_
  refine j_cV (as := []) (rest := []) dX12_free_1 rfl vw_X12_430 (hG 112 (17, 80) rfl) rfl ⟨Nat.le_of_ble_eq_true rfl, Nat.le_of_ble_eq_true rfl⟩ rfl rfl (fun _ _ => Nat.le_of_ble_eq_true rfl) (e0 ) (fun r μ' hr => ?_)
  obtain ⟨rfl, hr⟩ := hr
  exact k0  μ' hr
theorem b_X12_free_4 {l : Launch} {G : jG} {μ : jM} {φ : Int32 → jM → Prop} {ψ0 : Int32 → jM → Prop} (hG : gMM G) (hP : gNN μ) 
    (e0 : jC0 l mX12_freeNow 8 G [.ref 112] μ (pI ψ0)) 
    (k0 : ∀ v μ', ψ0 v μ' → J l mX12_free (jZ0 9 G (pI φ)) G 0 0 8 [.null] [.int v] μ') :
    J l mX12_free (jZ0 9 G (pI φ)) G 0 0 4 [.ref 112] [] μ := by
  refine j_aload_n dX12_free_4 rfl rfl ?_
  refine j_cV (as := []) (rest := []) dX12_free_5 rfl vw_X12_463 (hG 112 (17, 80) rfl) rfl ⟨Nat.le_of_ble_eq_true rfl, Nat.le_of_ble_eq_true rfl⟩ rfl rfl (fun _ _ => Nat.le_of_ble_eq_true rfl) (e0 ) (fun r μ' hr => ?_)
  obtain ⟨v, rfl, hr⟩ := hr
  refine j_forget (ls' := [.null]) ⟨Or.inl rfl, trivial⟩ ?_
  exact k0  v μ' hr
theorem b_X12_free_8 {l : Launch} {G : jG} {μ : jM} {φ : Int32 → jM → Prop} {z0 : Int32} (hG : gMM G) (hP : gNN μ) 
    (k0 : φ z0 μ) :
    J l mX12_free (jZ0 9 G (pI φ)) G 0 0 8 [.null] [.int z0] μ := by
  exact j_iret dX12_free_8 rfl (k0 )
theorem b_X12_stop_0 {l : Launch} {G : jG} {μ : jM} {φ : Int32 → jM → Prop} {x1 : Int32} {ψ0 : Int32 → jM → Prop} (hG : gMM G) (hP : gNN μ) 
    (e0 : jC0 l mX12_in 0 G [.int x1, .int 0, .int 1] μ (pI ψ0)) 
    (k0 : ∀ v μ', ψ0 v μ' → J l mX12_stop (jZ0 9 G (pI φ)) G 0 0 6 [.ref 112, .int x1, .null, .null] [.int v] μ') :
    J l mX12_stop (jZ0 9 G (pI φ)) G 0 0 0 [.ref 112, .int x1, .null, .null] [] μ := by
  refine j_iload_n dX12_stop_0 rfl rfl ?_
  refine j_iconst 0 dX12_stop_1 rfl (by decide) ?_
  refine j_iconst 1 dX12_stop_2 rfl (by decide) ?_
  refine j_cS (as := [.int x1, .int 0, .int 1]) (rest := []) dX12_stop_3 rfl vw_X12_349 ⟨Nat.le_of_ble_eq_true rfl, Nat.le_of_ble_eq_true rfl⟩ rfl rfl (fun _ _ => Nat.le_of_ble_eq_true rfl) (e0 ) (fun r μ' hr => ?_)
  obtain ⟨v, rfl, hr⟩ := hr
  exact k0  v μ' hr
theorem b_X12_stop_6 {l : Launch} {G : jG} {μ : jM} {φ : Int32 → jM → Prop} {x1 z0 : Int32} {ψ0 : jM → Prop} (hG : gMM G) (hP : gNN μ) 
    (e0 : (¬ z0 = (0 : Int32)) → jC0 l mX12_copies 1 G [.ref 112] μ (pV ψ0)) 
    (k0 : (¬ z0 = (0 : Int32)) → ∀ μ', ψ0 μ' → J l mX12_stop (jZ0 9 G (pI φ)) G 0 0 15 [.ref 112, .int x1, .null, .null] [] μ') 
    (k1 : (z0 = (0 : Int32)) → φ (-1) μ) :
    J l mX12_stop (jZ0 9 G (pI φ)) G 0 0 6 [.ref 112, .int x1, .null, .null] [.int z0] μ := by
  refine j_if_ne 11 dX12_stop_6 rfl (by decide) (fun c0 => ?_) (fun c0 => ?_)
  · skip
    refine j_aload_n dX12_stop_11 rfl rfl ?_
    refine j_cV (as := []) (rest := []) dX12_stop_12 rfl vw_X12_430 (hG 112 (17, 80) rfl) rfl ⟨Nat.le_of_ble_eq_true rfl, Nat.le_of_ble_eq_true rfl⟩ rfl rfl (fun _ _ => Nat.le_of_ble_eq_true rfl) (e0 c0) (fun r μ' hr => ?_)
    obtain ⟨rfl, hr⟩ := hr
    exact k0 c0 μ' hr
  · skip
    refine j_iconst (-1) dX12_stop_9 rfl (by decide) ?_
    exact j_iret dX12_stop_10 rfl (k1 c0)
theorem b_X12_stop_15 {l : Launch} {G : jG} {μ : jM} {φ : Int32 → jM → Prop} {x1 : Int32} (hG : gMM G) (hP : gNN μ) 
    (k0 : J l mX12_stop (jZ0 9 G (pI φ)) G 0 0 19 [.ref 112, .int x1, .int (-1), .int 0] [] μ) :
    J l mX12_stop (jZ0 9 G (pI φ)) G 0 0 15 [.ref 112, .int x1, .null, .null] [] μ := by
  refine j_iconst (-1) dX12_stop_15 rfl (by decide) ?_
  refine j_istore_n (ls' := [.ref 112, .int x1, .int (-1), .null]) dX12_stop_16 rfl rfl (Nat.le_of_ble_eq_true rfl) rfl ?_
  refine j_iconst 0 dX12_stop_17 rfl (by decide) ?_
  refine j_istore_n (ls' := [.ref 112, .int x1, .int (-1), .int 0]) dX12_stop_18 rfl rfl (Nat.le_of_ble_eq_true rfl) rfl ?_
  exact k0 
theorem b_X12_stop_19 {l : Launch} {G : jG} {μ : jM} {φ : Int32 → jM → Prop} {x1 x2 x3 : Int32} {ψ1 : Int32 → jM → Prop} {ψ2 : Int32 → jM → Prop} {ψ3 : Int32 → jM → Prop} (hG : gMM G) (hP : gNN μ) 
    (o0 : vp_in (μ.1 112 18) 2) 
    (k0 : ((1 <<< ((μ.1 123 (Int32.toNatClampNeg (μ.1 112 18))) &&& 31)) ≤ (x3 : Int32)) → (¬ x1 = (0 : Int32)) → φ x2 μ) 
    (e1 : ((1 <<< ((μ.1 123 (Int32.toNatClampNeg (μ.1 112 18))) &&& 31)) ≤ (x3 : Int32)) → (x1 = (0 : Int32)) → jC0 l mX12_bits 0 G [.int x2] μ (pI ψ1)) 
    (k1 : ((1 <<< ((μ.1 123 (Int32.toNatClampNeg (μ.1 112 18))) &&& 31)) ≤ (x3 : Int32)) → (x1 = (0 : Int32)) → ∀ v μ', ψ1 v μ' → J l mX12_stop (jZ0 9 G (pI φ)) G 0 0 83 [.null, .null, .null, .null] [.int v] μ') 
    (e2 : (¬ ((1 <<< ((μ.1 123 (Int32.toNatClampNeg (μ.1 112 18))) &&& 31)) ≤ (x3 : Int32))) → (x2 < (0 : Int32)) → jC0 l mX12_freeNow 8 G [.ref 112] (wI μ 152 64 x3) (pI ψ2)) 
    (k2 : (¬ ((1 <<< ((μ.1 123 (Int32.toNatClampNeg (μ.1 112 18))) &&& 31)) ≤ (x3 : Int32))) → (x2 < (0 : Int32)) → ∀ v μ', ψ2 v μ' → J l mX12_stop (jZ0 9 G (pI φ)) G 0 0 64 [.ref 112, .int x1, .int x2, .int x3] [.int v] μ') 
    (e3 : (¬ ((1 <<< ((μ.1 123 (Int32.toNatClampNeg (μ.1 112 18))) &&& 31)) ≤ (x3 : Int32))) → (¬ (x2 < (0 : Int32))) → jC0 l mX12_bits 0 G [.int x3] μ (pI ψ3)) 
    (k3 : (¬ ((1 <<< ((μ.1 123 (Int32.toNatClampNeg (μ.1 112 18))) &&& 31)) ≤ (x3 : Int32))) → (¬ (x2 < (0 : Int32))) → ∀ v μ', ψ3 v μ' → J l mX12_stop (jZ0 9 G (pI φ)) G 0 0 42 [.ref 112, .int x1, .int x2, .int x3] [.int v] μ') :
    J l mX12_stop (jZ0 9 G (pI φ)) G 0 0 19 [.ref 112, .int x1, .int x2, .int x3] [] μ := by
  refine j_iload_n dX12_stop_19 rfl rfl ?_
  refine j_iconst 1 dX12_stop_20 rfl (by decide) ?_
  refine j_aload_n dX12_stop_21 rfl rfl ?_
  refine j_getR (ci := 12) (N := 80) (f := 24) (T := TX12) 123 dX12_stop_22 rfl (hG 112 (17, 80) rfl) rfl (by decide) fl_X12_49 rfl (hP 112 24 123 rfl) ?_
  refine j_aload_n dX12_stop_25 rfl rfl ?_
  refine j_getI (ci := 12) (N := 80) (f := 18) (T := TX12) dX12_stop_26 rfl (hG 112 (17, 80) rfl) rfl (by decide) fl_X12_263 rfl ?_
  refine j_iald' (j := (Int32.toNatClampNeg (μ.1 112 18))) dX12_stop_29 rfl (hG 123 (0, 2) rfl) o0 rfl ?_
  refine j_ishl dX12_stop_30 rfl ?_
  refine j_icmp_ge 75 dX12_stop_31 rfl (by decide) (fun c0 => ?_) (fun c0 => ?_)
  · skip
    refine j_iload_n dX12_stop_75 rfl rfl ?_
    refine j_if_ne 86 dX12_stop_76 rfl (by decide) (fun c1 => ?_) (fun c1 => ?_)
    · skip
      refine j_iload_n dX12_stop_86 rfl rfl ?_
      exact j_iret dX12_stop_87 rfl (k0 c0 c1)
    · skip
      refine j_iload_n dX12_stop_79 rfl rfl ?_
      refine j_cS (as := [.int x2]) (rest := []) dX12_stop_80 rfl vw_X12_454 ⟨Nat.le_of_ble_eq_true rfl, Nat.le_of_ble_eq_true rfl⟩ rfl rfl (fun _ _ => Nat.le_of_ble_eq_true rfl) (e1 c0 c1) (fun r μ' hr => ?_)
      obtain ⟨v, rfl, hr⟩ := hr
      refine j_forget (ls' := [.null, .null, .null, .null]) ⟨Or.inl rfl, Or.inl rfl, Or.inl rfl, Or.inl rfl, trivial⟩ ?_
      exact k1 c0 c1 v μ' hr
  · skip
    refine j_iload_n dX12_stop_34 rfl rfl ?_
    refine j_if_lt 52 dX12_stop_35 rfl (by decide) (fun c2 => ?_) (fun c2 => ?_)
    · skip
      refine j_aload_n dX12_stop_52 rfl rfl ?_
      refine j_getR (ci := 12) (N := 80) (f := 57) (T := TX12) 152 dX12_stop_53 rfl (hG 112 (17, 80) rfl) rfl (by decide) fl_X12_137 rfl (hP 112 57 152 rfl) ?_
      refine j_bipush 64 dX12_stop_56 rfl (by decide) ?_
      refine j_iload_n dX12_stop_58 rfl rfl ?_
      refine j_iast' (j := 64) dX12_stop_59 rfl (hG 152 (0, 68) rfl) (vpK (by decide)) (by decide) ?_
      refine j_aload_n dX12_stop_60 rfl rfl ?_
      refine j_cV (as := []) (rest := []) dX12_stop_61 rfl vw_X12_463 (hG 112 (17, 80) rfl) rfl ⟨Nat.le_of_ble_eq_true rfl, Nat.le_of_ble_eq_true rfl⟩ rfl rfl (fun _ _ => Nat.le_of_ble_eq_true rfl) (e2 c0 c2) (fun r μ' hr => ?_)
      obtain ⟨v, rfl, hr⟩ := hr
      exact k2 c0 c2 v μ' hr
    · skip
      refine j_iload_n dX12_stop_38 rfl rfl ?_
      refine j_cS (as := [.int x3]) (rest := []) dX12_stop_39 rfl vw_X12_454 ⟨Nat.le_of_ble_eq_true rfl, Nat.le_of_ble_eq_true rfl⟩ rfl rfl (fun _ _ => Nat.le_of_ble_eq_true rfl) (e3 c0 c2) (fun r μ' hr => ?_)
      obtain ⟨v, rfl, hr⟩ := hr
      exact k3 c0 c2 v μ' hr
theorem b_X12_stop_42 {l : Launch} {G : jG} {μ : jM} {φ : Int32 → jM → Prop} {x1 x2 x3 z0 : Int32} {ψ0 : Int32 → jM → Prop} (hG : gMM G) (hP : gNN μ) 
    (e0 : jC0 l mX12_bits 0 G [.int x2] μ (pI ψ0)) 
    (k0 : ∀ v μ', ψ0 v μ' → J l mX12_stop (jZ0 9 G (pI φ)) G 0 0 46 [.ref 112, .int x1, .int x2, .int x3] [.int v, .int z0] μ') :
    J l mX12_stop (jZ0 9 G (pI φ)) G 0 0 42 [.ref 112, .int x1, .int x2, .int x3] [.int z0] μ := by
  refine j_iload_n dX12_stop_42 rfl rfl ?_
  refine j_cS (as := [.int x2]) (rest := [.int z0]) dX12_stop_43 rfl vw_X12_454 ⟨Nat.le_of_ble_eq_true rfl, Nat.le_of_ble_eq_true rfl⟩ rfl rfl (fun _ _ => Nat.le_of_ble_eq_true rfl) (e0 ) (fun r μ' hr => ?_)
  obtain ⟨v, rfl, hr⟩ := hr
  exact k0  v μ' hr
theorem b_X12_stop_46 {l : Launch} {G : jG} {μ : jM} {φ : Int32 → jM → Prop} {x1 x2 x3 z0 z1 : Int32} {ψ0 : Int32 → jM → Prop} (hG : gMM G) (hP : gNN μ) 
    (e0 : (z1 < (z0 : Int32)) → jC0 l mX12_freeNow 8 G [.ref 112] (wI μ 152 64 x3) (pI ψ0)) 
    (k0 : (z1 < (z0 : Int32)) → ∀ v μ', ψ0 v μ' → J l mX12_stop (jZ0 9 G (pI φ)) G 0 0 64 [.ref 112, .int x1, .int x2, .int x3] [.int v] μ') 
    (k1 : (¬ (z1 < (z0 : Int32))) → J l mX12_stop (jZ0 9 G (pI φ)) G 0 0 19 [.ref 112, .int x1, .int x2, .int (x3 + 1)] [] μ) :
    J l mX12_stop (jZ0 9 G (pI φ)) G 0 0 46 [.ref 112, .int x1, .int x2, .int x3] [.int z0, .int z1] μ := by
  refine j_icmp_lt 52 dX12_stop_46 rfl (by decide) (fun c0 => ?_) (fun c0 => ?_)
  · skip
    refine j_aload_n dX12_stop_52 rfl rfl ?_
    refine j_getR (ci := 12) (N := 80) (f := 57) (T := TX12) 152 dX12_stop_53 rfl (hG 112 (17, 80) rfl) rfl (by decide) fl_X12_137 rfl (hP 112 57 152 rfl) ?_
    refine j_bipush 64 dX12_stop_56 rfl (by decide) ?_
    refine j_iload_n dX12_stop_58 rfl rfl ?_
    refine j_iast' (j := 64) dX12_stop_59 rfl (hG 152 (0, 68) rfl) (vpK (by decide)) (by decide) ?_
    refine j_aload_n dX12_stop_60 rfl rfl ?_
    refine j_cV (as := []) (rest := []) dX12_stop_61 rfl vw_X12_463 (hG 112 (17, 80) rfl) rfl ⟨Nat.le_of_ble_eq_true rfl, Nat.le_of_ble_eq_true rfl⟩ rfl rfl (fun _ _ => Nat.le_of_ble_eq_true rfl) (e0 c0) (fun r μ' hr => ?_)
    obtain ⟨v, rfl, hr⟩ := hr
    exact k0 c0 v μ' hr
  · skip
    refine j_goto 69 dX12_stop_49 (by decide) ?_
    refine j_iinc (x3 + 1) (ls' := [.ref 112, .int x1, .int x2, .int (x3 + 1)]) dX12_stop_69 rfl rfl rfl (Nat.le_of_ble_eq_true rfl) rfl ?_
    refine j_goto 19 dX12_stop_72 (by decide) ?_
    exact k1 c0
theorem b_X12_stop_64 {l : Launch} {G : jG} {μ : jM} {φ : Int32 → jM → Prop} {x1 x2 x3 z0 : Int32} (hG : gMM G) (hP : gNN μ) 
    (k0 : (¬ z0 = (0 : Int32)) → J l mX12_stop (jZ0 9 G (pI φ)) G 0 0 19 [.ref 112, .int x1, .int x2, .int (x3 + 1)] [] μ) 
    (k1 : (z0 = (0 : Int32)) → J l mX12_stop (jZ0 9 G (pI φ)) G 0 0 19 [.ref 112, .int x1, .int x3, .int (x3 + 1)] [] μ) :
    J l mX12_stop (jZ0 9 G (pI φ)) G 0 0 64 [.ref 112, .int x1, .int x2, .int x3] [.int z0] μ := by
  refine j_if_ne 69 dX12_stop_64 rfl (by decide) (fun c0 => ?_) (fun c0 => ?_)
  · skip
    refine j_iinc (x3 + 1) (ls' := [.ref 112, .int x1, .int x2, .int (x3 + 1)]) dX12_stop_69 rfl rfl rfl (Nat.le_of_ble_eq_true rfl) rfl ?_
    refine j_goto 19 dX12_stop_72 (by decide) ?_
    exact k0 c0
  · skip
    refine j_iload_n dX12_stop_67 rfl rfl ?_
    refine j_istore_n (ls' := [.ref 112, .int x1, .int x3, .int x3]) dX12_stop_68 rfl rfl (Nat.le_of_ble_eq_true rfl) rfl ?_
    refine j_iinc (x3 + 1) (ls' := [.ref 112, .int x1, .int x3, .int (x3 + 1)]) dX12_stop_69 rfl rfl rfl (Nat.le_of_ble_eq_true rfl) rfl ?_
    refine j_goto 19 dX12_stop_72 (by decide) ?_
    exact k1 c0
theorem b_X12_stop_83 {l : Launch} {G : jG} {μ : jM} {φ : Int32 → jM → Prop} {z0 : Int32} (hG : gMM G) (hP : gNN μ) 
    (k0 : φ z0 μ) :
    J l mX12_stop (jZ0 9 G (pI φ)) G 0 0 83 [.null, .null, .null, .null] [.int z0] μ := by
  refine j_goto 87 dX12_stop_83 (by decide) ?_
  exact j_iret dX12_stop_87 rfl (k0 )
theorem b_X12_saves_0 {l : Launch} {G : jG} {μ : jM} {φ : Int32 → jM → Prop} {x1 : Int32} {ψ0 : Int32 → jM → Prop} (hG : gMM G) (hP : gNN μ) 
    (e0 : jC0 l mX12_isGhost 1 G [.ref 112, .int x1] μ (pI ψ0)) 
    (k0 : ∀ v μ', ψ0 v μ' → J l mX12_saves (jZ0 7 G (pI φ)) G 0 0 5 [.ref 112, .int x1, .null] [.int v] μ') :
    J l mX12_saves (jZ0 7 G (pI φ)) G 0 0 0 [.ref 112, .int x1, .null] [] μ := by
  refine j_aload_n dX12_saves_0 rfl rfl ?_
  refine j_iload_n dX12_saves_1 rfl rfl ?_
  refine j_cV (as := [.int x1]) (rest := []) dX12_saves_2 rfl vw_X12_433 (hG 112 (17, 80) rfl) rfl ⟨Nat.le_of_ble_eq_true rfl, Nat.le_of_ble_eq_true rfl⟩ rfl rfl (fun _ _ => Nat.le_of_ble_eq_true rfl) (e0 ) (fun r μ' hr => ?_)
  obtain ⟨v, rfl, hr⟩ := hr
  exact k0  v μ' hr
theorem b_X12_saves_5 {l : Launch} {G : jG} {μ : jM} {φ : Int32 → jM → Prop} {x1 z0 : Int32} {ψ0 : jM → Prop} (hG : gMM G) (hP : gNN μ) 
    (e0 : (¬ z0 = (0 : Int32)) → jC0 l mX12_copies 1 G [.ref 112] μ (pV ψ0)) 
    (k0 : (¬ z0 = (0 : Int32)) → ∀ μ', ψ0 μ' → J l mX12_saves (jZ0 7 G (pI φ)) G 0 0 14 [.ref 112, .int x1, .null] [] μ') 
    (k1 : (z0 = (0 : Int32)) → φ (-1) μ) :
    J l mX12_saves (jZ0 7 G (pI φ)) G 0 0 5 [.ref 112, .int x1, .null] [.int z0] μ := by
  refine j_if_ne 10 dX12_saves_5 rfl (by decide) (fun c0 => ?_) (fun c0 => ?_)
  · skip
    refine j_aload_n dX12_saves_10 rfl rfl ?_
    refine j_cV (as := []) (rest := []) dX12_saves_11 rfl vw_X12_430 (hG 112 (17, 80) rfl) rfl ⟨Nat.le_of_ble_eq_true rfl, Nat.le_of_ble_eq_true rfl⟩ rfl rfl (fun _ _ => Nat.le_of_ble_eq_true rfl) (e0 c0) (fun r μ' hr => ?_)
    obtain ⟨rfl, hr⟩ := hr
    exact k0 c0 μ' hr
  · skip
    refine j_iconst (-1) dX12_saves_8 rfl (by decide) ?_
    exact j_iret dX12_saves_9 rfl (k1 c0)
theorem b_X12_saves_14 {l : Launch} {G : jG} {μ : jM} {φ : Int32 → jM → Prop} {x1 : Int32} {ψ0 : Int32 → jM → Prop} (hG : gMM G) (hP : gNN μ) 
    (e0 : jC0 l mX12_findsWay 6 G [.ref 112, .int x1] μ (pI ψ0)) 
    (k0 : ∀ v μ', ψ0 v μ' → J l mX12_saves (jZ0 7 G (pI φ)) G 0 0 19 [.ref 112, .int x1, .null] [.int v] μ') :
    J l mX12_saves (jZ0 7 G (pI φ)) G 0 0 14 [.ref 112, .int x1, .null] [] μ := by
  refine j_aload_n dX12_saves_14 rfl rfl ?_
  refine j_iload_n dX12_saves_15 rfl rfl ?_
  refine j_cV (as := [.int x1]) (rest := []) dX12_saves_16 rfl vw_X12_418 (hG 112 (17, 80) rfl) rfl ⟨Nat.le_of_ble_eq_true rfl, Nat.le_of_ble_eq_true rfl⟩ rfl rfl (fun _ _ => Nat.le_of_ble_eq_true rfl) (e0 ) (fun r μ' hr => ?_)
  obtain ⟨v, rfl, hr⟩ := hr
  exact k0  v μ' hr
theorem b_X12_saves_19 {l : Launch} {G : jG} {μ : jM} {φ : Int32 → jM → Prop} {x1 z0 : Int32} {ψ0 : Int32 → jM → Prop} (hG : gMM G) (hP : gNN μ) 
    (o0 : (¬ z0 = (0 : Int32)) → vp_in ((7 * (μ.1 112 18)) + x1) 14) 
    (o1 : (¬ z0 = (0 : Int32)) → vp_in (μ.1 130 (Int32.toNatClampNeg ((7 * (μ.1 112 18)) + x1))) 8) 
    (e0 : (¬ z0 = (0 : Int32)) → jC0 l mX12_findsWay 6 G [.ref 112, .int x1] (wI μ 152 64 0) (pI ψ0)) 
    (k0 : (¬ z0 = (0 : Int32)) → ∀ v μ', ψ0 v μ' → J l mX12_saves (jZ0 7 G (pI φ)) G 0 0 58 [.ref 112, .int x1, .int (μ.1 153 (Int32.toNatClampNeg (μ.1 130 (Int32.toNatClampNeg ((7 * (μ.1 112 18)) + x1)))))] [.int v] μ') 
    (k1 : (z0 = (0 : Int32)) → φ (-2) μ) :
    J l mX12_saves (jZ0 7 G (pI φ)) G 0 0 19 [.ref 112, .int x1, .null] [.int z0] μ := by
  refine j_if_ne 25 dX12_saves_19 rfl (by decide) (fun c0 => ?_) (fun c0 => ?_)
  · skip
    refine j_aload_n dX12_saves_25 rfl rfl ?_
    refine j_getR (ci := 12) (N := 80) (f := 61) (T := TX12) 153 dX12_saves_26 rfl (hG 112 (17, 80) rfl) rfl (by decide) fl_X12_140 rfl (hP 112 61 153 rfl) ?_
    refine j_aload_n dX12_saves_29 rfl rfl ?_
    refine j_getR (ci := 12) (N := 80) (f := 31) (T := TX12) 130 dX12_saves_30 rfl (hG 112 (17, 80) rfl) rfl (by decide) fl_X12_71 rfl (hP 112 31 130 rfl) ?_
    refine j_bipush 7 dX12_saves_33 rfl (by decide) ?_
    refine j_aload_n dX12_saves_35 rfl rfl ?_
    refine j_getI (ci := 12) (N := 80) (f := 18) (T := TX12) dX12_saves_36 rfl (hG 112 (17, 80) rfl) rfl (by decide) fl_X12_263 rfl ?_
    refine j_imul dX12_saves_39 rfl ?_
    refine j_iload_n dX12_saves_40 rfl rfl ?_
    refine j_iadd dX12_saves_41 rfl ?_
    refine j_iald' (j := (Int32.toNatClampNeg ((7 * (μ.1 112 18)) + x1))) dX12_saves_42 rfl (hG 130 (0, 14) rfl) (o0 c0) rfl ?_
    refine j_iald' (j := (Int32.toNatClampNeg (μ.1 130 (Int32.toNatClampNeg ((7 * (μ.1 112 18)) + x1))))) dX12_saves_43 rfl (hG 153 (0, 8) rfl) (o1 c0) rfl ?_
    refine j_istore_n (ls' := [.ref 112, .int x1, .int (μ.1 153 (Int32.toNatClampNeg (μ.1 130 (Int32.toNatClampNeg ((7 * (μ.1 112 18)) + x1)))))]) dX12_saves_44 rfl rfl (Nat.le_of_ble_eq_true rfl) rfl ?_
    refine j_aload_n dX12_saves_45 rfl rfl ?_
    refine j_getR (ci := 12) (N := 80) (f := 57) (T := TX12) 152 dX12_saves_46 rfl (hG 112 (17, 80) rfl) rfl (by decide) fl_X12_137 rfl (hP 112 57 152 rfl) ?_
    refine j_bipush 64 dX12_saves_49 rfl (by decide) ?_
    refine j_iconst 0 dX12_saves_51 rfl (by decide) ?_
    refine j_iast' (j := 64) dX12_saves_52 rfl (hG 152 (0, 68) rfl) (vpK (by decide)) (by decide) ?_
    refine j_aload_n dX12_saves_53 rfl rfl ?_
    refine j_iload_n dX12_saves_54 rfl rfl ?_
    refine j_cV (as := [.int x1]) (rest := []) dX12_saves_55 rfl vw_X12_418 (hG 112 (17, 80) rfl) rfl ⟨Nat.le_of_ble_eq_true rfl, Nat.le_of_ble_eq_true rfl⟩ rfl rfl (fun _ _ => Nat.le_of_ble_eq_true rfl) (e0 c0) (fun r μ' hr => ?_)
    obtain ⟨v, rfl, hr⟩ := hr
    exact k0 c0 v μ' hr
  · skip
    refine j_bipush (-2) dX12_saves_22 rfl (by decide) ?_
    exact j_iret dX12_saves_24 rfl (k1 c0)
theorem b_X12_saves_58 {l : Launch} {G : jG} {μ : jM} {φ : Int32 → jM → Prop} {x1 x2 z0 : Int32} (hG : gMM G) (hP : gNN μ) 
    (o0 : vp_in ((7 * (μ.1 112 18)) + x1) 14) 
    (o1 : vp_in (μ.1 130 (Int32.toNatClampNeg ((7 * (μ.1 112 18)) + x1))) 8) 
    (k0 : φ (x2 - (μ.1 153 (Int32.toNatClampNeg (μ.1 130 (Int32.toNatClampNeg ((7 * (μ.1 112 18)) + x1)))))) μ) :
    J l mX12_saves (jZ0 7 G (pI φ)) G 0 0 58 [.ref 112, .int x1, .int x2] [.int z0] μ := by
  refine j_pop dX12_saves_58 rfl (fun _ _ => rfl) ?_
  refine j_iload_n dX12_saves_59 rfl rfl ?_
  refine j_aload_n dX12_saves_60 rfl rfl ?_
  refine j_getR (ci := 12) (N := 80) (f := 61) (T := TX12) 153 dX12_saves_61 rfl (hG 112 (17, 80) rfl) rfl (by decide) fl_X12_140 rfl (hP 112 61 153 rfl) ?_
  refine j_aload_n dX12_saves_64 rfl rfl ?_
  refine j_getR (ci := 12) (N := 80) (f := 31) (T := TX12) 130 dX12_saves_65 rfl (hG 112 (17, 80) rfl) rfl (by decide) fl_X12_71 rfl (hP 112 31 130 rfl) ?_
  refine j_bipush 7 dX12_saves_68 rfl (by decide) ?_
  refine j_aload_n dX12_saves_70 rfl rfl ?_
  refine j_getI (ci := 12) (N := 80) (f := 18) (T := TX12) dX12_saves_71 rfl (hG 112 (17, 80) rfl) rfl (by decide) fl_X12_263 rfl ?_
  refine j_imul dX12_saves_74 rfl ?_
  refine j_iload_n dX12_saves_75 rfl rfl ?_
  refine j_iadd dX12_saves_76 rfl ?_
  refine j_iald' (j := (Int32.toNatClampNeg ((7 * (μ.1 112 18)) + x1))) dX12_saves_77 rfl (hG 130 (0, 14) rfl) o0 rfl ?_
  refine j_iald' (j := (Int32.toNatClampNeg (μ.1 130 (Int32.toNatClampNeg ((7 * (μ.1 112 18)) + x1))))) dX12_saves_78 rfl (hG 153 (0, 8) rfl) o1 rfl ?_
  refine j_isub dX12_saves_79 rfl ?_
  exact j_iret dX12_saves_80 rfl (k0 )
theorem b_X12_isLong_0 {l : Launch} {G : jG} {μ : jM} {φ : Int32 → jM → Prop} {x0 : Int32} {ψ0 : Int32 → jM → Prop} (hG : gMM G) (hP : gNN μ) 
    (e0 : jC0 l mX12_in 0 G [.int x0, .int 0, .int 60] μ (pI ψ0)) 
    (k0 : ∀ v μ', ψ0 v μ' → J l mX12_isLong (jZ0 1 G (pI φ)) G 0 0 7 [.null] [.int v] μ') :
    J l mX12_isLong (jZ0 1 G (pI φ)) G 0 0 0 [.int x0] [] μ := by
  refine j_iload_n dX12_isLong_0 rfl rfl ?_
  refine j_iconst 0 dX12_isLong_1 rfl (by decide) ?_
  refine j_bipush 60 dX12_isLong_2 rfl (by decide) ?_
  refine j_cS (as := [.int x0, .int 0, .int 60]) (rest := []) dX12_isLong_4 rfl vw_X12_349 ⟨Nat.le_of_ble_eq_true rfl, Nat.le_of_ble_eq_true rfl⟩ rfl rfl (fun _ _ => Nat.le_of_ble_eq_true rfl) (e0 ) (fun r μ' hr => ?_)
  obtain ⟨v, rfl, hr⟩ := hr
  refine j_forget (ls' := [.null]) ⟨Or.inl rfl, trivial⟩ ?_
  exact k0  v μ' hr
theorem b_X12_isLong_7 {l : Launch} {G : jG} {μ : jM} {φ : Int32 → jM → Prop} {z0 : Int32} (hG : gMM G) (hP : gNN μ) 
    (k0 : φ z0 μ) 
    (o0 : z0 = (0 : Int32) ∨ z0 = (1 : Int32)) :
    J l mX12_isLong (jZ0 1 G (pI φ)) G 0 0 7 [.null] [.int z0] μ := by
  exact j_zret dX12_isLong_7 rfl o0 (k0 )
theorem b_X12_pays_0 {l : Launch} {G : jG} {μ : jM} {φ : Int32 → jM → Prop} {x1 x2 : Int32} {ψ0 : Int32 → jM → Prop} (hG : gMM G) (hP : gNN μ) 
    (e0 : jC0 l mX12_isGhost 1 G [.ref 112, .int x1] μ (pI ψ0)) 
    (k0 : ∀ v μ', ψ0 v μ' → J l mX12_pays (jZ0 9 G (pI φ)) G 0 0 5 [.ref 112, .int x1, .int x2] [.int v] μ') :
    J l mX12_pays (jZ0 9 G (pI φ)) G 0 0 0 [.ref 112, .int x1, .int x2] [] μ := by
  refine j_aload_n dX12_pays_0 rfl rfl ?_
  refine j_iload_n dX12_pays_1 rfl rfl ?_
  refine j_cV (as := [.int x1]) (rest := []) dX12_pays_2 rfl vw_X12_433 (hG 112 (17, 80) rfl) rfl ⟨Nat.le_of_ble_eq_true rfl, Nat.le_of_ble_eq_true rfl⟩ rfl rfl (fun _ _ => Nat.le_of_ble_eq_true rfl) (e0 ) (fun r μ' hr => ?_)
  obtain ⟨v, rfl, hr⟩ := hr
  exact k0  v μ' hr
theorem b_X12_pays_5 {l : Launch} {G : jG} {μ : jM} {φ : Int32 → jM → Prop} {x1 x2 z0 : Int32} {ψ1 : Int32 → jM → Prop} (hG : gMM G) (hP : gNN μ) 
    (k0 : (z0 = (0 : Int32)) → φ (-1) μ) 
    (e1 : (¬ (z0 = (0 : Int32))) → jC0 l mX12_isLong 1 G [.int x2] μ (pI ψ1)) 
    (k1 : (¬ (z0 = (0 : Int32))) → ∀ v μ', ψ1 v μ' → J l mX12_pays (jZ0 9 G (pI φ)) G 0 0 12 [.ref 112, .int x1, .int x2] [.int v] μ') :
    J l mX12_pays (jZ0 9 G (pI φ)) G 0 0 5 [.ref 112, .int x1, .int x2] [.int z0] μ := by
  refine j_if_eq 15 dX12_pays_5 rfl (by decide) (fun c0 => ?_) (fun c0 => ?_)
  · skip
    refine j_iconst (-1) dX12_pays_15 rfl (by decide) ?_
    exact j_iret dX12_pays_16 rfl (k0 c0)
  · skip
    refine j_iload_n dX12_pays_8 rfl rfl ?_
    refine j_cS (as := [.int x2]) (rest := []) dX12_pays_9 rfl vw_X12_466 ⟨Nat.le_of_ble_eq_true rfl, Nat.le_of_ble_eq_true rfl⟩ rfl rfl (fun _ _ => Nat.le_of_ble_eq_true rfl) (e1 c0) (fun r μ' hr => ?_)
    obtain ⟨v, rfl, hr⟩ := hr
    exact k1 c0 v μ' hr
theorem b_X12_pays_12 {l : Launch} {G : jG} {μ : jM} {φ : Int32 → jM → Prop} {x1 x2 z0 : Int32} {ψ0 : jM → Prop} (hG : gMM G) (hP : gNN μ) 
    (e0 : (¬ z0 = (0 : Int32)) → jC0 l mX12_copies 1 G [.ref 112] μ (pV ψ0)) 
    (k0 : (¬ z0 = (0 : Int32)) → ∀ μ', ψ0 μ' → J l mX12_pays (jZ0 9 G (pI φ)) G 0 0 21 [.ref 112, .int x1, .int x2] [] μ') 
    (k1 : (z0 = (0 : Int32)) → φ (-1) μ) :
    J l mX12_pays (jZ0 9 G (pI φ)) G 0 0 12 [.ref 112, .int x1, .int x2] [.int z0] μ := by
  refine j_if_ne 17 dX12_pays_12 rfl (by decide) (fun c0 => ?_) (fun c0 => ?_)
  · skip
    refine j_aload_n dX12_pays_17 rfl rfl ?_
    refine j_cV (as := []) (rest := []) dX12_pays_18 rfl vw_X12_430 (hG 112 (17, 80) rfl) rfl ⟨Nat.le_of_ble_eq_true rfl, Nat.le_of_ble_eq_true rfl⟩ rfl rfl (fun _ _ => Nat.le_of_ble_eq_true rfl) (e0 c0) (fun r μ' hr => ?_)
    obtain ⟨rfl, hr⟩ := hr
    exact k0 c0 μ' hr
  · skip
    refine j_iconst (-1) dX12_pays_15 rfl (by decide) ?_
    exact j_iret dX12_pays_16 rfl (k1 c0)
theorem b_X12_pays_21 {l : Launch} {G : jG} {μ : jM} {φ : Int32 → jM → Prop} {x1 x2 : Int32} {ψ0 : jM → Prop} (hG : gMM G) (hP : gNN μ) 
    (e0 : jC0 l mX12_goes 8 G [.ref 112, .int x2] μ (pV ψ0)) 
    (k0 : ∀ μ', ψ0 μ' → J l mX12_pays (jZ0 9 G (pI φ)) G 0 0 26 [.ref 112, .int x1, .null] [] μ') :
    J l mX12_pays (jZ0 9 G (pI φ)) G 0 0 21 [.ref 112, .int x1, .int x2] [] μ := by
  refine j_aload_n dX12_pays_21 rfl rfl ?_
  refine j_iload_n dX12_pays_22 rfl rfl ?_
  refine j_cV (as := [.int x2]) (rest := []) dX12_pays_23 rfl vw_X12_442 (hG 112 (17, 80) rfl) rfl ⟨Nat.le_of_ble_eq_true rfl, Nat.le_of_ble_eq_true rfl⟩ rfl rfl (fun _ _ => Nat.le_of_ble_eq_true rfl) (e0 ) (fun r μ' hr => ?_)
  obtain ⟨rfl, hr⟩ := hr
  refine j_forget (ls' := [.ref 112, .int x1, .null]) ⟨Or.inr rfl, Or.inr rfl, Or.inl rfl, trivial⟩ ?_
  exact k0  μ' hr
theorem b_X12_pays_26 {l : Launch} {G : jG} {μ : jM} {φ : Int32 → jM → Prop} {x1 : Int32} (hG : gMM G) (hP : gNN μ) 
    (o0 : vp_in (36 + x1) 68) 
    (k0 : φ ((μ.1 152 (Int32.toNatClampNeg (36 + x1))) - (μ.1 151 (Int32.toNatClampNeg (36 + x1)))) μ) :
    J l mX12_pays (jZ0 9 G (pI φ)) G 0 0 26 [.ref 112, .int x1, .null] [] μ := by
  refine j_aload_n dX12_pays_26 rfl rfl ?_
  refine j_getR (ci := 12) (N := 80) (f := 57) (T := TX12) 152 dX12_pays_27 rfl (hG 112 (17, 80) rfl) rfl (by decide) fl_X12_137 rfl (hP 112 57 152 rfl) ?_
  refine j_bipush 36 dX12_pays_30 rfl (by decide) ?_
  refine j_iload_n dX12_pays_32 rfl rfl ?_
  refine j_iadd dX12_pays_33 rfl ?_
  refine j_iald' (j := (Int32.toNatClampNeg (36 + x1))) dX12_pays_34 rfl (hG 152 (0, 68) rfl) o0 rfl ?_
  refine j_aload_n dX12_pays_35 rfl rfl ?_
  refine j_getR (ci := 12) (N := 80) (f := 56) (T := TX12) 151 dX12_pays_36 rfl (hG 112 (17, 80) rfl) rfl (by decide) fl_X12_134 rfl (hP 112 56 151 rfl) ?_
  refine j_bipush 36 dX12_pays_39 rfl (by decide) ?_
  refine j_iload_n dX12_pays_41 rfl rfl ?_
  refine j_iadd dX12_pays_42 rfl ?_
  refine j_iald' (j := (Int32.toNatClampNeg (36 + x1))) dX12_pays_43 rfl (hG 151 (0, 68) rfl) o0 rfl ?_
  refine j_isub dX12_pays_44 rfl ?_
  exact j_iret dX12_pays_45 rfl (k0 )
theorem b_X12_seen_0 {l : Launch} {G : jG} {μ : jM} {φ : Int32 → jM → Prop} {x1 x2 : Int32} {ψ0 : Int32 → jM → Prop} (hG : gMM G) (hP : gNN μ) 
    (e0 : jC0 l mX12_isRoad 1 G [.ref 112, .int x1] μ (pI ψ0)) 
    (k0 : ∀ v μ', ψ0 v μ' → J l mX12_seen (jZ0 9 G (pI φ)) G 0 0 5 [.ref 112, .int x1, .int x2] [.int v] μ') :
    J l mX12_seen (jZ0 9 G (pI φ)) G 0 0 0 [.ref 112, .int x1, .int x2] [] μ := by
  refine j_aload_n dX12_seen_0 rfl rfl ?_
  refine j_iload_n dX12_seen_1 rfl rfl ?_
  refine j_cV (as := [.int x1]) (rest := []) dX12_seen_2 rfl vw_X12_427 (hG 112 (17, 80) rfl) rfl ⟨Nat.le_of_ble_eq_true rfl, Nat.le_of_ble_eq_true rfl⟩ rfl rfl (fun _ _ => Nat.le_of_ble_eq_true rfl) (e0 ) (fun r μ' hr => ?_)
  obtain ⟨v, rfl, hr⟩ := hr
  exact k0  v μ' hr
theorem b_X12_seen_5 {l : Launch} {G : jG} {μ : jM} {φ : Int32 → jM → Prop} {x1 x2 z0 : Int32} {ψ1 : Int32 → jM → Prop} (hG : gMM G) (hP : gNN μ) 
    (k0 : (z0 = (0 : Int32)) → φ (-1) μ) 
    (e1 : (¬ (z0 = (0 : Int32))) → jC0 l mX12_isLong 1 G [.int x2] μ (pI ψ1)) 
    (k1 : (¬ (z0 = (0 : Int32))) → ∀ v μ', ψ1 v μ' → J l mX12_seen (jZ0 9 G (pI φ)) G 0 0 12 [.ref 112, .int x1, .int x2] [.int v] μ') :
    J l mX12_seen (jZ0 9 G (pI φ)) G 0 0 5 [.ref 112, .int x1, .int x2] [.int z0] μ := by
  refine j_if_eq 15 dX12_seen_5 rfl (by decide) (fun c0 => ?_) (fun c0 => ?_)
  · skip
    refine j_iconst (-1) dX12_seen_15 rfl (by decide) ?_
    exact j_iret dX12_seen_16 rfl (k0 c0)
  · skip
    refine j_iload_n dX12_seen_8 rfl rfl ?_
    refine j_cS (as := [.int x2]) (rest := []) dX12_seen_9 rfl vw_X12_466 ⟨Nat.le_of_ble_eq_true rfl, Nat.le_of_ble_eq_true rfl⟩ rfl rfl (fun _ _ => Nat.le_of_ble_eq_true rfl) (e1 c0) (fun r μ' hr => ?_)
    obtain ⟨v, rfl, hr⟩ := hr
    exact k1 c0 v μ' hr
theorem b_X12_seen_12 {l : Launch} {G : jG} {μ : jM} {φ : Int32 → jM → Prop} {x1 x2 z0 : Int32} {ψ0 : jM → Prop} (hG : gMM G) (hP : gNN μ) 
    (e0 : (¬ z0 = (0 : Int32)) → jC0 l mX12_copies 1 G [.ref 112] μ (pV ψ0)) 
    (k0 : (¬ z0 = (0 : Int32)) → ∀ μ', ψ0 μ' → J l mX12_seen (jZ0 9 G (pI φ)) G 0 0 21 [.ref 112, .int x1, .int x2] [] μ') 
    (k1 : (z0 = (0 : Int32)) → φ (-1) μ) :
    J l mX12_seen (jZ0 9 G (pI φ)) G 0 0 12 [.ref 112, .int x1, .int x2] [.int z0] μ := by
  refine j_if_ne 17 dX12_seen_12 rfl (by decide) (fun c0 => ?_) (fun c0 => ?_)
  · skip
    refine j_aload_n dX12_seen_17 rfl rfl ?_
    refine j_cV (as := []) (rest := []) dX12_seen_18 rfl vw_X12_430 (hG 112 (17, 80) rfl) rfl ⟨Nat.le_of_ble_eq_true rfl, Nat.le_of_ble_eq_true rfl⟩ rfl rfl (fun _ _ => Nat.le_of_ble_eq_true rfl) (e0 c0) (fun r μ' hr => ?_)
    obtain ⟨rfl, hr⟩ := hr
    exact k0 c0 μ' hr
  · skip
    refine j_iconst (-1) dX12_seen_15 rfl (by decide) ?_
    exact j_iret dX12_seen_16 rfl (k1 c0)
theorem b_X12_seen_21 {l : Launch} {G : jG} {μ : jM} {φ : Int32 → jM → Prop} {x1 x2 : Int32} {ψ0 : jM → Prop} (hG : gMM G) (hP : gNN μ) 
    (e0 : jC0 l mX12_goes 8 G [.ref 112, .int x2] μ (pV ψ0)) 
    (k0 : ∀ μ', ψ0 μ' → J l mX12_seen (jZ0 9 G (pI φ)) G 0 0 26 [.ref 112, .int x1, .null] [] μ') :
    J l mX12_seen (jZ0 9 G (pI φ)) G 0 0 21 [.ref 112, .int x1, .int x2] [] μ := by
  refine j_aload_n dX12_seen_21 rfl rfl ?_
  refine j_iload_n dX12_seen_22 rfl rfl ?_
  refine j_cV (as := [.int x2]) (rest := []) dX12_seen_23 rfl vw_X12_442 (hG 112 (17, 80) rfl) rfl ⟨Nat.le_of_ble_eq_true rfl, Nat.le_of_ble_eq_true rfl⟩ rfl rfl (fun _ _ => Nat.le_of_ble_eq_true rfl) (e0 ) (fun r μ' hr => ?_)
  obtain ⟨rfl, hr⟩ := hr
  refine j_forget (ls' := [.ref 112, .int x1, .null]) ⟨Or.inr rfl, Or.inr rfl, Or.inl rfl, trivial⟩ ?_
  exact k0  μ' hr
theorem b_X12_seen_26 {l : Launch} {G : jG} {μ : jM} {φ : Int32 → jM → Prop} {x1 : Int32} (hG : gMM G) (hP : gNN μ) 
    (o0 : vp_in (12 + x1) 68) 
    (k0 : φ ((μ.1 152 (Int32.toNatClampNeg (12 + x1))) - (μ.1 151 (Int32.toNatClampNeg (12 + x1)))) μ) :
    J l mX12_seen (jZ0 9 G (pI φ)) G 0 0 26 [.ref 112, .int x1, .null] [] μ := by
  refine j_aload_n dX12_seen_26 rfl rfl ?_
  refine j_getR (ci := 12) (N := 80) (f := 57) (T := TX12) 152 dX12_seen_27 rfl (hG 112 (17, 80) rfl) rfl (by decide) fl_X12_137 rfl (hP 112 57 152 rfl) ?_
  refine j_bipush 12 dX12_seen_30 rfl (by decide) ?_
  refine j_iload_n dX12_seen_32 rfl rfl ?_
  refine j_iadd dX12_seen_33 rfl ?_
  refine j_iald' (j := (Int32.toNatClampNeg (12 + x1))) dX12_seen_34 rfl (hG 152 (0, 68) rfl) o0 rfl ?_
  refine j_aload_n dX12_seen_35 rfl rfl ?_
  refine j_getR (ci := 12) (N := 80) (f := 56) (T := TX12) 151 dX12_seen_36 rfl (hG 112 (17, 80) rfl) rfl (by decide) fl_X12_134 rfl (hP 112 56 151 rfl) ?_
  refine j_bipush 12 dX12_seen_39 rfl (by decide) ?_
  refine j_iload_n dX12_seen_41 rfl rfl ?_
  refine j_iadd dX12_seen_42 rfl ?_
  refine j_iald' (j := (Int32.toNatClampNeg (12 + x1))) dX12_seen_43 rfl (hG 151 (0, 68) rfl) o0 rfl ?_
  refine j_isub dX12_seen_44 rfl ?_
  exact j_iret dX12_seen_45 rfl (k0 )
theorem b_X12_busiest_0 {l : Launch} {G : jG} {μ : jM} {φ : Int32 → jM → Prop} {x1 x2 : Int32} {ψ0 : Int32 → jM → Prop} (hG : gMM G) (hP : gNN μ) 
    (e0 : jC0 l mX12_isLong 1 G [.int x1] μ (pI ψ0)) 
    (k0 : ∀ v μ', ψ0 v μ' → J l mX12_busiest (jZ0 9 G (pI φ)) G 0 0 4 [.ref 112, .int x1, .int x2, .null, .null] [.int v] μ') :
    J l mX12_busiest (jZ0 9 G (pI φ)) G 0 0 0 [.ref 112, .int x1, .int x2, .null, .null] [] μ := by
  refine j_iload_n dX12_busiest_0 rfl rfl ?_
  refine j_cS (as := [.int x1]) (rest := []) dX12_busiest_1 rfl vw_X12_466 ⟨Nat.le_of_ble_eq_true rfl, Nat.le_of_ble_eq_true rfl⟩ rfl rfl (fun _ _ => Nat.le_of_ble_eq_true rfl) (e0 ) (fun r μ' hr => ?_)
  obtain ⟨v, rfl, hr⟩ := hr
  exact k0  v μ' hr
theorem b_X12_busiest_4 {l : Launch} {G : jG} {μ : jM} {φ : Int32 → jM → Prop} {x1 x2 z0 : Int32} {ψ1 : Int32 → jM → Prop} (hG : gMM G) (hP : gNN μ) 
    (k0 : (z0 = (0 : Int32)) → φ (-1) μ) 
    (e1 : (¬ (z0 = (0 : Int32))) → jC0 l mX12_in 0 G [.int x2, .int 0, .int 1] μ (pI ψ1)) 
    (k1 : (¬ (z0 = (0 : Int32))) → ∀ v μ', ψ1 v μ' → J l mX12_busiest (jZ0 9 G (pI φ)) G 0 0 13 [.ref 112, .int x1, .int x2, .null, .null] [.int v] μ') :
    J l mX12_busiest (jZ0 9 G (pI φ)) G 0 0 4 [.ref 112, .int x1, .int x2, .null, .null] [.int z0] μ := by
  refine j_if_eq 16 dX12_busiest_4 rfl (by decide) (fun c0 => ?_) (fun c0 => ?_)
  · skip
    refine j_iconst (-1) dX12_busiest_16 rfl (by decide) ?_
    exact j_iret dX12_busiest_17 rfl (k0 c0)
  · skip
    refine j_iload_n dX12_busiest_7 rfl rfl ?_
    refine j_iconst 0 dX12_busiest_8 rfl (by decide) ?_
    refine j_iconst 1 dX12_busiest_9 rfl (by decide) ?_
    refine j_cS (as := [.int x2, .int 0, .int 1]) (rest := []) dX12_busiest_10 rfl vw_X12_349 ⟨Nat.le_of_ble_eq_true rfl, Nat.le_of_ble_eq_true rfl⟩ rfl rfl (fun _ _ => Nat.le_of_ble_eq_true rfl) (e1 c0) (fun r μ' hr => ?_)
    obtain ⟨v, rfl, hr⟩ := hr
    exact k1 c0 v μ' hr
theorem b_X12_busiest_13 {l : Launch} {G : jG} {μ : jM} {φ : Int32 → jM → Prop} {x1 x2 z0 : Int32} {ψ0 : jM → Prop} (hG : gMM G) (hP : gNN μ) 
    (o0 : (¬ z0 = (0 : Int32)) → vp_in (μ.1 112 18) 2) 
    (e0 : (¬ z0 = (0 : Int32)) → (¬ (μ.1 123 (Int32.toNatClampNeg (μ.1 112 18))) = (0 : Int32)) → jC0 l mX12_copies 1 G [.ref 112] μ (pV ψ0)) 
    (k0 : (¬ z0 = (0 : Int32)) → (¬ (μ.1 123 (Int32.toNatClampNeg (μ.1 112 18))) = (0 : Int32)) → ∀ μ', ψ0 μ' → J l mX12_busiest (jZ0 9 G (pI φ)) G 0 0 37 [.ref 112, .int x1, .int x2, .null, .null] [] μ') 
    (k1 : (¬ z0 = (0 : Int32)) → ((μ.1 123 (Int32.toNatClampNeg (μ.1 112 18))) = (0 : Int32)) → φ (-2) μ) 
    (k2 : (z0 = (0 : Int32)) → φ (-1) μ) :
    J l mX12_busiest (jZ0 9 G (pI φ)) G 0 0 13 [.ref 112, .int x1, .int x2, .null, .null] [.int z0] μ := by
  refine j_if_ne 18 dX12_busiest_13 rfl (by decide) (fun c0 => ?_) (fun c0 => ?_)
  · skip
    refine j_aload_n dX12_busiest_18 rfl rfl ?_
    refine j_getR (ci := 12) (N := 80) (f := 24) (T := TX12) 123 dX12_busiest_19 rfl (hG 112 (17, 80) rfl) rfl (by decide) fl_X12_49 rfl (hP 112 24 123 rfl) ?_
    refine j_aload_n dX12_busiest_22 rfl rfl ?_
    refine j_getI (ci := 12) (N := 80) (f := 18) (T := TX12) dX12_busiest_23 rfl (hG 112 (17, 80) rfl) rfl (by decide) fl_X12_263 rfl ?_
    refine j_iald' (j := (Int32.toNatClampNeg (μ.1 112 18))) dX12_busiest_26 rfl (hG 123 (0, 2) rfl) (o0 c0) rfl ?_
    refine j_if_ne 33 dX12_busiest_27 rfl (by decide) (fun c1 => ?_) (fun c1 => ?_)
    · skip
      refine j_aload_n dX12_busiest_33 rfl rfl ?_
      refine j_cV (as := []) (rest := []) dX12_busiest_34 rfl vw_X12_430 (hG 112 (17, 80) rfl) rfl ⟨Nat.le_of_ble_eq_true rfl, Nat.le_of_ble_eq_true rfl⟩ rfl rfl (fun _ _ => Nat.le_of_ble_eq_true rfl) (e0 c0 c1) (fun r μ' hr => ?_)
      obtain ⟨rfl, hr⟩ := hr
      exact k0 c0 c1 μ' hr
    · skip
      refine j_bipush (-2) dX12_busiest_30 rfl (by decide) ?_
      exact j_iret dX12_busiest_32 rfl (k1 c0 c1)
  · skip
    refine j_iconst (-1) dX12_busiest_16 rfl (by decide) ?_
    exact j_iret dX12_busiest_17 rfl (k2 c0)
theorem b_X12_busiest_37 {l : Launch} {G : jG} {μ : jM} {φ : Int32 → jM → Prop} {x1 x2 : Int32} {ψ0 : jM → Prop} (hG : gMM G) (hP : gNN μ) 
    (e0 : jC0 l mX12_goes 8 G [.ref 112, .int x1] μ (pV ψ0)) 
    (k0 : ∀ μ', ψ0 μ' → J l mX12_busiest (jZ0 9 G (pI φ)) G 0 0 42 [.ref 112, .null, .int x2, .null, .null] [] μ') :
    J l mX12_busiest (jZ0 9 G (pI φ)) G 0 0 37 [.ref 112, .int x1, .int x2, .null, .null] [] μ := by
  refine j_aload_n dX12_busiest_37 rfl rfl ?_
  refine j_iload_n dX12_busiest_38 rfl rfl ?_
  refine j_cV (as := [.int x1]) (rest := []) dX12_busiest_39 rfl vw_X12_442 (hG 112 (17, 80) rfl) rfl ⟨Nat.le_of_ble_eq_true rfl, Nat.le_of_ble_eq_true rfl⟩ rfl rfl (fun _ _ => Nat.le_of_ble_eq_true rfl) (e0 ) (fun r μ' hr => ?_)
  obtain ⟨rfl, hr⟩ := hr
  refine j_forget (ls' := [.ref 112, .null, .int x2, .null, .null]) ⟨Or.inr rfl, Or.inl rfl, Or.inr rfl, Or.inr rfl, Or.inr rfl, trivial⟩ ?_
  exact k0  μ' hr
theorem b_X12_busiest_42 {l : Launch} {G : jG} {μ : jM} {φ : Int32 → jM → Prop} {x2 : Int32} (hG : gMM G) (hP : gNN μ) 
    (k0 : J l mX12_busiest (jZ0 9 G (pI φ)) G 0 0 47 [.ref 112, .null, .int x2, .int 0, .int 1] [] μ) :
    J l mX12_busiest (jZ0 9 G (pI φ)) G 0 0 42 [.ref 112, .null, .int x2, .null, .null] [] μ := by
  refine j_iconst 0 dX12_busiest_42 rfl (by decide) ?_
  refine j_istore_n (ls' := [.ref 112, .null, .int x2, .int 0, .null]) dX12_busiest_43 rfl rfl (Nat.le_of_ble_eq_true rfl) rfl ?_
  refine j_iconst 1 dX12_busiest_44 rfl (by decide) ?_
  refine j_istore (ls' := [.ref 112, .null, .int x2, .int 0, .int 1]) dX12_busiest_45 rfl (Nat.le_of_ble_eq_true rfl) rfl ?_
  exact k0 
theorem b_X12_busiest_47 {l : Launch} {G : jG} {μ : jM} {φ : Int32 → jM → Prop} {x2 x3 x4 : Int32} (hG : gMM G) (hP : gNN μ) 
    (o0 : vp_in (μ.1 112 18) 2) 
    (o1 : ((μ.1 123 (Int32.toNatClampNeg (μ.1 112 18))) ≤ (x4 : Int32)) → (¬ x2 = (0 : Int32)) → vp_in x3 68) 
    (k0 : ((μ.1 123 (Int32.toNatClampNeg (μ.1 112 18))) ≤ (x4 : Int32)) → (¬ x2 = (0 : Int32)) → φ ((μ.1 152 (Int32.toNatClampNeg x3)) - (μ.1 151 (Int32.toNatClampNeg x3))) μ) 
    (k1 : ((μ.1 123 (Int32.toNatClampNeg (μ.1 112 18))) ≤ (x4 : Int32)) → (x2 = (0 : Int32)) → φ x3 μ) 
    (o2 : (¬ ((μ.1 123 (Int32.toNatClampNeg (μ.1 112 18))) ≤ (x4 : Int32))) → vp_in x4 68) 
    (o3 : (¬ ((μ.1 123 (Int32.toNatClampNeg (μ.1 112 18))) ≤ (x4 : Int32))) → vp_in x3 68) 
    (k2 : (¬ ((μ.1 123 (Int32.toNatClampNeg (μ.1 112 18))) ≤ (x4 : Int32))) → (((μ.1 152 (Int32.toNatClampNeg x4)) - (μ.1 151 (Int32.toNatClampNeg x4))) ≤ (((μ.1 152 (Int32.toNatClampNeg x3)) - (μ.1 151 (Int32.toNatClampNeg x3))) : Int32)) → J l mX12_busiest (jZ0 9 G (pI φ)) G 0 0 47 [.ref 112, .null, .int x2, .int x3, .int (x4 + 1)] [] μ) 
    (k3 : (¬ ((μ.1 123 (Int32.toNatClampNeg (μ.1 112 18))) ≤ (x4 : Int32))) → (¬ (((μ.1 152 (Int32.toNatClampNeg x4)) - (μ.1 151 (Int32.toNatClampNeg x4))) ≤ (((μ.1 152 (Int32.toNatClampNeg x3)) - (μ.1 151 (Int32.toNatClampNeg x3))) : Int32))) → J l mX12_busiest (jZ0 9 G (pI φ)) G 0 0 47 [.ref 112, .null, .int x2, .int x4, .int (x4 + 1)] [] μ) :
    J l mX12_busiest (jZ0 9 G (pI φ)) G 0 0 47 [.ref 112, .null, .int x2, .int x3, .int x4] [] μ := by
  refine j_iload dX12_busiest_47 rfl rfl ?_
  refine j_aload_n dX12_busiest_49 rfl rfl ?_
  refine j_getR (ci := 12) (N := 80) (f := 24) (T := TX12) 123 dX12_busiest_50 rfl (hG 112 (17, 80) rfl) rfl (by decide) fl_X12_49 rfl (hP 112 24 123 rfl) ?_
  refine j_aload_n dX12_busiest_53 rfl rfl ?_
  refine j_getI (ci := 12) (N := 80) (f := 18) (T := TX12) dX12_busiest_54 rfl (hG 112 (17, 80) rfl) rfl (by decide) fl_X12_263 rfl ?_
  refine j_iald' (j := (Int32.toNatClampNeg (μ.1 112 18))) dX12_busiest_57 rfl (hG 123 (0, 2) rfl) o0 rfl ?_
  refine j_icmp_ge 101 dX12_busiest_58 rfl (by decide) (fun c0 => ?_) (fun c0 => ?_)
  · skip
    refine j_iload_n dX12_busiest_101 rfl rfl ?_
    refine j_if_ne 109 dX12_busiest_102 rfl (by decide) (fun c1 => ?_) (fun c1 => ?_)
    · skip
      refine j_aload_n dX12_busiest_109 rfl rfl ?_
      refine j_getR (ci := 12) (N := 80) (f := 57) (T := TX12) 152 dX12_busiest_110 rfl (hG 112 (17, 80) rfl) rfl (by decide) fl_X12_137 rfl (hP 112 57 152 rfl) ?_
      refine j_iload_n dX12_busiest_113 rfl rfl ?_
      refine j_iald' (j := (Int32.toNatClampNeg x3)) dX12_busiest_114 rfl (hG 152 (0, 68) rfl) (o1 c0 c1) rfl ?_
      refine j_aload_n dX12_busiest_115 rfl rfl ?_
      refine j_getR (ci := 12) (N := 80) (f := 56) (T := TX12) 151 dX12_busiest_116 rfl (hG 112 (17, 80) rfl) rfl (by decide) fl_X12_134 rfl (hP 112 56 151 rfl) ?_
      refine j_iload_n dX12_busiest_119 rfl rfl ?_
      refine j_iald' (j := (Int32.toNatClampNeg x3)) dX12_busiest_120 rfl (hG 151 (0, 68) rfl) (o1 c0 c1) rfl ?_
      refine j_isub dX12_busiest_121 rfl ?_
      exact j_iret dX12_busiest_122 rfl (k0 c0 c1)
    · skip
      refine j_iload_n dX12_busiest_105 rfl rfl ?_
      refine j_goto 122 dX12_busiest_106 (by decide) ?_
      exact j_iret dX12_busiest_122 rfl (k1 c0 c1)
  · skip
    refine j_aload_n dX12_busiest_61 rfl rfl ?_
    refine j_getR (ci := 12) (N := 80) (f := 57) (T := TX12) 152 dX12_busiest_62 rfl (hG 112 (17, 80) rfl) rfl (by decide) fl_X12_137 rfl (hP 112 57 152 rfl) ?_
    refine j_iload dX12_busiest_65 rfl rfl ?_
    refine j_iald' (j := (Int32.toNatClampNeg x4)) dX12_busiest_67 rfl (hG 152 (0, 68) rfl) (o2 c0) rfl ?_
    refine j_aload_n dX12_busiest_68 rfl rfl ?_
    refine j_getR (ci := 12) (N := 80) (f := 56) (T := TX12) 151 dX12_busiest_69 rfl (hG 112 (17, 80) rfl) rfl (by decide) fl_X12_134 rfl (hP 112 56 151 rfl) ?_
    refine j_iload dX12_busiest_72 rfl rfl ?_
    refine j_iald' (j := (Int32.toNatClampNeg x4)) dX12_busiest_74 rfl (hG 151 (0, 68) rfl) (o2 c0) rfl ?_
    refine j_isub dX12_busiest_75 rfl ?_
    refine j_aload_n dX12_busiest_76 rfl rfl ?_
    refine j_getR (ci := 12) (N := 80) (f := 57) (T := TX12) 152 dX12_busiest_77 rfl (hG 112 (17, 80) rfl) rfl (by decide) fl_X12_137 rfl (hP 112 57 152 rfl) ?_
    refine j_iload_n dX12_busiest_80 rfl rfl ?_
    refine j_iald' (j := (Int32.toNatClampNeg x3)) dX12_busiest_81 rfl (hG 152 (0, 68) rfl) (o3 c0) rfl ?_
    refine j_aload_n dX12_busiest_82 rfl rfl ?_
    refine j_getR (ci := 12) (N := 80) (f := 56) (T := TX12) 151 dX12_busiest_83 rfl (hG 112 (17, 80) rfl) rfl (by decide) fl_X12_134 rfl (hP 112 56 151 rfl) ?_
    refine j_iload_n dX12_busiest_86 rfl rfl ?_
    refine j_iald' (j := (Int32.toNatClampNeg x3)) dX12_busiest_87 rfl (hG 151 (0, 68) rfl) (o3 c0) rfl ?_
    refine j_isub dX12_busiest_88 rfl ?_
    refine j_icmp_le 95 dX12_busiest_89 rfl (by decide) (fun c2 => ?_) (fun c2 => ?_)
    · skip
      refine j_iinc (x4 + 1) (ls' := [.ref 112, .null, .int x2, .int x3, .int (x4 + 1)]) dX12_busiest_95 rfl rfl rfl (Nat.le_of_ble_eq_true rfl) rfl ?_
      refine j_goto 47 dX12_busiest_98 (by decide) ?_
      exact k2 c0 c2
    · skip
      refine j_iload dX12_busiest_92 rfl rfl ?_
      refine j_istore_n (ls' := [.ref 112, .null, .int x2, .int x4, .int x4]) dX12_busiest_94 rfl rfl (Nat.le_of_ble_eq_true rfl) rfl ?_
      refine j_iinc (x4 + 1) (ls' := [.ref 112, .null, .int x2, .int x4, .int (x4 + 1)]) dX12_busiest_95 rfl rfl rfl (Nat.le_of_ble_eq_true rfl) rfl ?_
      refine j_goto 47 dX12_busiest_98 (by decide) ?_
      exact k3 c0 c2
theorem b_X12_best_0 {l : Launch} {G : jG} {μ : jM} {φ : Int32 → jM → Prop} {x1 x2 : Int32} {ψ0 : Int32 → jM → Prop} (hG : gMM G) (hP : gNN μ) 
    (e0 : jC0 l mX12_in 0 G [.int x1, .int 1, .int 30] μ (pI ψ0)) 
    (k0 : ∀ v μ', ψ0 v μ' → J l mX12_best (jZ0 9 G (pI φ)) G 0 0 7 [.ref 112, .int x1, .int x2, .null, .null, .null] [.int v] μ') :
    J l mX12_best (jZ0 9 G (pI φ)) G 0 0 0 [.ref 112, .int x1, .int x2, .null, .null, .null] [] μ := by
  refine j_iload_n dX12_best_0 rfl rfl ?_
  refine j_iconst 1 dX12_best_1 rfl (by decide) ?_
  refine j_bipush 30 dX12_best_2 rfl (by decide) ?_
  refine j_cS (as := [.int x1, .int 1, .int 30]) (rest := []) dX12_best_4 rfl vw_X12_349 ⟨Nat.le_of_ble_eq_true rfl, Nat.le_of_ble_eq_true rfl⟩ rfl rfl (fun _ _ => Nat.le_of_ble_eq_true rfl) (e0 ) (fun r μ' hr => ?_)
  obtain ⟨v, rfl, hr⟩ := hr
  exact k0  v μ' hr
theorem b_X12_best_7 {l : Launch} {G : jG} {μ : jM} {φ : Int32 → jM → Prop} {x1 x2 z0 : Int32} {ψ1 : Int32 → jM → Prop} (hG : gMM G) (hP : gNN μ) 
    (k0 : (z0 = (0 : Int32)) → φ (-1) μ) 
    (e1 : (¬ (z0 = (0 : Int32))) → jC0 l mX12_in 0 G [.int x2, .int 0, .int 1] μ (pI ψ1)) 
    (k1 : (¬ (z0 = (0 : Int32))) → ∀ v μ', ψ1 v μ' → J l mX12_best (jZ0 9 G (pI φ)) G 0 0 16 [.ref 112, .int x1, .int x2, .null, .null, .null] [.int v] μ') :
    J l mX12_best (jZ0 9 G (pI φ)) G 0 0 7 [.ref 112, .int x1, .int x2, .null, .null, .null] [.int z0] μ := by
  refine j_if_eq 19 dX12_best_7 rfl (by decide) (fun c0 => ?_) (fun c0 => ?_)
  · skip
    refine j_iconst (-1) dX12_best_19 rfl (by decide) ?_
    exact j_iret dX12_best_20 rfl (k0 c0)
  · skip
    refine j_iload_n dX12_best_10 rfl rfl ?_
    refine j_iconst 0 dX12_best_11 rfl (by decide) ?_
    refine j_iconst 1 dX12_best_12 rfl (by decide) ?_
    refine j_cS (as := [.int x2, .int 0, .int 1]) (rest := []) dX12_best_13 rfl vw_X12_349 ⟨Nat.le_of_ble_eq_true rfl, Nat.le_of_ble_eq_true rfl⟩ rfl rfl (fun _ _ => Nat.le_of_ble_eq_true rfl) (e1 c0) (fun r μ' hr => ?_)
    obtain ⟨v, rfl, hr⟩ := hr
    exact k1 c0 v μ' hr
theorem b_X12_best_16 {l : Launch} {G : jG} {μ : jM} {φ : Int32 → jM → Prop} {x1 x2 z0 : Int32} (hG : gMM G) (hP : gNN μ) 
    (k0 : (¬ z0 = (0 : Int32)) → J l mX12_best (jZ0 9 G (pI φ)) G 0 0 29 [.ref 112, .int x1, .int x2, .int 0, .int (-1), .int 0] [] μ) 
    (k1 : (z0 = (0 : Int32)) → φ (-1) μ) :
    J l mX12_best (jZ0 9 G (pI φ)) G 0 0 16 [.ref 112, .int x1, .int x2, .null, .null, .null] [.int z0] μ := by
  refine j_if_ne 21 dX12_best_16 rfl (by decide) (fun c0 => ?_) (fun c0 => ?_)
  · skip
    refine j_iconst 0 dX12_best_21 rfl (by decide) ?_
    refine j_istore_n (ls' := [.ref 112, .int x1, .int x2, .int 0, .null, .null]) dX12_best_22 rfl rfl (Nat.le_of_ble_eq_true rfl) rfl ?_
    refine j_iconst (-1) dX12_best_23 rfl (by decide) ?_
    refine j_istore (ls' := [.ref 112, .int x1, .int x2, .int 0, .int (-1), .null]) dX12_best_24 rfl (Nat.le_of_ble_eq_true rfl) rfl ?_
    refine j_iconst 0 dX12_best_26 rfl (by decide) ?_
    refine j_istore (ls' := [.ref 112, .int x1, .int x2, .int 0, .int (-1), .int 0]) dX12_best_27 rfl (Nat.le_of_ble_eq_true rfl) rfl ?_
    exact k0 c0
  · skip
    refine j_iconst (-1) dX12_best_19 rfl (by decide) ?_
    exact j_iret dX12_best_20 rfl (k1 c0)
theorem b_X12_best_29 {l : Launch} {G : jG} {μ : jM} {φ : Int32 → jM → Prop} {x1 x2 x3 x4 x5 : Int32} {ψ2 : jM → Prop} (hG : gMM G) (hP : gNN μ) 
    (k0 : (9 < (x5 : Int32)) → (¬ x2 = (0 : Int32)) → φ x4 μ) 
    (k1 : (9 < (x5 : Int32)) → (x2 = (0 : Int32)) → φ x3 μ) 
    (e2 : (¬ (9 < (x5 : Int32))) → jC0 l mX12_copies 1 G [.ref 112] μ (pV ψ2)) 
    (k2 : (¬ (9 < (x5 : Int32))) → ∀ μ', ψ2 μ' → J l mX12_best (jZ0 9 G (pI φ)) G 0 0 40 [.ref 112, .int x1, .int x2, .int x3, .int x4, .int x5] [] μ') :
    J l mX12_best (jZ0 9 G (pI φ)) G 0 0 29 [.ref 112, .int x1, .int x2, .int x3, .int x4, .int x5] [] μ := by
  refine j_iload dX12_best_29 rfl rfl ?_
  refine j_bipush 9 dX12_best_31 rfl (by decide) ?_
  refine j_icmp_gt 103 dX12_best_33 rfl (by decide) (fun c0 => ?_) (fun c0 => ?_)
  · skip
    refine j_iload_n dX12_best_103 rfl rfl ?_
    refine j_if_ne 111 dX12_best_104 rfl (by decide) (fun c1 => ?_) (fun c1 => ?_)
    · skip
      refine j_iload dX12_best_111 rfl rfl ?_
      exact j_iret dX12_best_113 rfl (k0 c0 c1)
    · skip
      refine j_iload_n dX12_best_107 rfl rfl ?_
      refine j_goto 113 dX12_best_108 (by decide) ?_
      exact j_iret dX12_best_113 rfl (k1 c0 c1)
  · skip
    refine j_aload_n dX12_best_36 rfl rfl ?_
    refine j_cV (as := []) (rest := []) dX12_best_37 rfl vw_X12_430 (hG 112 (17, 80) rfl) rfl ⟨Nat.le_of_ble_eq_true rfl, Nat.le_of_ble_eq_true rfl⟩ rfl rfl (fun _ _ => Nat.le_of_ble_eq_true rfl) (e2 c0) (fun r μ' hr => ?_)
    obtain ⟨rfl, hr⟩ := hr
    exact k2 c0 μ' hr
theorem b_X12_best_40 {l : Launch} {G : jG} {μ : jM} {φ : Int32 → jM → Prop} {x1 x2 x3 x4 x5 : Int32} {ψ0 : jM → Prop} (hG : gMM G) (hP : gNN μ) 
    (e0 : jC0 l mX12_goes 8 G [.ref 112, .int x1] (wI μ 152 65 x5) (pV ψ0)) 
    (k0 : ∀ μ', ψ0 μ' → J l mX12_best (jZ0 9 G (pI φ)) G 0 0 54 [.ref 112, .int x1, .int x2, .int x3, .int x4, .int x5] [] μ') :
    J l mX12_best (jZ0 9 G (pI φ)) G 0 0 40 [.ref 112, .int x1, .int x2, .int x3, .int x4, .int x5] [] μ := by
  refine j_aload_n dX12_best_40 rfl rfl ?_
  refine j_getR (ci := 12) (N := 80) (f := 57) (T := TX12) 152 dX12_best_41 rfl (hG 112 (17, 80) rfl) rfl (by decide) fl_X12_137 rfl (hP 112 57 152 rfl) ?_
  refine j_bipush 65 dX12_best_44 rfl (by decide) ?_
  refine j_iload dX12_best_46 rfl rfl ?_
  refine j_iast' (j := 65) dX12_best_48 rfl (hG 152 (0, 68) rfl) (vpK (by decide)) (by decide) ?_
  refine j_aload_n dX12_best_49 rfl rfl ?_
  refine j_iload_n dX12_best_50 rfl rfl ?_
  refine j_cV (as := [.int x1]) (rest := []) dX12_best_51 rfl vw_X12_442 (hG 112 (17, 80) rfl) rfl ⟨Nat.le_of_ble_eq_true rfl, Nat.le_of_ble_eq_true rfl⟩ rfl rfl (fun _ _ => Nat.le_of_ble_eq_true rfl) (e0 ) (fun r μ' hr => ?_)
  obtain ⟨rfl, hr⟩ := hr
  exact k0  μ' hr
theorem b_X12_best_54 {l : Launch} {G : jG} {μ : jM} {φ : Int32 → jM → Prop} {x1 x2 x3 x4 x5 : Int32} (hG : gMM G) (hP : gNN μ) 
    (k0 : (x4 < (((μ.1 152 66) - (μ.1 151 66)) : Int32)) → J l mX12_best (jZ0 9 G (pI φ)) G 0 0 29 [.ref 112, .int x1, .int x2, .int x5, .int ((μ.1 152 66) - (μ.1 151 66)), .int (x5 + 1)] [] μ) 
    (k1 : (¬ (x4 < (((μ.1 152 66) - (μ.1 151 66)) : Int32))) → J l mX12_best (jZ0 9 G (pI φ)) G 0 0 29 [.ref 112, .int x1, .int x2, .int x3, .int x4, .int (x5 + 1)] [] μ) :
    J l mX12_best (jZ0 9 G (pI φ)) G 0 0 54 [.ref 112, .int x1, .int x2, .int x3, .int x4, .int x5] [] μ := by
  refine j_aload_n dX12_best_54 rfl rfl ?_
  refine j_getR (ci := 12) (N := 80) (f := 57) (T := TX12) 152 dX12_best_55 rfl (hG 112 (17, 80) rfl) rfl (by decide) fl_X12_137 rfl (hP 112 57 152 rfl) ?_
  refine j_bipush 66 dX12_best_58 rfl (by decide) ?_
  refine j_iald' (j := 66) dX12_best_60 rfl (hG 152 (0, 68) rfl) (vpK (by decide)) (by decide) ?_
  refine j_aload_n dX12_best_61 rfl rfl ?_
  refine j_getR (ci := 12) (N := 80) (f := 56) (T := TX12) 151 dX12_best_62 rfl (hG 112 (17, 80) rfl) rfl (by decide) fl_X12_134 rfl (hP 112 56 151 rfl) ?_
  refine j_bipush 66 dX12_best_65 rfl (by decide) ?_
  refine j_iald' (j := 66) dX12_best_67 rfl (hG 151 (0, 68) rfl) (vpK (by decide)) (by decide) ?_
  refine j_isub dX12_best_68 rfl ?_
  refine j_iload dX12_best_69 rfl rfl ?_
  refine j_icmp_gt 77 dX12_best_71 rfl (by decide) (fun c0 => ?_) (fun c0 => ?_)
  · skip
    refine j_aload_n dX12_best_77 rfl rfl ?_
    refine j_getR (ci := 12) (N := 80) (f := 57) (T := TX12) 152 dX12_best_78 rfl (hG 112 (17, 80) rfl) rfl (by decide) fl_X12_137 rfl (hP 112 57 152 rfl) ?_
    refine j_bipush 66 dX12_best_81 rfl (by decide) ?_
    refine j_iald' (j := 66) dX12_best_83 rfl (hG 152 (0, 68) rfl) (vpK (by decide)) (by decide) ?_
    refine j_aload_n dX12_best_84 rfl rfl ?_
    refine j_getR (ci := 12) (N := 80) (f := 56) (T := TX12) 151 dX12_best_85 rfl (hG 112 (17, 80) rfl) rfl (by decide) fl_X12_134 rfl (hP 112 56 151 rfl) ?_
    refine j_bipush 66 dX12_best_88 rfl (by decide) ?_
    refine j_iald' (j := 66) dX12_best_90 rfl (hG 151 (0, 68) rfl) (vpK (by decide)) (by decide) ?_
    refine j_isub dX12_best_91 rfl ?_
    refine j_istore (ls' := [.ref 112, .int x1, .int x2, .int x3, .int ((μ.1 152 66) - (μ.1 151 66)), .int x5]) dX12_best_92 rfl (Nat.le_of_ble_eq_true rfl) rfl ?_
    refine j_iload dX12_best_94 rfl rfl ?_
    refine j_istore_n (ls' := [.ref 112, .int x1, .int x2, .int x5, .int ((μ.1 152 66) - (μ.1 151 66)), .int x5]) dX12_best_96 rfl rfl (Nat.le_of_ble_eq_true rfl) rfl ?_
    refine j_iinc (x5 + 1) (ls' := [.ref 112, .int x1, .int x2, .int x5, .int ((μ.1 152 66) - (μ.1 151 66)), .int (x5 + 1)]) dX12_best_97 rfl rfl rfl (Nat.le_of_ble_eq_true rfl) rfl ?_
    refine j_goto 29 dX12_best_100 (by decide) ?_
    exact k0 c0
  · skip
    refine j_goto 97 dX12_best_74 (by decide) ?_
    refine j_iinc (x5 + 1) (ls' := [.ref 112, .int x1, .int x2, .int x3, .int x4, .int (x5 + 1)]) dX12_best_97 rfl rfl rfl (Nat.le_of_ble_eq_true rfl) rfl ?_
    refine j_goto 29 dX12_best_100 (by decide) ?_
    exact k1 c0
theorem b_X12_fillsTaken_0 {l : Launch} {G : jG} {μ : jM} {φ : jM → Prop} {x1 : Int32} (hG : gMM G) (hP : gNN μ) 
    (k0 : J l mX12_fillsTaken (jZ0 9 G (pV φ)) G 0 0 2 [.ref 112, .int x1, .int 0, .null] [] μ) :
    J l mX12_fillsTaken (jZ0 9 G (pV φ)) G 0 0 0 [.ref 112, .int x1, .null, .null] [] μ := by
  refine j_iconst 0 dX12_fillsTaken_0 rfl (by decide) ?_
  refine j_istore_n (ls' := [.ref 112, .int x1, .int 0, .null]) dX12_fillsTaken_1 rfl rfl (Nat.le_of_ble_eq_true rfl) rfl ?_
  exact k0 
theorem b_X12_fillsTaken_2 {l : Launch} {G : jG} {μ : jM} {φ : jM → Prop} {x1 x2 : Int32} {ψ1 : jM → Prop} (hG : gMM G) (hP : gNN μ) 
    (k0 : (16 ≤ (x2 : Int32)) → φ μ) 
    (e1 : (¬ (16 ≤ (x2 : Int32))) → jC0 l mX12_copies 1 G [.ref 112] μ (pV ψ1)) 
    (k1 : (¬ (16 ≤ (x2 : Int32))) → ∀ μ', ψ1 μ' → J l mX12_fillsTaken (jZ0 9 G (pV φ)) G 0 0 12 [.ref 112, .int x1, .int x2, .null] [] μ') :
    J l mX12_fillsTaken (jZ0 9 G (pV φ)) G 0 0 2 [.ref 112, .int x1, .int x2, .null] [] μ := by
  refine j_iload_n dX12_fillsTaken_2 rfl rfl ?_
  refine j_bipush 16 dX12_fillsTaken_3 rfl (by decide) ?_
  refine j_icmp_ge 115 dX12_fillsTaken_5 rfl (by decide) (fun c0 => ?_) (fun c0 => ?_)
  · skip
    exact j_vret dX12_fillsTaken_115 rfl (k0 c0)
  · skip
    refine j_aload_n dX12_fillsTaken_8 rfl rfl ?_
    refine j_cV (as := []) (rest := []) dX12_fillsTaken_9 rfl vw_X12_430 (hG 112 (17, 80) rfl) rfl ⟨Nat.le_of_ble_eq_true rfl, Nat.le_of_ble_eq_true rfl⟩ rfl rfl (fun _ _ => Nat.le_of_ble_eq_true rfl) (e1 c0) (fun r μ' hr => ?_)
    obtain ⟨rfl, hr⟩ := hr
    exact k1 c0 μ' hr
theorem b_X12_fillsTaken_12 {l : Launch} {G : jG} {μ : jM} {φ : jM → Prop} {x1 x2 : Int32} {ψ0 : jM → Prop} (hG : gMM G) (hP : gNN μ) 
    (e0 : jC0 l mX12_goes 8 G [.ref 112, .int x1] (wI (wI μ 152 65 (x2 / 4)) 112 60 (x2 - x2 / 4 * 4)) (pV ψ0)) 
    (k0 : ∀ μ', ψ0 μ' → J l mX12_fillsTaken (jZ0 9 G (pV φ)) G 0 0 34 [.ref 112, .int x1, .int x2, .null] [] μ') :
    J l mX12_fillsTaken (jZ0 9 G (pV φ)) G 0 0 12 [.ref 112, .int x1, .int x2, .null] [] μ := by
  refine j_aload_n dX12_fillsTaken_12 rfl rfl ?_
  refine j_getR (ci := 12) (N := 80) (f := 57) (T := TX12) 152 dX12_fillsTaken_13 rfl (hG 112 (17, 80) rfl) rfl (by decide) fl_X12_137 rfl (hP 112 57 152 rfl) ?_
  refine j_bipush 65 dX12_fillsTaken_16 rfl (by decide) ?_
  refine j_iload_n dX12_fillsTaken_18 rfl rfl ?_
  refine j_iconst 4 dX12_fillsTaken_19 rfl (by decide) ?_
  refine j_idiv dX12_fillsTaken_20 rfl (by decide) ?_
  refine j_iast' (j := 65) dX12_fillsTaken_21 rfl (hG 152 (0, 68) rfl) (vpK (by decide)) (by decide) ?_
  refine j_aload_n dX12_fillsTaken_22 rfl rfl ?_
  refine j_iload_n dX12_fillsTaken_23 rfl rfl ?_
  refine j_iconst 4 dX12_fillsTaken_24 rfl (by decide) ?_
  refine j_irem dX12_fillsTaken_25 rfl (by decide) ?_
  refine j_putI (ci := 12) (N := 80) (f := 60) (T := TX12) dX12_fillsTaken_26 rfl (hG 112 (17, 80) rfl) rfl (by decide) fl_X12_359 rfl rfl ?_
  refine j_aload_n dX12_fillsTaken_29 rfl rfl ?_
  refine j_iload_n dX12_fillsTaken_30 rfl rfl ?_
  refine j_cV (as := [.int x1]) (rest := []) dX12_fillsTaken_31 rfl vw_X12_442 (hG 112 (17, 80) rfl) rfl ⟨Nat.le_of_ble_eq_true rfl, Nat.le_of_ble_eq_true rfl⟩ rfl rfl (fun _ _ => Nat.le_of_ble_eq_true rfl) (e0 ) (fun r μ' hr => ?_)
  obtain ⟨rfl, hr⟩ := hr
  exact k0  μ' hr
theorem b_X12_fillsTaken_34 {l : Launch} {G : jG} {μ : jM} {φ : jM → Prop} {x1 x2 : Int32} (hG : gMM G) (hP : gNN μ) 
    (o0 : vp_in (2 * x2) 32) 
    (o1 : vp_in ((2 * x2) + 1) 32) 
    (k0 : J l mX12_fillsTaken (jZ0 9 G (pV φ)) G 0 0 56 [.ref 112, .int x1, .int x2, .int 0] [] (wI (wI μ 158 (Int32.toNatClampNeg (2 * x2)) 0) 158 (Int32.toNatClampNeg ((2 * x2) + 1)) 0)) :
    J l mX12_fillsTaken (jZ0 9 G (pV φ)) G 0 0 34 [.ref 112, .int x1, .int x2, .null] [] μ := by
  refine j_aload_n dX12_fillsTaken_34 rfl rfl ?_
  refine j_getR (ci := 12) (N := 80) (f := 70) (T := TX12) 158 dX12_fillsTaken_35 rfl (hG 112 (17, 80) rfl) rfl (by decide) fl_X12_155 rfl (hP 112 70 158 rfl) ?_
  refine j_iconst 2 dX12_fillsTaken_38 rfl (by decide) ?_
  refine j_iload_n dX12_fillsTaken_39 rfl rfl ?_
  refine j_imul dX12_fillsTaken_40 rfl ?_
  refine j_iconst 0 dX12_fillsTaken_41 rfl (by decide) ?_
  refine j_iast' (j := (Int32.toNatClampNeg (2 * x2))) dX12_fillsTaken_42 rfl (hG 158 (0, 32) rfl) o0 rfl ?_
  refine j_aload_n dX12_fillsTaken_43 rfl rfl ?_
  refine j_getR (ci := 12) (N := 80) (f := 70) (T := TX12) 158 dX12_fillsTaken_44 rfl (hG 112 (17, 80) rfl) rfl (by decide) fl_X12_155 rfl (hP 112 70 158 rfl) ?_
  refine j_iconst 2 dX12_fillsTaken_47 rfl (by decide) ?_
  refine j_iload_n dX12_fillsTaken_48 rfl rfl ?_
  refine j_imul dX12_fillsTaken_49 rfl ?_
  refine j_iconst 1 dX12_fillsTaken_50 rfl (by decide) ?_
  refine j_iadd dX12_fillsTaken_51 rfl ?_
  refine j_iconst 0 dX12_fillsTaken_52 rfl (by decide) ?_
  refine j_iast' (j := (Int32.toNatClampNeg ((2 * x2) + 1))) dX12_fillsTaken_53 rfl (hG 158 (0, 32) rfl) o1 rfl ?_
  refine j_iconst 0 dX12_fillsTaken_54 rfl (by decide) ?_
  refine j_istore_n (ls' := [.ref 112, .int x1, .int x2, .int 0]) dX12_fillsTaken_55 rfl rfl (Nat.le_of_ble_eq_true rfl) rfl ?_
  exact k0 
theorem b_X12_fillsTaken_56 {l : Launch} {G : jG} {μ : jM} {φ : jM → Prop} {x1 x2 x3 : Int32} (hG : gMM G) (hP : gNN μ) 
    (o0 : vp_in (μ.1 112 18) 2) 
    (k0 : ((μ.1 123 (Int32.toNatClampNeg (μ.1 112 18))) ≤ (x3 : Int32)) → J l mX12_fillsTaken (jZ0 9 G (pV φ)) G 0 0 2 [.ref 112, .int x1, .int (x2 + 1), .null] [] μ) 
    (o1 : (¬ ((μ.1 123 (Int32.toNatClampNeg (μ.1 112 18))) ≤ (x3 : Int32))) → vp_in ((2 * x2) + (x3 - x3 / 2 * 2)) 32) 
    (o2 : (¬ ((μ.1 123 (Int32.toNatClampNeg (μ.1 112 18))) ≤ (x3 : Int32))) → vp_in (24 + x3) 68) 
    (k1 : (¬ ((μ.1 123 (Int32.toNatClampNeg (μ.1 112 18))) ≤ (x3 : Int32))) → J l mX12_fillsTaken (jZ0 9 G (pV φ)) G 0 0 56 [.ref 112, .int x1, .int x2, .int (x3 + 1)] [] (wI μ 158 (Int32.toNatClampNeg ((2 * x2) + (x3 - x3 / 2 * 2))) ((μ.1 158 (Int32.toNatClampNeg ((2 * x2) + (x3 - x3 / 2 * 2)))) + ((μ.1 152 (Int32.toNatClampNeg (24 + x3))) - (μ.1 151 (Int32.toNatClampNeg (24 + x3))))))) :
    J l mX12_fillsTaken (jZ0 9 G (pV φ)) G 0 0 56 [.ref 112, .int x1, .int x2, .int x3] [] μ := by
  refine j_iload_n dX12_fillsTaken_56 rfl rfl ?_
  refine j_aload_n dX12_fillsTaken_57 rfl rfl ?_
  refine j_getR (ci := 12) (N := 80) (f := 24) (T := TX12) 123 dX12_fillsTaken_58 rfl (hG 112 (17, 80) rfl) rfl (by decide) fl_X12_49 rfl (hP 112 24 123 rfl) ?_
  refine j_aload_n dX12_fillsTaken_61 rfl rfl ?_
  refine j_getI (ci := 12) (N := 80) (f := 18) (T := TX12) dX12_fillsTaken_62 rfl (hG 112 (17, 80) rfl) rfl (by decide) fl_X12_263 rfl ?_
  refine j_iald' (j := (Int32.toNatClampNeg (μ.1 112 18))) dX12_fillsTaken_65 rfl (hG 123 (0, 2) rfl) o0 rfl ?_
  refine j_icmp_ge 109 dX12_fillsTaken_66 rfl (by decide) (fun c0 => ?_) (fun c0 => ?_)
  · skip
    refine j_iinc (x2 + 1) (ls' := [.ref 112, .int x1, .int (x2 + 1), .int x3]) dX12_fillsTaken_109 rfl rfl rfl (Nat.le_of_ble_eq_true rfl) rfl ?_
    refine j_goto 2 dX12_fillsTaken_112 (by decide) ?_
    refine j_forget (ls' := [.ref 112, .int x1, .int (x2 + 1), .null]) ⟨Or.inr rfl, Or.inr rfl, Or.inr rfl, Or.inl rfl, trivial⟩ ?_
    exact k0 c0
  · skip
    refine j_aload_n dX12_fillsTaken_69 rfl rfl ?_
    refine j_getR (ci := 12) (N := 80) (f := 70) (T := TX12) 158 dX12_fillsTaken_70 rfl (hG 112 (17, 80) rfl) rfl (by decide) fl_X12_155 rfl (hP 112 70 158 rfl) ?_
    refine j_iconst 2 dX12_fillsTaken_73 rfl (by decide) ?_
    refine j_iload_n dX12_fillsTaken_74 rfl rfl ?_
    refine j_imul dX12_fillsTaken_75 rfl ?_
    refine j_iload_n dX12_fillsTaken_76 rfl rfl ?_
    refine j_iconst 2 dX12_fillsTaken_77 rfl (by decide) ?_
    refine j_irem dX12_fillsTaken_78 rfl (by decide) ?_
    refine j_iadd dX12_fillsTaken_79 rfl ?_
    refine j_dup2 dX12_fillsTaken_80 rfl (fun _ _ => rfl) (fun _ _ => rfl) ?_
    refine j_iald' (j := (Int32.toNatClampNeg ((2 * x2) + (x3 - x3 / 2 * 2)))) dX12_fillsTaken_81 rfl (hG 158 (0, 32) rfl) (o1 c0) rfl ?_
    refine j_aload_n dX12_fillsTaken_82 rfl rfl ?_
    refine j_getR (ci := 12) (N := 80) (f := 57) (T := TX12) 152 dX12_fillsTaken_83 rfl (hG 112 (17, 80) rfl) rfl (by decide) fl_X12_137 rfl (hP 112 57 152 rfl) ?_
    refine j_bipush 24 dX12_fillsTaken_86 rfl (by decide) ?_
    refine j_iload_n dX12_fillsTaken_88 rfl rfl ?_
    refine j_iadd dX12_fillsTaken_89 rfl ?_
    refine j_iald' (j := (Int32.toNatClampNeg (24 + x3))) dX12_fillsTaken_90 rfl (hG 152 (0, 68) rfl) (o2 c0) rfl ?_
    refine j_aload_n dX12_fillsTaken_91 rfl rfl ?_
    refine j_getR (ci := 12) (N := 80) (f := 56) (T := TX12) 151 dX12_fillsTaken_92 rfl (hG 112 (17, 80) rfl) rfl (by decide) fl_X12_134 rfl (hP 112 56 151 rfl) ?_
    refine j_bipush 24 dX12_fillsTaken_95 rfl (by decide) ?_
    refine j_iload_n dX12_fillsTaken_97 rfl rfl ?_
    refine j_iadd dX12_fillsTaken_98 rfl ?_
    refine j_iald' (j := (Int32.toNatClampNeg (24 + x3))) dX12_fillsTaken_99 rfl (hG 151 (0, 68) rfl) (o2 c0) rfl ?_
    refine j_isub dX12_fillsTaken_100 rfl ?_
    refine j_iadd dX12_fillsTaken_101 rfl ?_
    refine j_iast' (j := (Int32.toNatClampNeg ((2 * x2) + (x3 - x3 / 2 * 2)))) dX12_fillsTaken_102 rfl (hG 158 (0, 32) rfl) (o1 c0) rfl ?_
    refine j_iinc (x3 + 1) (ls' := [.ref 112, .int x1, .int x2, .int (x3 + 1)]) dX12_fillsTaken_103 rfl rfl rfl (Nat.le_of_ble_eq_true rfl) rfl ?_
    refine j_goto 56 dX12_fillsTaken_106 (by decide) ?_
    exact k1 c0
theorem b_X12_isResting_0 {l : Launch} {G : jG} {μ : jM} {φ : Int32 → jM → Prop} {x1 : Int32} (hG : gMM G) (hP : gNN μ) 
    (k0 : J l mX12_isResting (jZ0 0 G (pI φ)) G 0 0 2 [.ref 112, .int x1, .int 0] [] μ) :
    J l mX12_isResting (jZ0 0 G (pI φ)) G 0 0 0 [.ref 112, .int x1, .null] [] μ := by
  refine j_iconst 0 dX12_isResting_0 rfl (by decide) ?_
  refine j_istore_n (ls' := [.ref 112, .int x1, .int 0]) dX12_isResting_1 rfl rfl (Nat.le_of_ble_eq_true rfl) rfl ?_
  exact k0 
theorem b_X12_isResting_2 {l : Launch} {G : jG} {μ : jM} {φ : Int32 → jM → Prop} {x1 x2 : Int32} (hG : gMM G) (hP : gNN μ) 
    (k0 : (4 ≤ (x2 : Int32)) → φ 1 μ) 
    (o0 : (¬ (4 ≤ (x2 : Int32))) → vp_in (2 * ((4 * x2) + (x1 - x1 / 4 * 4))) 32) 
    (o1 : (¬ (4 ≤ (x2 : Int32))) → vp_in (2 * x1) 32) 
    (k1 : (¬ (4 ≤ (x2 : Int32))) → ((μ.1 158 (Int32.toNatClampNeg (2 * x1))) < ((μ.1 158 (Int32.toNatClampNeg (2 * ((4 * x2) + (x1 - x1 / 4 * 4))))) : Int32)) → φ 0 μ) 
    (o2 : (¬ (4 ≤ (x2 : Int32))) → (¬ ((μ.1 158 (Int32.toNatClampNeg (2 * x1))) < ((μ.1 158 (Int32.toNatClampNeg (2 * ((4 * x2) + (x1 - x1 / 4 * 4))))) : Int32))) → vp_in ((2 * (((x1 / 4) * 4) + x2)) + 1) 32) 
    (o3 : (¬ (4 ≤ (x2 : Int32))) → (¬ ((μ.1 158 (Int32.toNatClampNeg (2 * x1))) < ((μ.1 158 (Int32.toNatClampNeg (2 * ((4 * x2) + (x1 - x1 / 4 * 4))))) : Int32))) → vp_in ((2 * x1) + 1) 32) 
    (k2 : (¬ (4 ≤ (x2 : Int32))) → (¬ ((μ.1 158 (Int32.toNatClampNeg (2 * x1))) < ((μ.1 158 (Int32.toNatClampNeg (2 * ((4 * x2) + (x1 - x1 / 4 * 4))))) : Int32))) → ((μ.1 158 (Int32.toNatClampNeg ((2 * (((x1 / 4) * 4) + x2)) + 1))) ≤ ((μ.1 158 (Int32.toNatClampNeg ((2 * x1) + 1))) : Int32)) → J l mX12_isResting (jZ0 0 G (pI φ)) G 0 0 2 [.ref 112, .int x1, .int (x2 + 1)] [] μ) 
    (k3 : (¬ (4 ≤ (x2 : Int32))) → (¬ ((μ.1 158 (Int32.toNatClampNeg (2 * x1))) < ((μ.1 158 (Int32.toNatClampNeg (2 * ((4 * x2) + (x1 - x1 / 4 * 4))))) : Int32))) → (¬ ((μ.1 158 (Int32.toNatClampNeg ((2 * (((x1 / 4) * 4) + x2)) + 1))) ≤ ((μ.1 158 (Int32.toNatClampNeg ((2 * x1) + 1))) : Int32))) → φ 0 μ) :
    J l mX12_isResting (jZ0 0 G (pI φ)) G 0 0 2 [.ref 112, .int x1, .int x2] [] μ := by
  refine j_iload_n dX12_isResting_2 rfl rfl ?_
  refine j_iconst 4 dX12_isResting_3 rfl (by decide) ?_
  refine j_icmp_ge 69 dX12_isResting_4 rfl (by decide) (fun c0 => ?_) (fun c0 => ?_)
  · skip
    refine j_iconst 1 dX12_isResting_69 rfl (by decide) ?_
    exact j_zret dX12_isResting_70 rfl (by decide) (k0 c0)
  · skip
    refine j_aload_n dX12_isResting_7 rfl rfl ?_
    refine j_getR (ci := 12) (N := 80) (f := 70) (T := TX12) 158 dX12_isResting_8 rfl (hG 112 (17, 80) rfl) rfl (by decide) fl_X12_155 rfl (hP 112 70 158 rfl) ?_
    refine j_iconst 2 dX12_isResting_11 rfl (by decide) ?_
    refine j_iconst 4 dX12_isResting_12 rfl (by decide) ?_
    refine j_iload_n dX12_isResting_13 rfl rfl ?_
    refine j_imul dX12_isResting_14 rfl ?_
    refine j_iload_n dX12_isResting_15 rfl rfl ?_
    refine j_iconst 4 dX12_isResting_16 rfl (by decide) ?_
    refine j_irem dX12_isResting_17 rfl (by decide) ?_
    refine j_iadd dX12_isResting_18 rfl ?_
    refine j_imul dX12_isResting_19 rfl ?_
    refine j_iald' (j := (Int32.toNatClampNeg (2 * ((4 * x2) + (x1 - x1 / 4 * 4))))) dX12_isResting_20 rfl (hG 158 (0, 32) rfl) (o0 c0) rfl ?_
    refine j_aload_n dX12_isResting_21 rfl rfl ?_
    refine j_getR (ci := 12) (N := 80) (f := 70) (T := TX12) 158 dX12_isResting_22 rfl (hG 112 (17, 80) rfl) rfl (by decide) fl_X12_155 rfl (hP 112 70 158 rfl) ?_
    refine j_iconst 2 dX12_isResting_25 rfl (by decide) ?_
    refine j_iload_n dX12_isResting_26 rfl rfl ?_
    refine j_imul dX12_isResting_27 rfl ?_
    refine j_iald' (j := (Int32.toNatClampNeg (2 * x1))) dX12_isResting_28 rfl (hG 158 (0, 32) rfl) (o1 c0) rfl ?_
    refine j_icmp_gt 61 dX12_isResting_29 rfl (by decide) (fun c1 => ?_) (fun c1 => ?_)
    · skip
      refine j_iconst 0 dX12_isResting_61 rfl (by decide) ?_
      exact j_zret dX12_isResting_62 rfl (by decide) (k1 c0 c1)
    · skip
      refine j_aload_n dX12_isResting_32 rfl rfl ?_
      refine j_getR (ci := 12) (N := 80) (f := 70) (T := TX12) 158 dX12_isResting_33 rfl (hG 112 (17, 80) rfl) rfl (by decide) fl_X12_155 rfl (hP 112 70 158 rfl) ?_
      refine j_iconst 2 dX12_isResting_36 rfl (by decide) ?_
      refine j_iload_n dX12_isResting_37 rfl rfl ?_
      refine j_iconst 4 dX12_isResting_38 rfl (by decide) ?_
      refine j_idiv dX12_isResting_39 rfl (by decide) ?_
      refine j_iconst 4 dX12_isResting_40 rfl (by decide) ?_
      refine j_imul dX12_isResting_41 rfl ?_
      refine j_iload_n dX12_isResting_42 rfl rfl ?_
      refine j_iadd dX12_isResting_43 rfl ?_
      refine j_imul dX12_isResting_44 rfl ?_
      refine j_iconst 1 dX12_isResting_45 rfl (by decide) ?_
      refine j_iadd dX12_isResting_46 rfl ?_
      refine j_iald' (j := (Int32.toNatClampNeg ((2 * (((x1 / 4) * 4) + x2)) + 1))) dX12_isResting_47 rfl (hG 158 (0, 32) rfl) (o2 c0 c1) rfl ?_
      refine j_aload_n dX12_isResting_48 rfl rfl ?_
      refine j_getR (ci := 12) (N := 80) (f := 70) (T := TX12) 158 dX12_isResting_49 rfl (hG 112 (17, 80) rfl) rfl (by decide) fl_X12_155 rfl (hP 112 70 158 rfl) ?_
      refine j_iconst 2 dX12_isResting_52 rfl (by decide) ?_
      refine j_iload_n dX12_isResting_53 rfl rfl ?_
      refine j_imul dX12_isResting_54 rfl ?_
      refine j_iconst 1 dX12_isResting_55 rfl (by decide) ?_
      refine j_iadd dX12_isResting_56 rfl ?_
      refine j_iald' (j := (Int32.toNatClampNeg ((2 * x1) + 1))) dX12_isResting_57 rfl (hG 158 (0, 32) rfl) (o3 c0 c1) rfl ?_
      refine j_icmp_le 63 dX12_isResting_58 rfl (by decide) (fun c2 => ?_) (fun c2 => ?_)
      · skip
        refine j_iinc (x2 + 1) (ls' := [.ref 112, .int x1, .int (x2 + 1)]) dX12_isResting_63 rfl rfl rfl (Nat.le_of_ble_eq_true rfl) rfl ?_
        refine j_goto 2 dX12_isResting_66 (by decide) ?_
        exact k2 c0 c1 c2
      · skip
        refine j_iconst 0 dX12_isResting_61 rfl (by decide) ?_
        exact j_zret dX12_isResting_62 rfl (by decide) (k3 c0 c1 c2)
theorem b_X12_keepers_0 {l : Launch} {G : jG} {μ : jM} {φ : Int32 → jM → Prop} {x1 x2 : Int32} {ψ0 : Int32 → jM → Prop} (hG : gMM G) (hP : gNN μ) 
    (e0 : jC0 l mX12_in 0 G [.int x1, .int 1, .int 9] μ (pI ψ0)) 
    (k0 : ∀ v μ', ψ0 v μ' → J l mX12_keepers (jZ0 10 G (pI φ)) G 0 0 7 [.ref 112, .int x1, .int x2, .null, .null] [.int v] μ') :
    J l mX12_keepers (jZ0 10 G (pI φ)) G 0 0 0 [.ref 112, .int x1, .int x2, .null, .null] [] μ := by
  refine j_iload_n dX12_keepers_0 rfl rfl ?_
  refine j_iconst 1 dX12_keepers_1 rfl (by decide) ?_
  refine j_bipush 9 dX12_keepers_2 rfl (by decide) ?_
  refine j_cS (as := [.int x1, .int 1, .int 9]) (rest := []) dX12_keepers_4 rfl vw_X12_349 ⟨Nat.le_of_ble_eq_true rfl, Nat.le_of_ble_eq_true rfl⟩ rfl rfl (fun _ _ => Nat.le_of_ble_eq_true rfl) (e0 ) (fun r μ' hr => ?_)
  obtain ⟨v, rfl, hr⟩ := hr
  exact k0  v μ' hr
theorem b_X12_keepers_7 {l : Launch} {G : jG} {μ : jM} {φ : Int32 → jM → Prop} {x1 x2 z0 : Int32} {ψ1 : jM → Prop} (hG : gMM G) (hP : gNN μ) 
    (k0 : (z0 = (0 : Int32)) → φ (-1) μ) 
    (e1 : (¬ (z0 = (0 : Int32))) → ((-1) ≤ (x2 : Int32)) → jC0 l mX12_fillsTaken 9 G [.ref 112, .int x1] μ (pV ψ1)) 
    (k1 : (¬ (z0 = (0 : Int32))) → ((-1) ≤ (x2 : Int32)) → ∀ μ', ψ1 μ' → J l mX12_keepers (jZ0 10 G (pI φ)) G 0 0 22 [.ref 112, .null, .int x2, .null, .null] [] μ') 
    (k2 : (¬ (z0 = (0 : Int32))) → (¬ ((-1) ≤ (x2 : Int32))) → φ (-1) μ) :
    J l mX12_keepers (jZ0 10 G (pI φ)) G 0 0 7 [.ref 112, .int x1, .int x2, .null, .null] [.int z0] μ := by
  refine j_if_eq 15 dX12_keepers_7 rfl (by decide) (fun c0 => ?_) (fun c0 => ?_)
  · skip
    refine j_iconst (-1) dX12_keepers_15 rfl (by decide) ?_
    exact j_iret dX12_keepers_16 rfl (k0 c0)
  · skip
    refine j_iload_n dX12_keepers_10 rfl rfl ?_
    refine j_iconst (-1) dX12_keepers_11 rfl (by decide) ?_
    refine j_icmp_ge 17 dX12_keepers_12 rfl (by decide) (fun c1 => ?_) (fun c1 => ?_)
    · skip
      refine j_aload_n dX12_keepers_17 rfl rfl ?_
      refine j_iload_n dX12_keepers_18 rfl rfl ?_
      refine j_cV (as := [.int x1]) (rest := []) dX12_keepers_19 rfl vw_X12_469 (hG 112 (17, 80) rfl) rfl ⟨Nat.le_of_ble_eq_true rfl, Nat.le_of_ble_eq_true rfl⟩ rfl rfl (fun _ _ => Nat.le_of_ble_eq_true rfl) (e1 c0 c1) (fun r μ' hr => ?_)
      obtain ⟨rfl, hr⟩ := hr
      refine j_forget (ls' := [.ref 112, .null, .int x2, .null, .null]) ⟨Or.inr rfl, Or.inl rfl, Or.inr rfl, Or.inr rfl, Or.inr rfl, trivial⟩ ?_
      exact k1 c0 c1 μ' hr
    · skip
      refine j_iconst (-1) dX12_keepers_15 rfl (by decide) ?_
      exact j_iret dX12_keepers_16 rfl (k2 c0 c1)
theorem b_X12_keepers_22 {l : Launch} {G : jG} {μ : jM} {φ : Int32 → jM → Prop} {x2 : Int32} (hG : gMM G) (hP : gNN μ) 
    (k0 : J l mX12_keepers (jZ0 10 G (pI φ)) G 0 0 27 [.ref 112, .null, .int x2, .int 0, .int 0] [] μ) :
    J l mX12_keepers (jZ0 10 G (pI φ)) G 0 0 22 [.ref 112, .null, .int x2, .null, .null] [] μ := by
  refine j_iconst 0 dX12_keepers_22 rfl (by decide) ?_
  refine j_istore_n (ls' := [.ref 112, .null, .int x2, .int 0, .null]) dX12_keepers_23 rfl rfl (Nat.le_of_ble_eq_true rfl) rfl ?_
  refine j_iconst 0 dX12_keepers_24 rfl (by decide) ?_
  refine j_istore (ls' := [.ref 112, .null, .int x2, .int 0, .int 0]) dX12_keepers_25 rfl (Nat.le_of_ble_eq_true rfl) rfl ?_
  exact k0 
theorem b_X12_keepers_27 {l : Launch} {G : jG} {μ : jM} {φ : Int32 → jM → Prop} {x2 x3 x4 : Int32} {ψ2 : Int32 → jM → Prop} (hG : gMM G) (hP : gNN μ) 
    (k0 : (16 ≤ (x4 : Int32)) → (¬ x2 = ((-1) : Int32)) → φ (-1) μ) 
    (k1 : (16 ≤ (x4 : Int32)) → (x2 = ((-1) : Int32)) → φ x3 μ) 
    (e2 : (¬ (16 ≤ (x4 : Int32))) → jC0 l mX12_isResting 0 G [.ref 112, .int x4] μ (pI ψ2)) 
    (k2 : (¬ (16 ≤ (x4 : Int32))) → ∀ v μ', ψ2 v μ' → J l mX12_keepers (jZ0 10 G (pI φ)) G 0 0 40 [.ref 112, .null, .int x2, .int x3, .int x4] [.int v] μ') :
    J l mX12_keepers (jZ0 10 G (pI φ)) G 0 0 27 [.ref 112, .null, .int x2, .int x3, .int x4] [] μ := by
  refine j_iload dX12_keepers_27 rfl rfl ?_
  refine j_bipush 16 dX12_keepers_29 rfl (by decide) ?_
  refine j_icmp_ge 73 dX12_keepers_31 rfl (by decide) (fun c0 => ?_) (fun c0 => ?_)
  · skip
    refine j_iload_n dX12_keepers_73 rfl rfl ?_
    refine j_iconst (-1) dX12_keepers_74 rfl (by decide) ?_
    refine j_icmp_ne 82 dX12_keepers_75 rfl (by decide) (fun c1 => ?_) (fun c1 => ?_)
    · skip
      refine j_iconst (-1) dX12_keepers_82 rfl (by decide) ?_
      exact j_iret dX12_keepers_83 rfl (k0 c0 c1)
    · skip
      refine j_iload_n dX12_keepers_78 rfl rfl ?_
      refine j_goto 83 dX12_keepers_79 (by decide) ?_
      exact j_iret dX12_keepers_83 rfl (k1 c0 c1)
  · skip
    refine j_aload_n dX12_keepers_34 rfl rfl ?_
    refine j_iload dX12_keepers_35 rfl rfl ?_
    refine j_cV (as := [.int x4]) (rest := []) dX12_keepers_37 rfl vw_X12_472 (hG 112 (17, 80) rfl) rfl ⟨Nat.le_of_ble_eq_true rfl, Nat.le_of_ble_eq_true rfl⟩ rfl rfl (fun _ _ => Nat.le_of_ble_eq_true rfl) (e2 c0) (fun r μ' hr => ?_)
    obtain ⟨v, rfl, hr⟩ := hr
    exact k2 c0 v μ' hr
theorem b_X12_keepers_40 {l : Launch} {G : jG} {μ : jM} {φ : Int32 → jM → Prop} {x2 x3 x4 z0 : Int32} (hG : gMM G) (hP : gNN μ) 
    (k0 : (¬ z0 = (0 : Int32)) → (¬ x3 = (x2 : Int32)) → J l mX12_keepers (jZ0 10 G (pI φ)) G 0 0 27 [.ref 112, .null, .int x2, .int (x3 + 1), .int (x4 + 1)] [] μ) 
    (k1 : (¬ z0 = (0 : Int32)) → (x3 = (x2 : Int32)) → φ (((x4 / 4) * 10) + (x4 - x4 / 4 * 4)) μ) 
    (k2 : (z0 = (0 : Int32)) → J l mX12_keepers (jZ0 10 G (pI φ)) G 0 0 27 [.ref 112, .null, .int x2, .int x3, .int (x4 + 1)] [] μ) :
    J l mX12_keepers (jZ0 10 G (pI φ)) G 0 0 40 [.ref 112, .null, .int x2, .int x3, .int x4] [.int z0] μ := by
  refine j_if_ne 46 dX12_keepers_40 rfl (by decide) (fun c0 => ?_) (fun c0 => ?_)
  · skip
    refine j_iload_n dX12_keepers_46 rfl rfl ?_
    refine j_iload_n dX12_keepers_47 rfl rfl ?_
    refine j_icmp_ne 64 dX12_keepers_48 rfl (by decide) (fun c1 => ?_) (fun c1 => ?_)
    · skip
      refine j_iinc (x3 + 1) (ls' := [.ref 112, .null, .int x2, .int (x3 + 1), .int x4]) dX12_keepers_64 rfl rfl rfl (Nat.le_of_ble_eq_true rfl) rfl ?_
      refine j_iinc (x4 + 1) (ls' := [.ref 112, .null, .int x2, .int (x3 + 1), .int (x4 + 1)]) dX12_keepers_67 rfl rfl rfl (Nat.le_of_ble_eq_true rfl) rfl ?_
      refine j_goto 27 dX12_keepers_70 (by decide) ?_
      exact k0 c0 c1
    · skip
      refine j_iload dX12_keepers_51 rfl rfl ?_
      refine j_iconst 4 dX12_keepers_53 rfl (by decide) ?_
      refine j_idiv dX12_keepers_54 rfl (by decide) ?_
      refine j_bipush 10 dX12_keepers_55 rfl (by decide) ?_
      refine j_imul dX12_keepers_57 rfl ?_
      refine j_iload dX12_keepers_58 rfl rfl ?_
      refine j_iconst 4 dX12_keepers_60 rfl (by decide) ?_
      refine j_irem dX12_keepers_61 rfl (by decide) ?_
      refine j_iadd dX12_keepers_62 rfl ?_
      exact j_iret dX12_keepers_63 rfl (k1 c0 c1)
  · skip
    refine j_goto 67 dX12_keepers_43 (by decide) ?_
    refine j_iinc (x4 + 1) (ls' := [.ref 112, .null, .int x2, .int x3, .int (x4 + 1)]) dX12_keepers_67 rfl rfl rfl (Nat.le_of_ble_eq_true rfl) rfl ?_
    refine j_goto 27 dX12_keepers_70 (by decide) ?_
    exact k2 c0
theorem b_X12_breaks_0 {l : Launch} {G : jG} {μ : jM} {φ : Int32 → jM → Prop} {x1 : Int32} {ψ0 : Int32 → jM → Prop} (hG : gMM G) (hP : gNN μ) 
    (e0 : jC0 l mX12_isRoad 1 G [.ref 112, .int x1] μ (pI ψ0)) 
    (k0 : ∀ v μ', ψ0 v μ' → J l mX12_breaks (jZ0 8 G (pI φ)) G 0 0 5 [.ref 112, .int x1, .null] [.int v] μ') :
    J l mX12_breaks (jZ0 8 G (pI φ)) G 0 0 0 [.ref 112, .int x1, .null] [] μ := by
  refine j_aload_n dX12_breaks_0 rfl rfl ?_
  refine j_iload_n dX12_breaks_1 rfl rfl ?_
  refine j_cV (as := [.int x1]) (rest := []) dX12_breaks_2 rfl vw_X12_427 (hG 112 (17, 80) rfl) rfl ⟨Nat.le_of_ble_eq_true rfl, Nat.le_of_ble_eq_true rfl⟩ rfl rfl (fun _ _ => Nat.le_of_ble_eq_true rfl) (e0 ) (fun r μ' hr => ?_)
  obtain ⟨v, rfl, hr⟩ := hr
  exact k0  v μ' hr
theorem b_X12_breaks_5 {l : Launch} {G : jG} {μ : jM} {φ : Int32 → jM → Prop} {x1 z0 : Int32} {ψ0 : jM → Prop} (hG : gMM G) (hP : gNN μ) 
    (e0 : (¬ z0 = (0 : Int32)) → jC0 l mX12_copies 1 G [.ref 112] μ (pV ψ0)) 
    (k0 : (¬ z0 = (0 : Int32)) → ∀ μ', ψ0 μ' → J l mX12_breaks (jZ0 8 G (pI φ)) G 0 0 14 [.ref 112, .int x1, .null] [] μ') 
    (k1 : (z0 = (0 : Int32)) → φ (-1) μ) :
    J l mX12_breaks (jZ0 8 G (pI φ)) G 0 0 5 [.ref 112, .int x1, .null] [.int z0] μ := by
  refine j_if_ne 10 dX12_breaks_5 rfl (by decide) (fun c0 => ?_) (fun c0 => ?_)
  · skip
    refine j_aload_n dX12_breaks_10 rfl rfl ?_
    refine j_cV (as := []) (rest := []) dX12_breaks_11 rfl vw_X12_430 (hG 112 (17, 80) rfl) rfl ⟨Nat.le_of_ble_eq_true rfl, Nat.le_of_ble_eq_true rfl⟩ rfl rfl (fun _ _ => Nat.le_of_ble_eq_true rfl) (e0 c0) (fun r μ' hr => ?_)
    obtain ⟨rfl, hr⟩ := hr
    exact k0 c0 μ' hr
  · skip
    refine j_iconst (-1) dX12_breaks_8 rfl (by decide) ?_
    exact j_iret dX12_breaks_9 rfl (k1 c0)
theorem b_X12_breaks_14 {l : Launch} {G : jG} {μ : jM} {φ : Int32 → jM → Prop} {x1 : Int32} (hG : gMM G) (hP : gNN μ) 
    (k0 : J l mX12_breaks (jZ0 8 G (pI φ)) G 0 0 16 [.ref 112, .int x1, .int 0] [] μ) :
    J l mX12_breaks (jZ0 8 G (pI φ)) G 0 0 14 [.ref 112, .int x1, .null] [] μ := by
  refine j_iconst 0 dX12_breaks_14 rfl (by decide) ?_
  refine j_istore_n (ls' := [.ref 112, .int x1, .int 0]) dX12_breaks_15 rfl rfl (Nat.le_of_ble_eq_true rfl) rfl ?_
  exact k0 
theorem b_X12_breaks_16 {l : Launch} {G : jG} {μ : jM} {φ : Int32 → jM → Prop} {x1 x2 : Int32} {ψ1 : Int32 → jM → Prop} (hG : gMM G) (hP : gNN μ) 
    (k0 : (200 < (x2 : Int32)) → φ (-2) μ) 
    (e1 : (¬ (200 < (x2 : Int32))) → jC0 l mX12_isDown 2 G [.ref 112, .int x1] μ (pI ψ1)) 
    (k1 : (¬ (200 < (x2 : Int32))) → ∀ v μ', ψ1 v μ' → J l mX12_breaks (jZ0 8 G (pI φ)) G 0 0 28 [.ref 112, .int x1, .int x2] [.int v] μ') :
    J l mX12_breaks (jZ0 8 G (pI φ)) G 0 0 16 [.ref 112, .int x1, .int x2] [] μ := by
  refine j_iload_n dX12_breaks_16 rfl rfl ?_
  refine j_sipush 200 dX12_breaks_17 rfl (by decide) ?_
  refine j_icmp_gt 43 dX12_breaks_20 rfl (by decide) (fun c0 => ?_) (fun c0 => ?_)
  · skip
    refine j_bipush (-2) dX12_breaks_43 rfl (by decide) ?_
    exact j_iret dX12_breaks_45 rfl (k0 c0)
  · skip
    refine j_aload_n dX12_breaks_23 rfl rfl ?_
    refine j_iload_n dX12_breaks_24 rfl rfl ?_
    refine j_cV (as := [.int x1]) (rest := []) dX12_breaks_25 rfl vw_X12_394 (hG 112 (17, 80) rfl) rfl ⟨Nat.le_of_ble_eq_true rfl, Nat.le_of_ble_eq_true rfl⟩ rfl rfl (fun _ _ => Nat.le_of_ble_eq_true rfl) (e1 c0) (fun r μ' hr => ?_)
    obtain ⟨v, rfl, hr⟩ := hr
    exact k1 c0 v μ' hr
theorem b_X12_breaks_28 {l : Launch} {G : jG} {μ : jM} {φ : Int32 → jM → Prop} {x1 x2 z0 : Int32} {ψ0 : jM → Prop} (hG : gMM G) (hP : gNN μ) 
    (e0 : (z0 = (0 : Int32)) → jC0 l mX12_nightGoes 7 G [.ref 112] μ (pV ψ0)) 
    (k0 : (z0 = (0 : Int32)) → ∀ μ', ψ0 μ' → J l mX12_breaks (jZ0 8 G (pI φ)) G 0 0 37 [.ref 112, .int x1, .int x2] [] μ') 
    (k1 : (¬ (z0 = (0 : Int32))) → φ x2 μ) :
    J l mX12_breaks (jZ0 8 G (pI φ)) G 0 0 28 [.ref 112, .int x1, .int x2] [.int z0] μ := by
  refine j_if_eq 33 dX12_breaks_28 rfl (by decide) (fun c0 => ?_) (fun c0 => ?_)
  · skip
    refine j_aload_n dX12_breaks_33 rfl rfl ?_
    refine j_cV (as := []) (rest := []) dX12_breaks_34 rfl vw_X12_424 (hG 112 (17, 80) rfl) rfl ⟨Nat.le_of_ble_eq_true rfl, Nat.le_of_ble_eq_true rfl⟩ rfl rfl (fun _ _ => Nat.le_of_ble_eq_true rfl) (e0 c0) (fun r μ' hr => ?_)
    obtain ⟨rfl, hr⟩ := hr
    exact k0 c0 μ' hr
  · skip
    refine j_iload_n dX12_breaks_31 rfl rfl ?_
    exact j_iret dX12_breaks_32 rfl (k1 c0)
theorem b_X12_breaks_37 {l : Launch} {G : jG} {μ : jM} {φ : Int32 → jM → Prop} {x1 x2 : Int32} (hG : gMM G) (hP : gNN μ) 
    (k0 : J l mX12_breaks (jZ0 8 G (pI φ)) G 0 0 16 [.ref 112, .int x1, .int (x2 + 1)] [] μ) :
    J l mX12_breaks (jZ0 8 G (pI φ)) G 0 0 37 [.ref 112, .int x1, .int x2] [] μ := by
  refine j_iinc (x2 + 1) (ls' := [.ref 112, .int x1, .int (x2 + 1)]) dX12_breaks_37 rfl rfl rfl (Nat.le_of_ble_eq_true rfl) rfl ?_
  refine j_goto 16 dX12_breaks_40 (by decide) ?_
  exact k0 
theorem b_X12_downNow_0 {l : Launch} {G : jG} {μ : jM} {φ : Int32 → jM → Prop} (hG : gMM G) (hP : gNN μ) 
    (k0 : J l mX12_downNow (jZ0 3 G (pI φ)) G 0 0 4 [.ref 112, .int 0, .int 0] [] μ) :
    J l mX12_downNow (jZ0 3 G (pI φ)) G 0 0 0 [.ref 112, .null, .null] [] μ := by
  refine j_iconst 0 dX12_downNow_0 rfl (by decide) ?_
  refine j_istore_n (ls' := [.ref 112, .int 0, .null]) dX12_downNow_1 rfl rfl (Nat.le_of_ble_eq_true rfl) rfl ?_
  refine j_iconst 0 dX12_downNow_2 rfl (by decide) ?_
  refine j_istore_n (ls' := [.ref 112, .int 0, .int 0]) dX12_downNow_3 rfl rfl (Nat.le_of_ble_eq_true rfl) rfl ?_
  exact k0 
theorem b_X12_downNow_4 {l : Launch} {G : jG} {μ : jM} {φ : Int32 → jM → Prop} {x1 x2 : Int32} {ψ1 : Int32 → jM → Prop} (hG : gMM G) (hP : gNN μ) 
    (o0 : vp_in (μ.1 112 18) 2) 
    (k0 : ((μ.1 123 (Int32.toNatClampNeg (μ.1 112 18))) ≤ (x2 : Int32)) → φ x1 μ) 
    (e1 : (¬ ((μ.1 123 (Int32.toNatClampNeg (μ.1 112 18))) ≤ (x2 : Int32))) → jC0 l mX12_isDown 2 G [.ref 112, .int x2] μ (pI ψ1)) 
    (k1 : (¬ ((μ.1 123 (Int32.toNatClampNeg (μ.1 112 18))) ≤ (x2 : Int32))) → ∀ v μ', ψ1 v μ' → J l mX12_downNow (jZ0 3 G (pI φ)) G 0 0 22 [.ref 112, .int x1, .int x2] [.int v] μ') :
    J l mX12_downNow (jZ0 3 G (pI φ)) G 0 0 4 [.ref 112, .int x1, .int x2] [] μ := by
  refine j_iload_n dX12_downNow_4 rfl rfl ?_
  refine j_aload_n dX12_downNow_5 rfl rfl ?_
  refine j_getR (ci := 12) (N := 80) (f := 24) (T := TX12) 123 dX12_downNow_6 rfl (hG 112 (17, 80) rfl) rfl (by decide) fl_X12_49 rfl (hP 112 24 123 rfl) ?_
  refine j_aload_n dX12_downNow_9 rfl rfl ?_
  refine j_getI (ci := 12) (N := 80) (f := 18) (T := TX12) dX12_downNow_10 rfl (hG 112 (17, 80) rfl) rfl (by decide) fl_X12_263 rfl ?_
  refine j_iald' (j := (Int32.toNatClampNeg (μ.1 112 18))) dX12_downNow_13 rfl (hG 123 (0, 2) rfl) o0 rfl ?_
  refine j_icmp_ge 37 dX12_downNow_14 rfl (by decide) (fun c0 => ?_) (fun c0 => ?_)
  · skip
    refine j_iload_n dX12_downNow_37 rfl rfl ?_
    exact j_iret dX12_downNow_38 rfl (k0 c0)
  · skip
    refine j_aload_n dX12_downNow_17 rfl rfl ?_
    refine j_iload_n dX12_downNow_18 rfl rfl ?_
    refine j_cV (as := [.int x2]) (rest := []) dX12_downNow_19 rfl vw_X12_394 (hG 112 (17, 80) rfl) rfl ⟨Nat.le_of_ble_eq_true rfl, Nat.le_of_ble_eq_true rfl⟩ rfl rfl (fun _ _ => Nat.le_of_ble_eq_true rfl) (e1 c0) (fun r μ' hr => ?_)
    obtain ⟨v, rfl, hr⟩ := hr
    exact k1 c0 v μ' hr
theorem b_X12_downNow_22 {l : Launch} {G : jG} {μ : jM} {φ : Int32 → jM → Prop} {x1 x2 z0 : Int32} (hG : gMM G) (hP : gNN μ) 
    (k0 : (z0 = (0 : Int32)) → J l mX12_downNow (jZ0 3 G (pI φ)) G 0 0 4 [.ref 112, .int x1, .int (x2 + 1)] [] μ) 
    (k1 : (¬ (z0 = (0 : Int32))) → J l mX12_downNow (jZ0 3 G (pI φ)) G 0 0 4 [.ref 112, .int (x1 ||| (1 <<< (x2 &&& 31))), .int (x2 + 1)] [] μ) :
    J l mX12_downNow (jZ0 3 G (pI φ)) G 0 0 22 [.ref 112, .int x1, .int x2] [.int z0] μ := by
  refine j_if_eq 31 dX12_downNow_22 rfl (by decide) (fun c0 => ?_) (fun c0 => ?_)
  · skip
    refine j_iinc (x2 + 1) (ls' := [.ref 112, .int x1, .int (x2 + 1)]) dX12_downNow_31 rfl rfl rfl (Nat.le_of_ble_eq_true rfl) rfl ?_
    refine j_goto 4 dX12_downNow_34 (by decide) ?_
    exact k0 c0
  · skip
    refine j_iload_n dX12_downNow_25 rfl rfl ?_
    refine j_iconst 1 dX12_downNow_26 rfl (by decide) ?_
    refine j_iload_n dX12_downNow_27 rfl rfl ?_
    refine j_ishl dX12_downNow_28 rfl ?_
    refine j_ior dX12_downNow_29 rfl ?_
    refine j_istore_n (ls' := [.ref 112, .int (x1 ||| (1 <<< (x2 &&& 31))), .int x2]) dX12_downNow_30 rfl rfl (Nat.le_of_ble_eq_true rfl) rfl ?_
    refine j_iinc (x2 + 1) (ls' := [.ref 112, .int (x1 ||| (1 <<< (x2 &&& 31))), .int (x2 + 1)]) dX12_downNow_31 rfl rfl rfl (Nat.le_of_ble_eq_true rfl) rfl ?_
    refine j_goto 4 dX12_downNow_34 (by decide) ?_
    exact k1 c0
theorem b_X12_first_0 {l : Launch} {G : jG} {μ : jM} {φ : Int32 → jM → Prop} {x1 : Int32} {ψ0 : Int32 → jM → Prop} (hG : gMM G) (hP : gNN μ) 
    (e0 : jC0 l mX12_in 0 G [.int x1, .int 0, .int 1] μ (pI ψ0)) 
    (k0 : ∀ v μ', ψ0 v μ' → J l mX12_first (jZ0 8 G (pI φ)) G 0 0 6 [.ref 112, .int x1, .null, .null, .null, .null] [.int v] μ') :
    J l mX12_first (jZ0 8 G (pI φ)) G 0 0 0 [.ref 112, .int x1, .null, .null, .null, .null] [] μ := by
  refine j_iload_n dX12_first_0 rfl rfl ?_
  refine j_iconst 0 dX12_first_1 rfl (by decide) ?_
  refine j_iconst 1 dX12_first_2 rfl (by decide) ?_
  refine j_cS (as := [.int x1, .int 0, .int 1]) (rest := []) dX12_first_3 rfl vw_X12_349 ⟨Nat.le_of_ble_eq_true rfl, Nat.le_of_ble_eq_true rfl⟩ rfl rfl (fun _ _ => Nat.le_of_ble_eq_true rfl) (e0 ) (fun r μ' hr => ?_)
  obtain ⟨v, rfl, hr⟩ := hr
  exact k0  v μ' hr
theorem b_X12_first_6 {l : Launch} {G : jG} {μ : jM} {φ : Int32 → jM → Prop} {x1 z0 : Int32} {ψ0 : jM → Prop} (hG : gMM G) (hP : gNN μ) 
    (e0 : (¬ z0 = (0 : Int32)) → jC0 l mX12_copies 1 G [.ref 112] μ (pV ψ0)) 
    (k0 : (¬ z0 = (0 : Int32)) → ∀ μ', ψ0 μ' → J l mX12_first (jZ0 8 G (pI φ)) G 0 0 15 [.ref 112, .int x1, .null, .null, .null, .null] [] μ') 
    (k1 : (z0 = (0 : Int32)) → φ (-1) μ) :
    J l mX12_first (jZ0 8 G (pI φ)) G 0 0 6 [.ref 112, .int x1, .null, .null, .null, .null] [.int z0] μ := by
  refine j_if_ne 11 dX12_first_6 rfl (by decide) (fun c0 => ?_) (fun c0 => ?_)
  · skip
    refine j_aload_n dX12_first_11 rfl rfl ?_
    refine j_cV (as := []) (rest := []) dX12_first_12 rfl vw_X12_430 (hG 112 (17, 80) rfl) rfl ⟨Nat.le_of_ble_eq_true rfl, Nat.le_of_ble_eq_true rfl⟩ rfl rfl (fun _ _ => Nat.le_of_ble_eq_true rfl) (e0 c0) (fun r μ' hr => ?_)
    obtain ⟨rfl, hr⟩ := hr
    exact k0 c0 μ' hr
  · skip
    refine j_iconst (-1) dX12_first_9 rfl (by decide) ?_
    exact j_iret dX12_first_10 rfl (k1 c0)
theorem b_X12_first_15 {l : Launch} {G : jG} {μ : jM} {φ : Int32 → jM → Prop} {x1 : Int32} {ψ0 : Int32 → jM → Prop} (hG : gMM G) (hP : gNN μ) 
    (e0 : jC0 l mX12_downNow 3 G [.ref 112] μ (pI ψ0)) 
    (k0 : ∀ v μ', ψ0 v μ' → J l mX12_first (jZ0 8 G (pI φ)) G 0 0 19 [.ref 112, .int x1, .null, .null, .null, .null] [.int v] μ') :
    J l mX12_first (jZ0 8 G (pI φ)) G 0 0 15 [.ref 112, .int x1, .null, .null, .null, .null] [] μ := by
  refine j_aload_n dX12_first_15 rfl rfl ?_
  refine j_cV (as := []) (rest := []) dX12_first_16 rfl vw_X12_475 (hG 112 (17, 80) rfl) rfl ⟨Nat.le_of_ble_eq_true rfl, Nat.le_of_ble_eq_true rfl⟩ rfl rfl (fun _ _ => Nat.le_of_ble_eq_true rfl) (e0 ) (fun r μ' hr => ?_)
  obtain ⟨v, rfl, hr⟩ := hr
  exact k0  v μ' hr
theorem b_X12_first_19 {l : Launch} {G : jG} {μ : jM} {φ : Int32 → jM → Prop} {x1 z0 : Int32} (hG : gMM G) (hP : gNN μ) 
    (k0 : J l mX12_first (jZ0 8 G (pI φ)) G 0 0 22 [.ref 112, .int x1, .int z0, .int 1, .null, .null] [] μ) :
    J l mX12_first (jZ0 8 G (pI φ)) G 0 0 19 [.ref 112, .int x1, .null, .null, .null, .null] [.int z0] μ := by
  refine j_istore_n (ls' := [.ref 112, .int x1, .int z0, .null, .null, .null]) dX12_first_19 rfl rfl (Nat.le_of_ble_eq_true rfl) rfl ?_
  refine j_iconst 1 dX12_first_20 rfl (by decide) ?_
  refine j_istore_n (ls' := [.ref 112, .int x1, .int z0, .int 1, .null, .null]) dX12_first_21 rfl rfl (Nat.le_of_ble_eq_true rfl) rfl ?_
  exact k0 
theorem b_X12_first_22 {l : Launch} {G : jG} {μ : jM} {φ : Int32 → jM → Prop} {x1 x2 x3 : Int32} {ψ1 : jM → Prop} (hG : gMM G) (hP : gNN μ) 
    (k0 : (200 < (x3 : Int32)) → φ (-2) μ) 
    (e1 : (¬ (200 < (x3 : Int32))) → jC0 l mX12_nightGoes 7 G [.ref 112] μ (pV ψ1)) 
    (k1 : (¬ (200 < (x3 : Int32))) → ∀ μ', ψ1 μ' → J l mX12_first (jZ0 8 G (pI φ)) G 0 0 33 [.ref 112, .int x1, .int x2, .int x3, .null, .null] [] μ') :
    J l mX12_first (jZ0 8 G (pI φ)) G 0 0 22 [.ref 112, .int x1, .int x2, .int x3, .null, .null] [] μ := by
  refine j_iload_n dX12_first_22 rfl rfl ?_
  refine j_sipush 200 dX12_first_23 rfl (by decide) ?_
  refine j_icmp_gt 94 dX12_first_26 rfl (by decide) (fun c0 => ?_) (fun c0 => ?_)
  · skip
    refine j_bipush (-2) dX12_first_94 rfl (by decide) ?_
    exact j_iret dX12_first_96 rfl (k0 c0)
  · skip
    refine j_aload_n dX12_first_29 rfl rfl ?_
    refine j_cV (as := []) (rest := []) dX12_first_30 rfl vw_X12_424 (hG 112 (17, 80) rfl) rfl ⟨Nat.le_of_ble_eq_true rfl, Nat.le_of_ble_eq_true rfl⟩ rfl rfl (fun _ _ => Nat.le_of_ble_eq_true rfl) (e1 c0) (fun r μ' hr => ?_)
    obtain ⟨rfl, hr⟩ := hr
    exact k1 c0 μ' hr
theorem b_X12_first_33 {l : Launch} {G : jG} {μ : jM} {φ : Int32 → jM → Prop} {x1 x2 x3 : Int32} {ψ0 : Int32 → jM → Prop} (hG : gMM G) (hP : gNN μ) 
    (e0 : jC0 l mX12_downNow 3 G [.ref 112] μ (pI ψ0)) 
    (k0 : ∀ v μ', ψ0 v μ' → J l mX12_first (jZ0 8 G (pI φ)) G 0 0 37 [.ref 112, .int x1, .int x2, .int x3, .null, .null] [.int v] μ') :
    J l mX12_first (jZ0 8 G (pI φ)) G 0 0 33 [.ref 112, .int x1, .int x2, .int x3, .null, .null] [] μ := by
  refine j_aload_n dX12_first_33 rfl rfl ?_
  refine j_cV (as := []) (rest := []) dX12_first_34 rfl vw_X12_475 (hG 112 (17, 80) rfl) rfl ⟨Nat.le_of_ble_eq_true rfl, Nat.le_of_ble_eq_true rfl⟩ rfl rfl (fun _ _ => Nat.le_of_ble_eq_true rfl) (e0 ) (fun r μ' hr => ?_)
  obtain ⟨v, rfl, hr⟩ := hr
  exact k0  v μ' hr
theorem b_X12_first_37 {l : Launch} {G : jG} {μ : jM} {φ : Int32 → jM → Prop} {x1 x2 x3 z0 : Int32} (hG : gMM G) (hP : gNN μ) 
    (k0 : J l mX12_first (jZ0 8 G (pI φ)) G 0 0 46 [.ref 112, .int x1, .int x2, .int x3, .int (z0 &&& (x2 ^^^ (-1))), .int 0] [] μ) :
    J l mX12_first (jZ0 8 G (pI φ)) G 0 0 37 [.ref 112, .int x1, .int x2, .int x3, .null, .null] [.int z0] μ := by
  refine j_iload_n dX12_first_37 rfl rfl ?_
  refine j_iconst (-1) dX12_first_38 rfl (by decide) ?_
  refine j_ixor dX12_first_39 rfl ?_
  refine j_iand dX12_first_40 rfl ?_
  refine j_istore (ls' := [.ref 112, .int x1, .int x2, .int x3, .int (z0 &&& (x2 ^^^ (-1))), .null]) dX12_first_41 rfl (Nat.le_of_ble_eq_true rfl) rfl ?_
  refine j_iconst 0 dX12_first_43 rfl (by decide) ?_
  refine j_istore (ls' := [.ref 112, .int x1, .int x2, .int x3, .int (z0 &&& (x2 ^^^ (-1))), .int 0]) dX12_first_44 rfl (Nat.le_of_ble_eq_true rfl) rfl ?_
  exact k0 
theorem b_X12_first_46 {l : Launch} {G : jG} {μ : jM} {φ : Int32 → jM → Prop} {x1 x2 x3 x4 x5 : Int32} (hG : gMM G) (hP : gNN μ) 
    (o0 : vp_in (μ.1 112 18) 2) 
    (k0 : ((μ.1 123 (Int32.toNatClampNeg (μ.1 112 18))) ≤ (x5 : Int32)) → J l mX12_first (jZ0 8 G (pI φ)) G 0 0 22 [.ref 112, .int x1, .int x2, .int (x3 + 1), .null, .null] [] μ) 
    (k1 : (¬ ((μ.1 123 (Int32.toNatClampNeg (μ.1 112 18))) ≤ (x5 : Int32))) → (¬ ((x4 >>> (x5 &&& 31)) &&& 1) = (1 : Int32)) → J l mX12_first (jZ0 8 G (pI φ)) G 0 0 46 [.ref 112, .int x1, .int x2, .int x3, .int x4, .int (x5 + 1)] [] μ) 
    (k2 : (¬ ((μ.1 123 (Int32.toNatClampNeg (μ.1 112 18))) ≤ (x5 : Int32))) → (((x4 >>> (x5 &&& 31)) &&& 1) = (1 : Int32)) → (¬ x1 = (0 : Int32)) → φ x3 μ) 
    (k3 : (¬ ((μ.1 123 (Int32.toNatClampNeg (μ.1 112 18))) ≤ (x5 : Int32))) → (((x4 >>> (x5 &&& 31)) &&& 1) = (1 : Int32)) → (x1 = (0 : Int32)) → φ x5 μ) :
    J l mX12_first (jZ0 8 G (pI φ)) G 0 0 46 [.ref 112, .int x1, .int x2, .int x3, .int x4, .int x5] [] μ := by
  refine j_iload dX12_first_46 rfl rfl ?_
  refine j_aload_n dX12_first_48 rfl rfl ?_
  refine j_getR (ci := 12) (N := 80) (f := 24) (T := TX12) 123 dX12_first_49 rfl (hG 112 (17, 80) rfl) rfl (by decide) fl_X12_49 rfl (hP 112 24 123 rfl) ?_
  refine j_aload_n dX12_first_52 rfl rfl ?_
  refine j_getI (ci := 12) (N := 80) (f := 18) (T := TX12) dX12_first_53 rfl (hG 112 (17, 80) rfl) rfl (by decide) fl_X12_263 rfl ?_
  refine j_iald' (j := (Int32.toNatClampNeg (μ.1 112 18))) dX12_first_56 rfl (hG 123 (0, 2) rfl) o0 rfl ?_
  refine j_icmp_ge 88 dX12_first_57 rfl (by decide) (fun c0 => ?_) (fun c0 => ?_)
  · skip
    refine j_iinc (x3 + 1) (ls' := [.ref 112, .int x1, .int x2, .int (x3 + 1), .int x4, .int x5]) dX12_first_88 rfl rfl rfl (Nat.le_of_ble_eq_true rfl) rfl ?_
    refine j_goto 22 dX12_first_91 (by decide) ?_
    refine j_forget (ls' := [.ref 112, .int x1, .int x2, .int (x3 + 1), .null, .null]) ⟨Or.inr rfl, Or.inr rfl, Or.inr rfl, Or.inr rfl, Or.inl rfl, Or.inl rfl, trivial⟩ ?_
    exact k0 c0
  · skip
    refine j_iload dX12_first_60 rfl rfl ?_
    refine j_iload dX12_first_62 rfl rfl ?_
    refine j_ishr dX12_first_64 rfl ?_
    refine j_iconst 1 dX12_first_65 rfl (by decide) ?_
    refine j_iand dX12_first_66 rfl ?_
    refine j_iconst 1 dX12_first_67 rfl (by decide) ?_
    refine j_icmp_ne 82 dX12_first_68 rfl (by decide) (fun c1 => ?_) (fun c1 => ?_)
    · skip
      refine j_iinc (x5 + 1) (ls' := [.ref 112, .int x1, .int x2, .int x3, .int x4, .int (x5 + 1)]) dX12_first_82 rfl rfl rfl (Nat.le_of_ble_eq_true rfl) rfl ?_
      refine j_goto 46 dX12_first_85 (by decide) ?_
      exact k1 c0 c1
    · skip
      refine j_iload_n dX12_first_71 rfl rfl ?_
      refine j_if_ne 80 dX12_first_72 rfl (by decide) (fun c2 => ?_) (fun c2 => ?_)
      · skip
        refine j_iload_n dX12_first_80 rfl rfl ?_
        exact j_iret dX12_first_81 rfl (k2 c0 c1 c2)
      · skip
        refine j_iload dX12_first_75 rfl rfl ?_
        refine j_goto 81 dX12_first_77 (by decide) ?_
        exact j_iret dX12_first_81 rfl (k3 c0 c1 c2)
theorem b_X12_meets_0 {l : Launch} {G : jG} {μ : jM} {φ : Int32 → jM → Prop} {x1 x2 : Int32} {ψ0 : Int32 → jM → Prop} (hG : gMM G) (hP : gNN μ) 
    (e0 : jC0 l mX12_isGhost 1 G [.ref 112, .int x1] μ (pI ψ0)) 
    (k0 : ∀ v μ', ψ0 v μ' → J l mX12_meets (jZ0 2 G (pI φ)) G 0 0 5 [.ref 112, .int x1, .int x2, .null] [.int v] μ') :
    J l mX12_meets (jZ0 2 G (pI φ)) G 0 0 0 [.ref 112, .int x1, .int x2, .null] [] μ := by
  refine j_aload_n dX12_meets_0 rfl rfl ?_
  refine j_iload_n dX12_meets_1 rfl rfl ?_
  refine j_cV (as := [.int x1]) (rest := []) dX12_meets_2 rfl vw_X12_433 (hG 112 (17, 80) rfl) rfl ⟨Nat.le_of_ble_eq_true rfl, Nat.le_of_ble_eq_true rfl⟩ rfl rfl (fun _ _ => Nat.le_of_ble_eq_true rfl) (e0 ) (fun r μ' hr => ?_)
  obtain ⟨v, rfl, hr⟩ := hr
  exact k0  v μ' hr
theorem b_X12_meets_5 {l : Launch} {G : jG} {μ : jM} {φ : Int32 → jM → Prop} {x1 x2 z0 : Int32} {ψ1 : Int32 → jM → Prop} (hG : gMM G) (hP : gNN μ) 
    (k0 : (z0 = (0 : Int32)) → φ (-1) μ) 
    (e1 : (¬ (z0 = (0 : Int32))) → jC0 l mX12_isGhost 1 G [.ref 112, .int x2] μ (pI ψ1)) 
    (k1 : (¬ (z0 = (0 : Int32))) → ∀ v μ', ψ1 v μ' → J l mX12_meets (jZ0 2 G (pI φ)) G 0 0 13 [.ref 112, .int x1, .int x2, .null] [.int v] μ') :
    J l mX12_meets (jZ0 2 G (pI φ)) G 0 0 5 [.ref 112, .int x1, .int x2, .null] [.int z0] μ := by
  refine j_if_eq 21 dX12_meets_5 rfl (by decide) (fun c0 => ?_) (fun c0 => ?_)
  · skip
    refine j_iconst (-1) dX12_meets_21 rfl (by decide) ?_
    exact j_iret dX12_meets_22 rfl (k0 c0)
  · skip
    refine j_aload_n dX12_meets_8 rfl rfl ?_
    refine j_iload_n dX12_meets_9 rfl rfl ?_
    refine j_cV (as := [.int x2]) (rest := []) dX12_meets_10 rfl vw_X12_433 (hG 112 (17, 80) rfl) rfl ⟨Nat.le_of_ble_eq_true rfl, Nat.le_of_ble_eq_true rfl⟩ rfl rfl (fun _ _ => Nat.le_of_ble_eq_true rfl) (e1 c0) (fun r μ' hr => ?_)
    obtain ⟨v, rfl, hr⟩ := hr
    exact k1 c0 v μ' hr
theorem b_X12_meets_13 {l : Launch} {G : jG} {μ : jM} {φ : Int32 → jM → Prop} {x1 x2 z0 : Int32} (hG : gMM G) (hP : gNN μ) 
    (k0 : (z0 = (0 : Int32)) → φ (-1) μ) 
    (k1 : (¬ (z0 = (0 : Int32))) → (¬ x1 = (x2 : Int32)) → J l mX12_meets (jZ0 2 G (pI φ)) G 0 0 31 [.ref 112, .int x1, .int x2, .int (μ.1 151 67)] [] μ) 
    (k2 : (¬ (z0 = (0 : Int32))) → (x1 = (x2 : Int32)) → φ (-1) μ) :
    J l mX12_meets (jZ0 2 G (pI φ)) G 0 0 13 [.ref 112, .int x1, .int x2, .null] [.int z0] μ := by
  refine j_if_eq 21 dX12_meets_13 rfl (by decide) (fun c0 => ?_) (fun c0 => ?_)
  · skip
    refine j_iconst (-1) dX12_meets_21 rfl (by decide) ?_
    exact j_iret dX12_meets_22 rfl (k0 c0)
  · skip
    refine j_iload_n dX12_meets_16 rfl rfl ?_
    refine j_iload_n dX12_meets_17 rfl rfl ?_
    refine j_icmp_ne 23 dX12_meets_18 rfl (by decide) (fun c1 => ?_) (fun c1 => ?_)
    · skip
      refine j_aload_n dX12_meets_23 rfl rfl ?_
      refine j_getR (ci := 12) (N := 80) (f := 56) (T := TX12) 151 dX12_meets_24 rfl (hG 112 (17, 80) rfl) rfl (by decide) fl_X12_134 rfl (hP 112 56 151 rfl) ?_
      refine j_bipush 67 dX12_meets_27 rfl (by decide) ?_
      refine j_iald' (j := 67) dX12_meets_29 rfl (hG 151 (0, 68) rfl) (vpK (by decide)) (by decide) ?_
      refine j_istore_n (ls' := [.ref 112, .int x1, .int x2, .int (μ.1 151 67)]) dX12_meets_30 rfl rfl (Nat.le_of_ble_eq_true rfl) rfl ?_
      exact k1 c0 c1
    · skip
      refine j_iconst (-1) dX12_meets_21 rfl (by decide) ?_
      exact j_iret dX12_meets_22 rfl (k2 c0 c1)
theorem b_X12_meets_31 {l : Launch} {G : jG} {μ : jM} {φ : Int32 → jM → Prop} {x1 x2 x3 : Int32} (hG : gMM G) (hP : gNN μ) 
    (k0 : (99 < (x3 : Int32)) → φ (-2) μ) 
    (o0 : (¬ (99 < (x3 : Int32))) → vp_in ((7 * (μ.1 112 18)) + x1) 14) 
    (o1 : (¬ (99 < (x3 : Int32))) → ¬ ((μ.1 134 (Int32.toNatClampNeg ((7 * (μ.1 112 18)) + x1))) : Int32) = 0) 
    (k1 : (¬ (99 < (x3 : Int32))) → (¬ (x3 - x3 / (μ.1 134 (Int32.toNatClampNeg ((7 * (μ.1 112 18)) + x1))) * (μ.1 134 (Int32.toNatClampNeg ((7 * (μ.1 112 18)) + x1)))) = (0 : Int32)) → J l mX12_meets (jZ0 2 G (pI φ)) G 0 0 31 [.ref 112, .int x1, .int x2, .int (x3 + 1)] [] μ) 
    (o2 : (¬ (99 < (x3 : Int32))) → ((x3 - x3 / (μ.1 134 (Int32.toNatClampNeg ((7 * (μ.1 112 18)) + x1))) * (μ.1 134 (Int32.toNatClampNeg ((7 * (μ.1 112 18)) + x1)))) = (0 : Int32)) → vp_in ((7 * (μ.1 112 18)) + x2) 14) 
    (o3 : (¬ (99 < (x3 : Int32))) → ((x3 - x3 / (μ.1 134 (Int32.toNatClampNeg ((7 * (μ.1 112 18)) + x1))) * (μ.1 134 (Int32.toNatClampNeg ((7 * (μ.1 112 18)) + x1)))) = (0 : Int32)) → ¬ ((μ.1 134 (Int32.toNatClampNeg ((7 * (μ.1 112 18)) + x2))) : Int32) = 0) 
    (k2 : (¬ (99 < (x3 : Int32))) → ((x3 - x3 / (μ.1 134 (Int32.toNatClampNeg ((7 * (μ.1 112 18)) + x1))) * (μ.1 134 (Int32.toNatClampNeg ((7 * (μ.1 112 18)) + x1)))) = (0 : Int32)) → (¬ (x3 - x3 / (μ.1 134 (Int32.toNatClampNeg ((7 * (μ.1 112 18)) + x2))) * (μ.1 134 (Int32.toNatClampNeg ((7 * (μ.1 112 18)) + x2)))) = (0 : Int32)) → J l mX12_meets (jZ0 2 G (pI φ)) G 0 0 31 [.ref 112, .int x1, .int x2, .int (x3 + 1)] [] μ) 
    (k3 : (¬ (99 < (x3 : Int32))) → ((x3 - x3 / (μ.1 134 (Int32.toNatClampNeg ((7 * (μ.1 112 18)) + x1))) * (μ.1 134 (Int32.toNatClampNeg ((7 * (μ.1 112 18)) + x1)))) = (0 : Int32)) → ((x3 - x3 / (μ.1 134 (Int32.toNatClampNeg ((7 * (μ.1 112 18)) + x2))) * (μ.1 134 (Int32.toNatClampNeg ((7 * (μ.1 112 18)) + x2)))) = (0 : Int32)) → φ x3 μ) :
    J l mX12_meets (jZ0 2 G (pI φ)) G 0 0 31 [.ref 112, .int x1, .int x2, .int x3] [] μ := by
  refine j_iload_n dX12_meets_31 rfl rfl ?_
  refine j_bipush 99 dX12_meets_32 rfl (by decide) ?_
  refine j_icmp_gt 83 dX12_meets_34 rfl (by decide) (fun c0 => ?_) (fun c0 => ?_)
  · skip
    refine j_bipush (-2) dX12_meets_83 rfl (by decide) ?_
    exact j_iret dX12_meets_85 rfl (k0 c0)
  · skip
    refine j_iload_n dX12_meets_37 rfl rfl ?_
    refine j_aload_n dX12_meets_38 rfl rfl ?_
    refine j_getR (ci := 12) (N := 80) (f := 35) (T := TX12) 134 dX12_meets_39 rfl (hG 112 (17, 80) rfl) rfl (by decide) fl_X12_83 rfl (hP 112 35 134 rfl) ?_
    refine j_bipush 7 dX12_meets_42 rfl (by decide) ?_
    refine j_aload_n dX12_meets_44 rfl rfl ?_
    refine j_getI (ci := 12) (N := 80) (f := 18) (T := TX12) dX12_meets_45 rfl (hG 112 (17, 80) rfl) rfl (by decide) fl_X12_263 rfl ?_
    refine j_imul dX12_meets_48 rfl ?_
    refine j_iload_n dX12_meets_49 rfl rfl ?_
    refine j_iadd dX12_meets_50 rfl ?_
    refine j_iald' (j := (Int32.toNatClampNeg ((7 * (μ.1 112 18)) + x1))) dX12_meets_51 rfl (hG 134 (0, 14) rfl) (o0 c0) rfl ?_
    refine j_irem dX12_meets_52 rfl (o1 c0) ?_
    refine j_if_ne 77 dX12_meets_53 rfl (by decide) (fun c1 => ?_) (fun c1 => ?_)
    · skip
      refine j_iinc (x3 + 1) (ls' := [.ref 112, .int x1, .int x2, .int (x3 + 1)]) dX12_meets_77 rfl rfl rfl (Nat.le_of_ble_eq_true rfl) rfl ?_
      refine j_goto 31 dX12_meets_80 (by decide) ?_
      exact k1 c0 c1
    · skip
      refine j_iload_n dX12_meets_56 rfl rfl ?_
      refine j_aload_n dX12_meets_57 rfl rfl ?_
      refine j_getR (ci := 12) (N := 80) (f := 35) (T := TX12) 134 dX12_meets_58 rfl (hG 112 (17, 80) rfl) rfl (by decide) fl_X12_83 rfl (hP 112 35 134 rfl) ?_
      refine j_bipush 7 dX12_meets_61 rfl (by decide) ?_
      refine j_aload_n dX12_meets_63 rfl rfl ?_
      refine j_getI (ci := 12) (N := 80) (f := 18) (T := TX12) dX12_meets_64 rfl (hG 112 (17, 80) rfl) rfl (by decide) fl_X12_263 rfl ?_
      refine j_imul dX12_meets_67 rfl ?_
      refine j_iload_n dX12_meets_68 rfl rfl ?_
      refine j_iadd dX12_meets_69 rfl ?_
      refine j_iald' (j := (Int32.toNatClampNeg ((7 * (μ.1 112 18)) + x2))) dX12_meets_70 rfl (hG 134 (0, 14) rfl) (o2 c0 c1) rfl ?_
      refine j_irem dX12_meets_71 rfl (o3 c0 c1) ?_
      refine j_if_ne 77 dX12_meets_72 rfl (by decide) (fun c2 => ?_) (fun c2 => ?_)
      · skip
        refine j_iinc (x3 + 1) (ls' := [.ref 112, .int x1, .int x2, .int (x3 + 1)]) dX12_meets_77 rfl rfl rfl (Nat.le_of_ble_eq_true rfl) rfl ?_
        refine j_goto 31 dX12_meets_80 (by decide) ?_
        exact k2 c0 c1 c2
      · skip
        refine j_iload_n dX12_meets_75 rfl rfl ?_
        exact j_iret dX12_meets_76 rfl (k3 c0 c1 c2)
theorem b_X12_cutOff_0 {l : Launch} {G : jG} {μ : jM} {φ : Int32 → jM → Prop} {x1 : Int32} {ψ0 : Int32 → jM → Prop} (hG : gMM G) (hP : gNN μ) 
    (e0 : jC0 l mX12_isGhost 1 G [.ref 112, .int x1] μ (pI ψ0)) 
    (k0 : ∀ v μ', ψ0 v μ' → J l mX12_cutOff (jZ0 8 G (pI φ)) G 0 0 5 [.ref 112, .int x1, .null] [.int v] μ') :
    J l mX12_cutOff (jZ0 8 G (pI φ)) G 0 0 0 [.ref 112, .int x1, .null] [] μ := by
  refine j_aload_n dX12_cutOff_0 rfl rfl ?_
  refine j_iload_n dX12_cutOff_1 rfl rfl ?_
  refine j_cV (as := [.int x1]) (rest := []) dX12_cutOff_2 rfl vw_X12_433 (hG 112 (17, 80) rfl) rfl ⟨Nat.le_of_ble_eq_true rfl, Nat.le_of_ble_eq_true rfl⟩ rfl rfl (fun _ _ => Nat.le_of_ble_eq_true rfl) (e0 ) (fun r μ' hr => ?_)
  obtain ⟨v, rfl, hr⟩ := hr
  exact k0  v μ' hr
theorem b_X12_cutOff_5 {l : Launch} {G : jG} {μ : jM} {φ : Int32 → jM → Prop} {x1 z0 : Int32} {ψ0 : jM → Prop} (hG : gMM G) (hP : gNN μ) 
    (e0 : (¬ z0 = (0 : Int32)) → jC0 l mX12_copies 1 G [.ref 112] μ (pV ψ0)) 
    (k0 : (¬ z0 = (0 : Int32)) → ∀ μ', ψ0 μ' → J l mX12_cutOff (jZ0 8 G (pI φ)) G 0 0 14 [.ref 112, .int x1, .null] [] μ') 
    (k1 : (z0 = (0 : Int32)) → φ (-1) μ) :
    J l mX12_cutOff (jZ0 8 G (pI φ)) G 0 0 5 [.ref 112, .int x1, .null] [.int z0] μ := by
  refine j_if_ne 10 dX12_cutOff_5 rfl (by decide) (fun c0 => ?_) (fun c0 => ?_)
  · skip
    refine j_aload_n dX12_cutOff_10 rfl rfl ?_
    refine j_cV (as := []) (rest := []) dX12_cutOff_11 rfl vw_X12_430 (hG 112 (17, 80) rfl) rfl ⟨Nat.le_of_ble_eq_true rfl, Nat.le_of_ble_eq_true rfl⟩ rfl rfl (fun _ _ => Nat.le_of_ble_eq_true rfl) (e0 c0) (fun r μ' hr => ?_)
    obtain ⟨rfl, hr⟩ := hr
    exact k0 c0 μ' hr
  · skip
    refine j_iconst (-1) dX12_cutOff_8 rfl (by decide) ?_
    exact j_iret dX12_cutOff_9 rfl (k1 c0)
theorem b_X12_cutOff_14 {l : Launch} {G : jG} {μ : jM} {φ : Int32 → jM → Prop} {x1 : Int32} (hG : gMM G) (hP : gNN μ) 
    (k0 : J l mX12_cutOff (jZ0 8 G (pI φ)) G 0 0 16 [.ref 112, .int x1, .int 0] [] μ) :
    J l mX12_cutOff (jZ0 8 G (pI φ)) G 0 0 14 [.ref 112, .int x1, .null] [] μ := by
  refine j_iconst 0 dX12_cutOff_14 rfl (by decide) ?_
  refine j_istore_n (ls' := [.ref 112, .int x1, .int 0]) dX12_cutOff_15 rfl rfl (Nat.le_of_ble_eq_true rfl) rfl ?_
  exact k0 
theorem b_X12_cutOff_16 {l : Launch} {G : jG} {μ : jM} {φ : Int32 → jM → Prop} {x1 x2 : Int32} {ψ1 : Int32 → jM → Prop} (hG : gMM G) (hP : gNN μ) 
    (k0 : (200 < (x2 : Int32)) → φ (-2) μ) 
    (e1 : (¬ (200 < (x2 : Int32))) → jC0 l mX12_findsWay 6 G [.ref 112, .int x1] μ (pI ψ1)) 
    (k1 : (¬ (200 < (x2 : Int32))) → ∀ v μ', ψ1 v μ' → J l mX12_cutOff (jZ0 8 G (pI φ)) G 0 0 28 [.ref 112, .int x1, .int x2] [.int v] μ') :
    J l mX12_cutOff (jZ0 8 G (pI φ)) G 0 0 16 [.ref 112, .int x1, .int x2] [] μ := by
  refine j_iload_n dX12_cutOff_16 rfl rfl ?_
  refine j_sipush 200 dX12_cutOff_17 rfl (by decide) ?_
  refine j_icmp_gt 43 dX12_cutOff_20 rfl (by decide) (fun c0 => ?_) (fun c0 => ?_)
  · skip
    refine j_bipush (-2) dX12_cutOff_43 rfl (by decide) ?_
    exact j_iret dX12_cutOff_45 rfl (k0 c0)
  · skip
    refine j_aload_n dX12_cutOff_23 rfl rfl ?_
    refine j_iload_n dX12_cutOff_24 rfl rfl ?_
    refine j_cV (as := [.int x1]) (rest := []) dX12_cutOff_25 rfl vw_X12_418 (hG 112 (17, 80) rfl) rfl ⟨Nat.le_of_ble_eq_true rfl, Nat.le_of_ble_eq_true rfl⟩ rfl rfl (fun _ _ => Nat.le_of_ble_eq_true rfl) (e1 c0) (fun r μ' hr => ?_)
    obtain ⟨v, rfl, hr⟩ := hr
    exact k1 c0 v μ' hr
theorem b_X12_cutOff_28 {l : Launch} {G : jG} {μ : jM} {φ : Int32 → jM → Prop} {x1 x2 z0 : Int32} {ψ0 : jM → Prop} (hG : gMM G) (hP : gNN μ) 
    (e0 : (¬ z0 = (0 : Int32)) → jC0 l mX12_nightGoes 7 G [.ref 112] μ (pV ψ0)) 
    (k0 : (¬ z0 = (0 : Int32)) → ∀ μ', ψ0 μ' → J l mX12_cutOff (jZ0 8 G (pI φ)) G 0 0 37 [.ref 112, .int x1, .int x2] [] μ') 
    (k1 : (z0 = (0 : Int32)) → φ x2 μ) :
    J l mX12_cutOff (jZ0 8 G (pI φ)) G 0 0 28 [.ref 112, .int x1, .int x2] [.int z0] μ := by
  refine j_if_ne 33 dX12_cutOff_28 rfl (by decide) (fun c0 => ?_) (fun c0 => ?_)
  · skip
    refine j_aload_n dX12_cutOff_33 rfl rfl ?_
    refine j_cV (as := []) (rest := []) dX12_cutOff_34 rfl vw_X12_424 (hG 112 (17, 80) rfl) rfl ⟨Nat.le_of_ble_eq_true rfl, Nat.le_of_ble_eq_true rfl⟩ rfl rfl (fun _ _ => Nat.le_of_ble_eq_true rfl) (e0 c0) (fun r μ' hr => ?_)
    obtain ⟨rfl, hr⟩ := hr
    exact k0 c0 μ' hr
  · skip
    refine j_iload_n dX12_cutOff_31 rfl rfl ?_
    exact j_iret dX12_cutOff_32 rfl (k1 c0)
theorem b_X12_cutOff_37 {l : Launch} {G : jG} {μ : jM} {φ : Int32 → jM → Prop} {x1 x2 : Int32} (hG : gMM G) (hP : gNN μ) 
    (k0 : J l mX12_cutOff (jZ0 8 G (pI φ)) G 0 0 16 [.ref 112, .int x1, .int (x2 + 1)] [] μ) :
    J l mX12_cutOff (jZ0 8 G (pI φ)) G 0 0 37 [.ref 112, .int x1, .int x2] [] μ := by
  refine j_iinc (x2 + 1) (ls' := [.ref 112, .int x1, .int (x2 + 1)]) dX12_cutOff_37 rfl rfl rfl (Nat.le_of_ble_eq_true rfl) rfl ?_
  refine j_goto 16 dX12_cutOff_40 (by decide) ?_
  exact k0 
theorem b_X12_year_0 {l : Launch} {G : jG} {μ : jM} {φ : Int32 → jM → Prop} {x1 x2 : Int32} {ψ0 : Int32 → jM → Prop} (hG : gMM G) (hP : gNN μ) 
    (e0 : jC0 l mX12_isLong 1 G [.int x1] μ (pI ψ0)) 
    (k0 : ∀ v μ', ψ0 v μ' → J l mX12_year (jZ0 9 G (pI φ)) G 0 0 4 [.ref 112, .int x1, .int x2, .null, .null] [.int v] μ') :
    J l mX12_year (jZ0 9 G (pI φ)) G 0 0 0 [.ref 112, .int x1, .int x2, .null, .null] [] μ := by
  refine j_iload_n dX12_year_0 rfl rfl ?_
  refine j_cS (as := [.int x1]) (rest := []) dX12_year_1 rfl vw_X12_466 ⟨Nat.le_of_ble_eq_true rfl, Nat.le_of_ble_eq_true rfl⟩ rfl rfl (fun _ _ => Nat.le_of_ble_eq_true rfl) (e0 ) (fun r μ' hr => ?_)
  obtain ⟨v, rfl, hr⟩ := hr
  exact k0  v μ' hr
theorem b_X12_year_4 {l : Launch} {G : jG} {μ : jM} {φ : Int32 → jM → Prop} {x1 x2 z0 : Int32} {ψ1 : Int32 → jM → Prop} (hG : gMM G) (hP : gNN μ) 
    (k0 : (z0 = (0 : Int32)) → φ (-1) μ) 
    (e1 : (¬ (z0 = (0 : Int32))) → jC0 l mX12_in 0 G [.int x2, .int 1, .int 20] μ (pI ψ1)) 
    (k1 : (¬ (z0 = (0 : Int32))) → ∀ v μ', ψ1 v μ' → J l mX12_year (jZ0 9 G (pI φ)) G 0 0 14 [.ref 112, .int x1, .int x2, .null, .null] [.int v] μ') :
    J l mX12_year (jZ0 9 G (pI φ)) G 0 0 4 [.ref 112, .int x1, .int x2, .null, .null] [.int z0] μ := by
  refine j_if_eq 17 dX12_year_4 rfl (by decide) (fun c0 => ?_) (fun c0 => ?_)
  · skip
    refine j_iconst (-1) dX12_year_17 rfl (by decide) ?_
    exact j_iret dX12_year_18 rfl (k0 c0)
  · skip
    refine j_iload_n dX12_year_7 rfl rfl ?_
    refine j_iconst 1 dX12_year_8 rfl (by decide) ?_
    refine j_bipush 20 dX12_year_9 rfl (by decide) ?_
    refine j_cS (as := [.int x2, .int 1, .int 20]) (rest := []) dX12_year_11 rfl vw_X12_349 ⟨Nat.le_of_ble_eq_true rfl, Nat.le_of_ble_eq_true rfl⟩ rfl rfl (fun _ _ => Nat.le_of_ble_eq_true rfl) (e1 c0) (fun r μ' hr => ?_)
    obtain ⟨v, rfl, hr⟩ := hr
    exact k1 c0 v μ' hr
theorem b_X12_year_14 {l : Launch} {G : jG} {μ : jM} {φ : Int32 → jM → Prop} {x1 x2 z0 : Int32} (hG : gMM G) (hP : gNN μ) 
    (k0 : (¬ z0 = (0 : Int32)) → J l mX12_year (jZ0 9 G (pI φ)) G 0 0 24 [.ref 112, .int x1, .int x2, .int 0, .int 0] [] μ) 
    (k1 : (z0 = (0 : Int32)) → φ (-1) μ) :
    J l mX12_year (jZ0 9 G (pI φ)) G 0 0 14 [.ref 112, .int x1, .int x2, .null, .null] [.int z0] μ := by
  refine j_if_ne 19 dX12_year_14 rfl (by decide) (fun c0 => ?_) (fun c0 => ?_)
  · skip
    refine j_iconst 0 dX12_year_19 rfl (by decide) ?_
    refine j_istore_n (ls' := [.ref 112, .int x1, .int x2, .int 0, .null]) dX12_year_20 rfl rfl (Nat.le_of_ble_eq_true rfl) rfl ?_
    refine j_iconst 0 dX12_year_21 rfl (by decide) ?_
    refine j_istore (ls' := [.ref 112, .int x1, .int x2, .int 0, .int 0]) dX12_year_22 rfl (Nat.le_of_ble_eq_true rfl) rfl ?_
    exact k0 c0
  · skip
    refine j_iconst (-1) dX12_year_17 rfl (by decide) ?_
    exact j_iret dX12_year_18 rfl (k1 c0)
theorem b_X12_year_24 {l : Launch} {G : jG} {μ : jM} {φ : Int32 → jM → Prop} {x1 x2 x3 x4 : Int32} {ψ1 : jM → Prop} (hG : gMM G) (hP : gNN μ) 
    (k0 : (x2 ≤ (x4 : Int32)) → φ x3 μ) 
    (e1 : (¬ (x2 ≤ (x4 : Int32))) → jC0 l mX12_copies 1 G [.ref 112] μ (pV ψ1)) 
    (k1 : (¬ (x2 ≤ (x4 : Int32))) → ∀ μ', ψ1 μ' → J l mX12_year (jZ0 9 G (pI φ)) G 0 0 34 [.ref 112, .int x1, .int x2, .int x3, .int x4] [] μ') :
    J l mX12_year (jZ0 9 G (pI φ)) G 0 0 24 [.ref 112, .int x1, .int x2, .int x3, .int x4] [] μ := by
  refine j_iload dX12_year_24 rfl rfl ?_
  refine j_iload_n dX12_year_26 rfl rfl ?_
  refine j_icmp_ge 74 dX12_year_27 rfl (by decide) (fun c0 => ?_) (fun c0 => ?_)
  · skip
    refine j_iload_n dX12_year_74 rfl rfl ?_
    exact j_iret dX12_year_75 rfl (k0 c0)
  · skip
    refine j_aload_n dX12_year_30 rfl rfl ?_
    refine j_cV (as := []) (rest := []) dX12_year_31 rfl vw_X12_430 (hG 112 (17, 80) rfl) rfl ⟨Nat.le_of_ble_eq_true rfl, Nat.le_of_ble_eq_true rfl⟩ rfl rfl (fun _ _ => Nat.le_of_ble_eq_true rfl) (e1 c0) (fun r μ' hr => ?_)
    obtain ⟨rfl, hr⟩ := hr
    exact k1 c0 μ' hr
theorem b_X12_year_34 {l : Launch} {G : jG} {μ : jM} {φ : Int32 → jM → Prop} {x1 x2 x3 x4 : Int32} {ψ0 : jM → Prop} (hG : gMM G) (hP : gNN μ) 
    (e0 : jC0 l mX12_goes 8 G [.ref 112, .int x1] (wI μ 112 58 ((μ.1 112 58) + x4)) (pV ψ0)) 
    (k0 : ∀ μ', ψ0 μ' → J l mX12_year (jZ0 9 G (pI φ)) G 0 0 50 [.ref 112, .int x1, .int x2, .int x3, .int x4] [] μ') :
    J l mX12_year (jZ0 9 G (pI φ)) G 0 0 34 [.ref 112, .int x1, .int x2, .int x3, .int x4] [] μ := by
  refine j_aload_n dX12_year_34 rfl rfl ?_
  refine j_dup dX12_year_35 rfl (fun _ _ => rfl) ?_
  refine j_getI (ci := 12) (N := 80) (f := 58) (T := TX12) dX12_year_36 rfl (hG 112 (17, 80) rfl) rfl (by decide) fl_X12_353 rfl ?_
  refine j_iload dX12_year_39 rfl rfl ?_
  refine j_iadd dX12_year_41 rfl ?_
  refine j_putI (ci := 12) (N := 80) (f := 58) (T := TX12) dX12_year_42 rfl (hG 112 (17, 80) rfl) rfl (by decide) fl_X12_353 rfl rfl ?_
  refine j_aload_n dX12_year_45 rfl rfl ?_
  refine j_iload_n dX12_year_46 rfl rfl ?_
  refine j_cV (as := [.int x1]) (rest := []) dX12_year_47 rfl vw_X12_442 (hG 112 (17, 80) rfl) rfl ⟨Nat.le_of_ble_eq_true rfl, Nat.le_of_ble_eq_true rfl⟩ rfl rfl (fun _ _ => Nat.le_of_ble_eq_true rfl) (e0 ) (fun r μ' hr => ?_)
  obtain ⟨rfl, hr⟩ := hr
  exact k0  μ' hr
theorem b_X12_year_50 {l : Launch} {G : jG} {μ : jM} {φ : Int32 → jM → Prop} {x1 x2 x3 x4 : Int32} (hG : gMM G) (hP : gNN μ) 
    (k0 : J l mX12_year (jZ0 9 G (pI φ)) G 0 0 24 [.ref 112, .int x1, .int x2, .int (x3 + ((μ.1 152 66) - (μ.1 151 66))), .int (x4 + 1)] [] μ) :
    J l mX12_year (jZ0 9 G (pI φ)) G 0 0 50 [.ref 112, .int x1, .int x2, .int x3, .int x4] [] μ := by
  refine j_iload_n dX12_year_50 rfl rfl ?_
  refine j_aload_n dX12_year_51 rfl rfl ?_
  refine j_getR (ci := 12) (N := 80) (f := 57) (T := TX12) 152 dX12_year_52 rfl (hG 112 (17, 80) rfl) rfl (by decide) fl_X12_137 rfl (hP 112 57 152 rfl) ?_
  refine j_bipush 66 dX12_year_55 rfl (by decide) ?_
  refine j_iald' (j := 66) dX12_year_57 rfl (hG 152 (0, 68) rfl) (vpK (by decide)) (by decide) ?_
  refine j_aload_n dX12_year_58 rfl rfl ?_
  refine j_getR (ci := 12) (N := 80) (f := 56) (T := TX12) 151 dX12_year_59 rfl (hG 112 (17, 80) rfl) rfl (by decide) fl_X12_134 rfl (hP 112 56 151 rfl) ?_
  refine j_bipush 66 dX12_year_62 rfl (by decide) ?_
  refine j_iald' (j := 66) dX12_year_64 rfl (hG 151 (0, 68) rfl) (vpK (by decide)) (by decide) ?_
  refine j_isub dX12_year_65 rfl ?_
  refine j_iadd dX12_year_66 rfl ?_
  refine j_istore_n (ls' := [.ref 112, .int x1, .int x2, .int (x3 + ((μ.1 152 66) - (μ.1 151 66))), .int x4]) dX12_year_67 rfl rfl (Nat.le_of_ble_eq_true rfl) rfl ?_
  refine j_iinc (x4 + 1) (ls' := [.ref 112, .int x1, .int x2, .int (x3 + ((μ.1 152 66) - (μ.1 151 66))), .int (x4 + 1)]) dX12_year_68 rfl rfl rfl (Nat.le_of_ble_eq_true rfl) rfl ?_
  refine j_goto 24 dX12_year_71 (by decide) ?_
  exact k0 
theorem b_X12_common_0 {l : Launch} {G : jG} {μ : jM} {φ : Int32 → jM → Prop} {x0 x1 : Int32} (hG : gMM G) (hP : gNN μ) 
    (k0 : J l mX12_common (jZ0 0 G (pI φ)) G 0 0 4 [.null, .null, .int x0, .int x1, .null] [] μ) :
    J l mX12_common (jZ0 0 G (pI φ)) G 0 0 0 [.int x0, .int x1, .null, .null, .null] [] μ := by
  refine j_iload_n dX12_common_0 rfl rfl ?_
  refine j_istore_n (ls' := [.int x0, .int x1, .int x0, .null, .null]) dX12_common_1 rfl rfl (Nat.le_of_ble_eq_true rfl) rfl ?_
  refine j_iload_n dX12_common_2 rfl rfl ?_
  refine j_istore_n (ls' := [.int x0, .int x1, .int x0, .int x1, .null]) dX12_common_3 rfl rfl (Nat.le_of_ble_eq_true rfl) rfl ?_
  refine j_forget (ls' := [.null, .null, .int x0, .int x1, .null]) ⟨Or.inl rfl, Or.inl rfl, Or.inr rfl, Or.inr rfl, Or.inr rfl, trivial⟩ ?_
  exact k0 
theorem b_X12_common_4 {l : Launch} {G : jG} {μ : jM} {φ : Int32 → jM → Prop} {x2 x3 : Int32} (hG : gMM G) (hP : gNN μ) 
    (k0 : (x3 = (0 : Int32)) → φ x2 μ) 
    (o0 : (¬ (x3 = (0 : Int32))) → ¬ (x3 : Int32) = 0) 
    (k1 : (¬ (x3 = (0 : Int32))) → J l mX12_common (jZ0 0 G (pI φ)) G 0 0 4 [.null, .null, .int x3, .int (x2 - x2 / x3 * x3), .null] [] μ) :
    J l mX12_common (jZ0 0 G (pI φ)) G 0 0 4 [.null, .null, .int x2, .int x3, .null] [] μ := by
  refine j_iload_n dX12_common_4 rfl rfl ?_
  refine j_if_eq 21 dX12_common_5 rfl (by decide) (fun c0 => ?_) (fun c0 => ?_)
  · skip
    refine j_iload_n dX12_common_21 rfl rfl ?_
    exact j_iret dX12_common_22 rfl (k0 c0)
  · skip
    refine j_iload_n dX12_common_8 rfl rfl ?_
    refine j_iload_n dX12_common_9 rfl rfl ?_
    refine j_irem dX12_common_10 rfl (o0 c0) ?_
    refine j_istore (ls' := [.null, .null, .int x2, .int x3, .int (x2 - x2 / x3 * x3)]) dX12_common_11 rfl (Nat.le_of_ble_eq_true rfl) rfl ?_
    refine j_iload_n dX12_common_13 rfl rfl ?_
    refine j_istore_n (ls' := [.null, .null, .int x3, .int x3, .int (x2 - x2 / x3 * x3)]) dX12_common_14 rfl rfl (Nat.le_of_ble_eq_true rfl) rfl ?_
    refine j_iload dX12_common_15 rfl rfl ?_
    refine j_istore_n (ls' := [.null, .null, .int x3, .int (x2 - x2 / x3 * x3), .int (x2 - x2 / x3 * x3)]) dX12_common_17 rfl rfl (Nat.le_of_ble_eq_true rfl) rfl ?_
    refine j_goto 4 dX12_common_18 (by decide) ?_
    refine j_forget (ls' := [.null, .null, .int x3, .int (x2 - x2 / x3 * x3), .null]) ⟨Or.inr rfl, Or.inr rfl, Or.inr rfl, Or.inr rfl, Or.inl rfl, trivial⟩ ?_
    exact k1 c0
theorem b_X12_sheet_0 {l : Launch} {G : jG} {μ : jM} {φ : Int32 → jM → Prop} {x1 x2 : Int32} {ψ0 : Int32 → jM → Prop} {ψ3 : Int32 → jM → Prop} (hG : gMM G) (hP : gNN μ) 
    (o0 : (x1 = (0 : Int32)) → vp_in (μ.1 112 18) 2) 
    (e0 : (x1 = (0 : Int32)) → (¬ (((μ.1 136 (Int32.toNatClampNeg (μ.1 112 18))) * (100 - (μ.1 137 (Int32.toNatClampNeg (μ.1 112 18))))) + ((100 - (μ.1 136 (Int32.toNatClampNeg (μ.1 112 18)))) * (100 - (100 - (μ.1 137 (Int32.toNatClampNeg (μ.1 112 18))))))) = (0 : Int32)) → jC0 l mX12_common 0 G [.int ((μ.1 136 (Int32.toNatClampNeg (μ.1 112 18))) * (100 - (μ.1 137 (Int32.toNatClampNeg (μ.1 112 18))))), .int (((μ.1 136 (Int32.toNatClampNeg (μ.1 112 18))) * (100 - (μ.1 137 (Int32.toNatClampNeg (μ.1 112 18))))) + ((100 - (μ.1 136 (Int32.toNatClampNeg (μ.1 112 18)))) * (100 - (100 - (μ.1 137 (Int32.toNatClampNeg (μ.1 112 18)))))))] μ (pI ψ0)) 
    (k0 : (x1 = (0 : Int32)) → (¬ (((μ.1 136 (Int32.toNatClampNeg (μ.1 112 18))) * (100 - (μ.1 137 (Int32.toNatClampNeg (μ.1 112 18))))) + ((100 - (μ.1 136 (Int32.toNatClampNeg (μ.1 112 18)))) * (100 - (100 - (μ.1 137 (Int32.toNatClampNeg (μ.1 112 18))))))) = (0 : Int32)) → ∀ v μ', ψ0 v μ' → J l mX12_sheet (jZ0 1 G (pI φ)) G 0 0 86 [.null, .null, .int x2, .null, .int ((μ.1 136 (Int32.toNatClampNeg (μ.1 112 18))) * (100 - (μ.1 137 (Int32.toNatClampNeg (μ.1 112 18))))), .int (((μ.1 136 (Int32.toNatClampNeg (μ.1 112 18))) * (100 - (μ.1 137 (Int32.toNatClampNeg (μ.1 112 18))))) + ((100 - (μ.1 136 (Int32.toNatClampNeg (μ.1 112 18)))) * (100 - (100 - (μ.1 137 (Int32.toNatClampNeg (μ.1 112 18))))))), .null] [.int v] μ') 
    (k1 : (x1 = (0 : Int32)) → ((((μ.1 136 (Int32.toNatClampNeg (μ.1 112 18))) * (100 - (μ.1 137 (Int32.toNatClampNeg (μ.1 112 18))))) + ((100 - (μ.1 136 (Int32.toNatClampNeg (μ.1 112 18)))) * (100 - (100 - (μ.1 137 (Int32.toNatClampNeg (μ.1 112 18))))))) = (0 : Int32)) → (x2 = (0 : Int32)) → φ 0 μ) 
    (k2 : (x1 = (0 : Int32)) → ((((μ.1 136 (Int32.toNatClampNeg (μ.1 112 18))) * (100 - (μ.1 137 (Int32.toNatClampNeg (μ.1 112 18))))) + ((100 - (μ.1 136 (Int32.toNatClampNeg (μ.1 112 18)))) * (100 - (100 - (μ.1 137 (Int32.toNatClampNeg (μ.1 112 18))))))) = (0 : Int32)) → (¬ (x2 = (0 : Int32))) → φ 1 μ) 
    (o1 : (¬ (x1 = (0 : Int32))) → vp_in (μ.1 112 18) 2) 
    (e3 : (¬ (x1 = (0 : Int32))) → (¬ (((μ.1 136 (Int32.toNatClampNeg (μ.1 112 18))) * (μ.1 137 (Int32.toNatClampNeg (μ.1 112 18)))) + ((100 - (μ.1 136 (Int32.toNatClampNeg (μ.1 112 18)))) * (100 - (μ.1 137 (Int32.toNatClampNeg (μ.1 112 18)))))) = (0 : Int32)) → jC0 l mX12_common 0 G [.int ((μ.1 136 (Int32.toNatClampNeg (μ.1 112 18))) * (μ.1 137 (Int32.toNatClampNeg (μ.1 112 18)))), .int (((μ.1 136 (Int32.toNatClampNeg (μ.1 112 18))) * (μ.1 137 (Int32.toNatClampNeg (μ.1 112 18)))) + ((100 - (μ.1 136 (Int32.toNatClampNeg (μ.1 112 18)))) * (100 - (μ.1 137 (Int32.toNatClampNeg (μ.1 112 18))))))] μ (pI ψ3)) 
    (k3 : (¬ (x1 = (0 : Int32))) → (¬ (((μ.1 136 (Int32.toNatClampNeg (μ.1 112 18))) * (μ.1 137 (Int32.toNatClampNeg (μ.1 112 18)))) + ((100 - (μ.1 136 (Int32.toNatClampNeg (μ.1 112 18)))) * (100 - (μ.1 137 (Int32.toNatClampNeg (μ.1 112 18)))))) = (0 : Int32)) → ∀ v μ', ψ3 v μ' → J l mX12_sheet (jZ0 1 G (pI φ)) G 0 0 86 [.null, .null, .int x2, .null, .int ((μ.1 136 (Int32.toNatClampNeg (μ.1 112 18))) * (μ.1 137 (Int32.toNatClampNeg (μ.1 112 18)))), .int (((μ.1 136 (Int32.toNatClampNeg (μ.1 112 18))) * (μ.1 137 (Int32.toNatClampNeg (μ.1 112 18)))) + ((100 - (μ.1 136 (Int32.toNatClampNeg (μ.1 112 18)))) * (100 - (μ.1 137 (Int32.toNatClampNeg (μ.1 112 18)))))), .null] [.int v] μ') 
    (k4 : (¬ (x1 = (0 : Int32))) → ((((μ.1 136 (Int32.toNatClampNeg (μ.1 112 18))) * (μ.1 137 (Int32.toNatClampNeg (μ.1 112 18)))) + ((100 - (μ.1 136 (Int32.toNatClampNeg (μ.1 112 18)))) * (100 - (μ.1 137 (Int32.toNatClampNeg (μ.1 112 18)))))) = (0 : Int32)) → (x2 = (0 : Int32)) → φ 0 μ) 
    (k5 : (¬ (x1 = (0 : Int32))) → ((((μ.1 136 (Int32.toNatClampNeg (μ.1 112 18))) * (μ.1 137 (Int32.toNatClampNeg (μ.1 112 18)))) + ((100 - (μ.1 136 (Int32.toNatClampNeg (μ.1 112 18)))) * (100 - (μ.1 137 (Int32.toNatClampNeg (μ.1 112 18)))))) = (0 : Int32)) → (¬ (x2 = (0 : Int32))) → φ 1 μ) :
    J l mX12_sheet (jZ0 1 G (pI φ)) G 0 0 0 [.ref 112, .int x1, .int x2, .null, .null, .null, .null] [] μ := by
  refine j_iload_n dX12_sheet_0 rfl rfl ?_
  refine j_if_eq 16 dX12_sheet_1 rfl (by decide) (fun c0 => ?_) (fun c0 => ?_)
  · skip
    refine j_bipush 100 dX12_sheet_16 rfl (by decide) ?_
    refine j_aload_n dX12_sheet_18 rfl rfl ?_
    refine j_getR (ci := 12) (N := 80) (f := 38) (T := TX12) 137 dX12_sheet_19 rfl (hG 112 (17, 80) rfl) rfl (by decide) fl_X12_92 rfl (hP 112 38 137 rfl) ?_
    refine j_aload_n dX12_sheet_22 rfl rfl ?_
    refine j_getI (ci := 12) (N := 80) (f := 18) (T := TX12) dX12_sheet_23 rfl (hG 112 (17, 80) rfl) rfl (by decide) fl_X12_263 rfl ?_
    refine j_iald' (j := (Int32.toNatClampNeg (μ.1 112 18))) dX12_sheet_26 rfl (hG 137 (0, 2) rfl) (o0 c0) rfl ?_
    refine j_isub dX12_sheet_27 rfl ?_
    refine j_istore_n (ls' := [.ref 112, .int x1, .int x2, .int (100 - (μ.1 137 (Int32.toNatClampNeg (μ.1 112 18)))), .null, .null, .null]) dX12_sheet_28 rfl rfl (Nat.le_of_ble_eq_true rfl) rfl ?_
    refine j_aload_n dX12_sheet_29 rfl rfl ?_
    refine j_getR (ci := 12) (N := 80) (f := 37) (T := TX12) 136 dX12_sheet_30 rfl (hG 112 (17, 80) rfl) rfl (by decide) fl_X12_89 rfl (hP 112 37 136 rfl) ?_
    refine j_aload_n dX12_sheet_33 rfl rfl ?_
    refine j_getI (ci := 12) (N := 80) (f := 18) (T := TX12) dX12_sheet_34 rfl (hG 112 (17, 80) rfl) rfl (by decide) fl_X12_263 rfl ?_
    refine j_iald' (j := (Int32.toNatClampNeg (μ.1 112 18))) dX12_sheet_37 rfl (hG 136 (0, 2) rfl) (o0 c0) rfl ?_
    refine j_iload_n dX12_sheet_38 rfl rfl ?_
    refine j_imul dX12_sheet_39 rfl ?_
    refine j_istore (ls' := [.ref 112, .int x1, .int x2, .int (100 - (μ.1 137 (Int32.toNatClampNeg (μ.1 112 18)))), .int ((μ.1 136 (Int32.toNatClampNeg (μ.1 112 18))) * (100 - (μ.1 137 (Int32.toNatClampNeg (μ.1 112 18))))), .null, .null]) dX12_sheet_40 rfl (Nat.le_of_ble_eq_true rfl) rfl ?_
    refine j_iload dX12_sheet_42 rfl rfl ?_
    refine j_bipush 100 dX12_sheet_44 rfl (by decide) ?_
    refine j_aload_n dX12_sheet_46 rfl rfl ?_
    refine j_getR (ci := 12) (N := 80) (f := 37) (T := TX12) 136 dX12_sheet_47 rfl (hG 112 (17, 80) rfl) rfl (by decide) fl_X12_89 rfl (hP 112 37 136 rfl) ?_
    refine j_aload_n dX12_sheet_50 rfl rfl ?_
    refine j_getI (ci := 12) (N := 80) (f := 18) (T := TX12) dX12_sheet_51 rfl (hG 112 (17, 80) rfl) rfl (by decide) fl_X12_263 rfl ?_
    refine j_iald' (j := (Int32.toNatClampNeg (μ.1 112 18))) dX12_sheet_54 rfl (hG 136 (0, 2) rfl) (o0 c0) rfl ?_
    refine j_isub dX12_sheet_55 rfl ?_
    refine j_bipush 100 dX12_sheet_56 rfl (by decide) ?_
    refine j_iload_n dX12_sheet_58 rfl rfl ?_
    refine j_isub dX12_sheet_59 rfl ?_
    refine j_imul dX12_sheet_60 rfl ?_
    refine j_iadd dX12_sheet_61 rfl ?_
    refine j_istore (ls' := [.ref 112, .int x1, .int x2, .int (100 - (μ.1 137 (Int32.toNatClampNeg (μ.1 112 18)))), .int ((μ.1 136 (Int32.toNatClampNeg (μ.1 112 18))) * (100 - (μ.1 137 (Int32.toNatClampNeg (μ.1 112 18))))), .int (((μ.1 136 (Int32.toNatClampNeg (μ.1 112 18))) * (100 - (μ.1 137 (Int32.toNatClampNeg (μ.1 112 18))))) + ((100 - (μ.1 136 (Int32.toNatClampNeg (μ.1 112 18)))) * (100 - (100 - (μ.1 137 (Int32.toNatClampNeg (μ.1 112 18))))))), .null]) dX12_sheet_62 rfl (Nat.le_of_ble_eq_true rfl) rfl ?_
    refine j_iload dX12_sheet_64 rfl rfl ?_
    refine j_if_ne 79 dX12_sheet_66 rfl (by decide) (fun c1 => ?_) (fun c1 => ?_)
    · skip
      refine j_iload dX12_sheet_79 rfl rfl ?_
      refine j_iload dX12_sheet_81 rfl rfl ?_
      refine j_cS (as := [.int ((μ.1 136 (Int32.toNatClampNeg (μ.1 112 18))) * (100 - (μ.1 137 (Int32.toNatClampNeg (μ.1 112 18))))), .int (((μ.1 136 (Int32.toNatClampNeg (μ.1 112 18))) * (100 - (μ.1 137 (Int32.toNatClampNeg (μ.1 112 18))))) + ((100 - (μ.1 136 (Int32.toNatClampNeg (μ.1 112 18)))) * (100 - (100 - (μ.1 137 (Int32.toNatClampNeg (μ.1 112 18)))))))]) (rest := []) dX12_sheet_83 rfl vw_X12_478 ⟨Nat.le_of_ble_eq_true rfl, Nat.le_of_ble_eq_true rfl⟩ rfl rfl (fun _ _ => Nat.le_of_ble_eq_true rfl) (e0 c0 c1) (fun r μ' hr => ?_)
      obtain ⟨v, rfl, hr⟩ := hr
      refine j_forget (ls' := [.null, .null, .int x2, .null, .int ((μ.1 136 (Int32.toNatClampNeg (μ.1 112 18))) * (100 - (μ.1 137 (Int32.toNatClampNeg (μ.1 112 18))))), .int (((μ.1 136 (Int32.toNatClampNeg (μ.1 112 18))) * (100 - (μ.1 137 (Int32.toNatClampNeg (μ.1 112 18))))) + ((100 - (μ.1 136 (Int32.toNatClampNeg (μ.1 112 18)))) * (100 - (100 - (μ.1 137 (Int32.toNatClampNeg (μ.1 112 18))))))), .null]) ⟨Or.inl rfl, Or.inl rfl, Or.inr rfl, Or.inl rfl, Or.inr rfl, Or.inr rfl, Or.inr rfl, trivial⟩ ?_
      exact k0 c0 c1 v μ' hr
    · skip
      refine j_iload_n dX12_sheet_69 rfl rfl ?_
      refine j_if_eq 77 dX12_sheet_70 rfl (by decide) (fun c2 => ?_) (fun c2 => ?_)
      · skip
        refine j_iconst 0 dX12_sheet_77 rfl (by decide) ?_
        exact j_iret dX12_sheet_78 rfl (k1 c0 c1 c2)
      · skip
        refine j_iconst 1 dX12_sheet_73 rfl (by decide) ?_
        refine j_goto 78 dX12_sheet_74 (by decide) ?_
        exact j_iret dX12_sheet_78 rfl (k2 c0 c1 c2)
  · skip
    refine j_aload_n dX12_sheet_4 rfl rfl ?_
    refine j_getR (ci := 12) (N := 80) (f := 38) (T := TX12) 137 dX12_sheet_5 rfl (hG 112 (17, 80) rfl) rfl (by decide) fl_X12_92 rfl (hP 112 38 137 rfl) ?_
    refine j_aload_n dX12_sheet_8 rfl rfl ?_
    refine j_getI (ci := 12) (N := 80) (f := 18) (T := TX12) dX12_sheet_9 rfl (hG 112 (17, 80) rfl) rfl (by decide) fl_X12_263 rfl ?_
    refine j_iald' (j := (Int32.toNatClampNeg (μ.1 112 18))) dX12_sheet_12 rfl (hG 137 (0, 2) rfl) (o1 c0) rfl ?_
    refine j_goto 28 dX12_sheet_13 (by decide) ?_
    refine j_istore_n (ls' := [.ref 112, .int x1, .int x2, .int (μ.1 137 (Int32.toNatClampNeg (μ.1 112 18))), .null, .null, .null]) dX12_sheet_28 rfl rfl (Nat.le_of_ble_eq_true rfl) rfl ?_
    refine j_aload_n dX12_sheet_29 rfl rfl ?_
    refine j_getR (ci := 12) (N := 80) (f := 37) (T := TX12) 136 dX12_sheet_30 rfl (hG 112 (17, 80) rfl) rfl (by decide) fl_X12_89 rfl (hP 112 37 136 rfl) ?_
    refine j_aload_n dX12_sheet_33 rfl rfl ?_
    refine j_getI (ci := 12) (N := 80) (f := 18) (T := TX12) dX12_sheet_34 rfl (hG 112 (17, 80) rfl) rfl (by decide) fl_X12_263 rfl ?_
    refine j_iald' (j := (Int32.toNatClampNeg (μ.1 112 18))) dX12_sheet_37 rfl (hG 136 (0, 2) rfl) (o1 c0) rfl ?_
    refine j_iload_n dX12_sheet_38 rfl rfl ?_
    refine j_imul dX12_sheet_39 rfl ?_
    refine j_istore (ls' := [.ref 112, .int x1, .int x2, .int (μ.1 137 (Int32.toNatClampNeg (μ.1 112 18))), .int ((μ.1 136 (Int32.toNatClampNeg (μ.1 112 18))) * (μ.1 137 (Int32.toNatClampNeg (μ.1 112 18)))), .null, .null]) dX12_sheet_40 rfl (Nat.le_of_ble_eq_true rfl) rfl ?_
    refine j_iload dX12_sheet_42 rfl rfl ?_
    refine j_bipush 100 dX12_sheet_44 rfl (by decide) ?_
    refine j_aload_n dX12_sheet_46 rfl rfl ?_
    refine j_getR (ci := 12) (N := 80) (f := 37) (T := TX12) 136 dX12_sheet_47 rfl (hG 112 (17, 80) rfl) rfl (by decide) fl_X12_89 rfl (hP 112 37 136 rfl) ?_
    refine j_aload_n dX12_sheet_50 rfl rfl ?_
    refine j_getI (ci := 12) (N := 80) (f := 18) (T := TX12) dX12_sheet_51 rfl (hG 112 (17, 80) rfl) rfl (by decide) fl_X12_263 rfl ?_
    refine j_iald' (j := (Int32.toNatClampNeg (μ.1 112 18))) dX12_sheet_54 rfl (hG 136 (0, 2) rfl) (o1 c0) rfl ?_
    refine j_isub dX12_sheet_55 rfl ?_
    refine j_bipush 100 dX12_sheet_56 rfl (by decide) ?_
    refine j_iload_n dX12_sheet_58 rfl rfl ?_
    refine j_isub dX12_sheet_59 rfl ?_
    refine j_imul dX12_sheet_60 rfl ?_
    refine j_iadd dX12_sheet_61 rfl ?_
    refine j_istore (ls' := [.ref 112, .int x1, .int x2, .int (μ.1 137 (Int32.toNatClampNeg (μ.1 112 18))), .int ((μ.1 136 (Int32.toNatClampNeg (μ.1 112 18))) * (μ.1 137 (Int32.toNatClampNeg (μ.1 112 18)))), .int (((μ.1 136 (Int32.toNatClampNeg (μ.1 112 18))) * (μ.1 137 (Int32.toNatClampNeg (μ.1 112 18)))) + ((100 - (μ.1 136 (Int32.toNatClampNeg (μ.1 112 18)))) * (100 - (μ.1 137 (Int32.toNatClampNeg (μ.1 112 18)))))), .null]) dX12_sheet_62 rfl (Nat.le_of_ble_eq_true rfl) rfl ?_
    refine j_iload dX12_sheet_64 rfl rfl ?_
    refine j_if_ne 79 dX12_sheet_66 rfl (by decide) (fun c3 => ?_) (fun c3 => ?_)
    · skip
      refine j_iload dX12_sheet_79 rfl rfl ?_
      refine j_iload dX12_sheet_81 rfl rfl ?_
      refine j_cS (as := [.int ((μ.1 136 (Int32.toNatClampNeg (μ.1 112 18))) * (μ.1 137 (Int32.toNatClampNeg (μ.1 112 18)))), .int (((μ.1 136 (Int32.toNatClampNeg (μ.1 112 18))) * (μ.1 137 (Int32.toNatClampNeg (μ.1 112 18)))) + ((100 - (μ.1 136 (Int32.toNatClampNeg (μ.1 112 18)))) * (100 - (μ.1 137 (Int32.toNatClampNeg (μ.1 112 18))))))]) (rest := []) dX12_sheet_83 rfl vw_X12_478 ⟨Nat.le_of_ble_eq_true rfl, Nat.le_of_ble_eq_true rfl⟩ rfl rfl (fun _ _ => Nat.le_of_ble_eq_true rfl) (e3 c0 c3) (fun r μ' hr => ?_)
      obtain ⟨v, rfl, hr⟩ := hr
      refine j_forget (ls' := [.null, .null, .int x2, .null, .int ((μ.1 136 (Int32.toNatClampNeg (μ.1 112 18))) * (μ.1 137 (Int32.toNatClampNeg (μ.1 112 18)))), .int (((μ.1 136 (Int32.toNatClampNeg (μ.1 112 18))) * (μ.1 137 (Int32.toNatClampNeg (μ.1 112 18)))) + ((100 - (μ.1 136 (Int32.toNatClampNeg (μ.1 112 18)))) * (100 - (μ.1 137 (Int32.toNatClampNeg (μ.1 112 18)))))), .null]) ⟨Or.inl rfl, Or.inl rfl, Or.inr rfl, Or.inl rfl, Or.inr rfl, Or.inr rfl, Or.inr rfl, trivial⟩ ?_
      exact k3 c0 c3 v μ' hr
    · skip
      refine j_iload_n dX12_sheet_69 rfl rfl ?_
      refine j_if_eq 77 dX12_sheet_70 rfl (by decide) (fun c4 => ?_) (fun c4 => ?_)
      · skip
        refine j_iconst 0 dX12_sheet_77 rfl (by decide) ?_
        exact j_iret dX12_sheet_78 rfl (k4 c0 c3 c4)
      · skip
        refine j_iconst 1 dX12_sheet_73 rfl (by decide) ?_
        refine j_goto 78 dX12_sheet_74 (by decide) ?_
        exact j_iret dX12_sheet_78 rfl (k5 c0 c3 c4)
theorem b_X12_sheet_86 {l : Launch} {G : jG} {μ : jM} {φ : Int32 → jM → Prop} {x2 x4 x5 z0 : Int32} (hG : gMM G) (hP : gNN μ) 
    (o0 : (x2 = (0 : Int32)) → ¬ (z0 : Int32) = 0) 
    (k0 : (x2 = (0 : Int32)) → φ (x4 / z0) μ) 
    (o1 : (¬ (x2 = (0 : Int32))) → ¬ (z0 : Int32) = 0) 
    (k1 : (¬ (x2 = (0 : Int32))) → φ (x5 / z0) μ) :
    J l mX12_sheet (jZ0 1 G (pI φ)) G 0 0 86 [.null, .null, .int x2, .null, .int x4, .int x5, .null] [.int z0] μ := by
  refine j_istore (ls' := [.null, .null, .int x2, .null, .int x4, .int x5, .int z0]) dX12_sheet_86 rfl (Nat.le_of_ble_eq_true rfl) rfl ?_
  refine j_iload_n dX12_sheet_88 rfl rfl ?_
  refine j_if_eq 97 dX12_sheet_89 rfl (by decide) (fun c0 => ?_) (fun c0 => ?_)
  · skip
    refine j_iload dX12_sheet_97 rfl rfl ?_
    refine j_iload dX12_sheet_99 rfl rfl ?_
    refine j_idiv dX12_sheet_101 rfl (o0 c0) ?_
    exact j_iret dX12_sheet_102 rfl (k0 c0)
  · skip
    refine j_iload dX12_sheet_92 rfl rfl ?_
    refine j_goto 99 dX12_sheet_94 (by decide) ?_
    refine j_iload dX12_sheet_99 rfl rfl ?_
    refine j_idiv dX12_sheet_101 rfl (o1 c0) ?_
    exact j_iret dX12_sheet_102 rfl (k1 c0)
theorem b_X12_tell_0 {l : Launch} {G : jG} {μ : jM} {φ : Int32 → jM → Prop} {x1 x2 x3 : Int32} {ψ1 : Int32 → jM → Prop} (hG : gMM G) (hP : gNN μ) 
    (k0 : ((μ.1 112 71) = (20 : Int32)) → φ (-1) μ) 
    (e1 : (¬ ((μ.1 112 71) = (20 : Int32))) → jC0 l mX12_isRoad 1 G [.ref 112, .int x1] μ (pI ψ1)) 
    (k1 : (¬ ((μ.1 112 71) = (20 : Int32))) → ∀ v μ', ψ1 v μ' → J l mX12_tell (jZ0 2 G (pI φ)) G 0 0 14 [.ref 112, .int x1, .int x2, .int x3] [.int v] μ') :
    J l mX12_tell (jZ0 2 G (pI φ)) G 0 0 0 [.ref 112, .int x1, .int x2, .int x3] [] μ := by
  refine j_aload_n dX12_tell_0 rfl rfl ?_
  refine j_getI (ci := 12) (N := 80) (f := 71) (T := TX12) dX12_tell_1 rfl (hG 112 (17, 80) rfl) rfl (by decide) fl_X12_284 rfl ?_
  refine j_bipush 20 dX12_tell_4 rfl (by decide) ?_
  refine j_icmp_eq 35 dX12_tell_6 rfl (by decide) (fun c0 => ?_) (fun c0 => ?_)
  · skip
    refine j_iconst (-1) dX12_tell_35 rfl (by decide) ?_
    exact j_iret dX12_tell_36 rfl (k0 c0)
  · skip
    refine j_aload_n dX12_tell_9 rfl rfl ?_
    refine j_iload_n dX12_tell_10 rfl rfl ?_
    refine j_cV (as := [.int x1]) (rest := []) dX12_tell_11 rfl vw_X12_427 (hG 112 (17, 80) rfl) rfl ⟨Nat.le_of_ble_eq_true rfl, Nat.le_of_ble_eq_true rfl⟩ rfl rfl (fun _ _ => Nat.le_of_ble_eq_true rfl) (e1 c0) (fun r μ' hr => ?_)
    obtain ⟨v, rfl, hr⟩ := hr
    exact k1 c0 v μ' hr
theorem b_X12_tell_14 {l : Launch} {G : jG} {μ : jM} {φ : Int32 → jM → Prop} {x1 x2 x3 z0 : Int32} {ψ1 : Int32 → jM → Prop} (hG : gMM G) (hP : gNN μ) 
    (k0 : (z0 = (0 : Int32)) → φ (-1) μ) 
    (e1 : (¬ (z0 = (0 : Int32))) → jC0 l mX12_overField 0 G [.ref 112, .int x1] μ (pI ψ1)) 
    (k1 : (¬ (z0 = (0 : Int32))) → ∀ v μ', ψ1 v μ' → J l mX12_tell (jZ0 2 G (pI φ)) G 0 0 22 [.ref 112, .int x1, .int x2, .int x3] [.int v] μ') :
    J l mX12_tell (jZ0 2 G (pI φ)) G 0 0 14 [.ref 112, .int x1, .int x2, .int x3] [.int z0] μ := by
  refine j_if_eq 35 dX12_tell_14 rfl (by decide) (fun c0 => ?_) (fun c0 => ?_)
  · skip
    refine j_iconst (-1) dX12_tell_35 rfl (by decide) ?_
    exact j_iret dX12_tell_36 rfl (k0 c0)
  · skip
    refine j_aload_n dX12_tell_17 rfl rfl ?_
    refine j_iload_n dX12_tell_18 rfl rfl ?_
    refine j_cV (as := [.int x1]) (rest := []) dX12_tell_19 rfl vw_X12_391 (hG 112 (17, 80) rfl) rfl ⟨Nat.le_of_ble_eq_true rfl, Nat.le_of_ble_eq_true rfl⟩ rfl rfl (fun _ _ => Nat.le_of_ble_eq_true rfl) (e1 c0) (fun r μ' hr => ?_)
    obtain ⟨v, rfl, hr⟩ := hr
    exact k1 c0 v μ' hr
theorem b_X12_tell_22 {l : Launch} {G : jG} {μ : jM} {φ : Int32 → jM → Prop} {x1 x2 x3 z0 : Int32} {ψ1 : Int32 → jM → Prop} (hG : gMM G) (hP : gNN μ) 
    (k0 : (z0 = (0 : Int32)) → φ (-1) μ) 
    (e1 : (¬ (z0 = (0 : Int32))) → jC0 l mX12_in 0 G [.int x2, .int 0, .int 30] μ (pI ψ1)) 
    (k1 : (¬ (z0 = (0 : Int32))) → ∀ v μ', ψ1 v μ' → J l mX12_tell (jZ0 2 G (pI φ)) G 0 0 32 [.ref 112, .int x1, .int x2, .int x3] [.int v] μ') :
    J l mX12_tell (jZ0 2 G (pI φ)) G 0 0 22 [.ref 112, .int x1, .int x2, .int x3] [.int z0] μ := by
  refine j_if_eq 35 dX12_tell_22 rfl (by decide) (fun c0 => ?_) (fun c0 => ?_)
  · skip
    refine j_iconst (-1) dX12_tell_35 rfl (by decide) ?_
    exact j_iret dX12_tell_36 rfl (k0 c0)
  · skip
    refine j_iload_n dX12_tell_25 rfl rfl ?_
    refine j_iconst 0 dX12_tell_26 rfl (by decide) ?_
    refine j_bipush 30 dX12_tell_27 rfl (by decide) ?_
    refine j_cS (as := [.int x2, .int 0, .int 30]) (rest := []) dX12_tell_29 rfl vw_X12_349 ⟨Nat.le_of_ble_eq_true rfl, Nat.le_of_ble_eq_true rfl⟩ rfl rfl (fun _ _ => Nat.le_of_ble_eq_true rfl) (e1 c0) (fun r μ' hr => ?_)
    obtain ⟨v, rfl, hr⟩ := hr
    exact k1 c0 v μ' hr
theorem b_X12_tell_32 {l : Launch} {G : jG} {μ : jM} {φ : Int32 → jM → Prop} {x1 x2 x3 z0 : Int32} (hG : gMM G) (hP : gNN μ) 
    (o0 : (¬ z0 = (0 : Int32)) → vp_in (μ.1 112 71) 20) 
    (k0 : (¬ z0 = (0 : Int32)) → φ (((μ.1 112 71) + 1) - 1) (wI (wI (wI (wI μ 159 (Int32.toNatClampNeg (μ.1 112 71)) x1) 160 (Int32.toNatClampNeg (μ.1 112 71)) x2) 161 (Int32.toNatClampNeg (μ.1 112 71)) (vp_nar .boolean x3)) 112 71 ((μ.1 112 71) + 1))) 
    (k1 : (z0 = (0 : Int32)) → φ (-1) μ) :
    J l mX12_tell (jZ0 2 G (pI φ)) G 0 0 32 [.ref 112, .int x1, .int x2, .int x3] [.int z0] μ := by
  refine j_if_ne 37 dX12_tell_32 rfl (by decide) (fun c0 => ?_) (fun c0 => ?_)
  · skip
    refine j_aload_n dX12_tell_37 rfl rfl ?_
    refine j_getR (ci := 12) (N := 80) (f := 72) (T := TX12) 159 dX12_tell_38 rfl (hG 112 (17, 80) rfl) rfl (by decide) fl_X12_158 rfl (hP 112 72 159 rfl) ?_
    refine j_aload_n dX12_tell_41 rfl rfl ?_
    refine j_getI (ci := 12) (N := 80) (f := 71) (T := TX12) dX12_tell_42 rfl (hG 112 (17, 80) rfl) rfl (by decide) fl_X12_284 rfl ?_
    refine j_iload_n dX12_tell_45 rfl rfl ?_
    refine j_iast' (j := (Int32.toNatClampNeg (μ.1 112 71))) dX12_tell_46 rfl (hG 159 (0, 20) rfl) (o0 c0) rfl ?_
    refine j_aload_n dX12_tell_47 rfl rfl ?_
    refine j_getR (ci := 12) (N := 80) (f := 73) (T := TX12) 160 dX12_tell_48 rfl (hG 112 (17, 80) rfl) rfl (by decide) fl_X12_161 rfl (hP 112 73 160 rfl) ?_
    refine j_aload_n dX12_tell_51 rfl rfl ?_
    refine j_getI (ci := 12) (N := 80) (f := 71) (T := TX12) dX12_tell_52 rfl (hG 112 (17, 80) rfl) rfl (by decide) fl_X12_284 rfl ?_
    refine j_iload_n dX12_tell_55 rfl rfl ?_
    refine j_iast' (j := (Int32.toNatClampNeg (μ.1 112 71))) dX12_tell_56 rfl (hG 160 (0, 20) rfl) (o0 c0) rfl ?_
    refine j_aload_n dX12_tell_57 rfl rfl ?_
    refine j_getR (ci := 12) (N := 80) (f := 74) (T := TX12) 161 dX12_tell_58 rfl (hG 112 (17, 80) rfl) rfl (by decide) fl_X12_164 rfl (hP 112 74 161 rfl) ?_
    refine j_aload_n dX12_tell_61 rfl rfl ?_
    refine j_getI (ci := 12) (N := 80) (f := 71) (T := TX12) dX12_tell_62 rfl (hG 112 (17, 80) rfl) rfl (by decide) fl_X12_284 rfl ?_
    refine j_iload_n dX12_tell_65 rfl rfl ?_
    refine j_zast' (j := (Int32.toNatClampNeg (μ.1 112 71))) dX12_tell_66 rfl (hG 161 (2, 20) rfl) (o0 c0) rfl ?_
    refine j_aload_n dX12_tell_67 rfl rfl ?_
    refine j_dup dX12_tell_68 rfl (fun _ _ => rfl) ?_
    refine j_getI (ci := 12) (N := 80) (f := 71) (T := TX12) dX12_tell_69 rfl (hG 112 (17, 80) rfl) rfl (by decide) fl_X12_284 rfl ?_
    refine j_iconst 1 dX12_tell_72 rfl (by decide) ?_
    refine j_iadd dX12_tell_73 rfl ?_
    refine j_putI (ci := 12) (N := 80) (f := 71) (T := TX12) dX12_tell_74 rfl (hG 112 (17, 80) rfl) rfl (by decide) fl_X12_284 rfl rfl ?_
    refine j_aload_n dX12_tell_77 rfl rfl ?_
    refine j_getI (ci := 12) (N := 80) (f := 71) (T := TX12) dX12_tell_78 rfl (hG 112 (17, 80) rfl) rfl (by decide) fl_X12_284 rfl ?_
    refine j_iconst 1 dX12_tell_81 rfl (by decide) ?_
    refine j_isub dX12_tell_82 rfl ?_
    exact j_iret dX12_tell_83 rfl (k0 c0)
  · skip
    refine j_iconst (-1) dX12_tell_35 rfl (by decide) ?_
    exact j_iret dX12_tell_36 rfl (k1 c0)
theorem b_X12_forget_0 {l : Launch} {G : jG} {μ : jM} {φ : Int32 → jM → Prop} (hG : gMM G) (hP : gNN μ) 
    (k0 : φ (μ.1 112 71) (wI μ 112 71 0)) :
    J l mX12_forget (jZ0 0 G (pI φ)) G 0 0 0 [.ref 112, .null] [] μ := by
  refine j_aload_n dX12_forget_0 rfl rfl ?_
  refine j_getI (ci := 12) (N := 80) (f := 71) (T := TX12) dX12_forget_1 rfl (hG 112 (17, 80) rfl) rfl (by decide) fl_X12_284 rfl ?_
  refine j_istore_n (ls' := [.ref 112, .int (μ.1 112 71)]) dX12_forget_4 rfl rfl (Nat.le_of_ble_eq_true rfl) rfl ?_
  refine j_aload_n dX12_forget_5 rfl rfl ?_
  refine j_iconst 0 dX12_forget_6 rfl (by decide) ?_
  refine j_putI (ci := 12) (N := 80) (f := 71) (T := TX12) dX12_forget_7 rfl (hG 112 (17, 80) rfl) rfl (by decide) fl_X12_284 rfl rfl ?_
  refine j_iload_n dX12_forget_10 rfl rfl ?_
  exact j_iret dX12_forget_11 rfl (k0 )
theorem b_X12_fillsSeen_0 {l : Launch} {G : jG} {μ : jM} {φ : jM → Prop} {x1 x2 : Int32} {ψ0 : jM → Prop} (hG : gMM G) (hP : gNN μ) 
    (e0 : jC0 l mX12_begins 1 G [.ref 112] μ (pV ψ0)) 
    (k0 : ∀ μ', ψ0 μ' → J l mX12_fillsSeen (jZ0 8 G (pV φ)) G 0 0 4 [.ref 112, .int x1, .int x2, .null, .null] [] μ') :
    J l mX12_fillsSeen (jZ0 8 G (pV φ)) G 0 0 0 [.ref 112, .int x1, .int x2, .null, .null] [] μ := by
  refine j_aload_n dX12_fillsSeen_0 rfl rfl ?_
  refine j_cV (as := []) (rest := []) dX12_fillsSeen_1 rfl vw_X12_190 (hG 112 (17, 80) rfl) rfl ⟨Nat.le_of_ble_eq_true rfl, Nat.le_of_ble_eq_true rfl⟩ rfl rfl (fun _ _ => Nat.le_of_ble_eq_true rfl) (e0 ) (fun r μ' hr => ?_)
  obtain ⟨rfl, hr⟩ := hr
  exact k0  μ' hr
theorem b_X12_fillsSeen_4 {l : Launch} {G : jG} {μ : jM} {φ : jM → Prop} {x1 x2 : Int32} (hG : gMM G) (hP : gNN μ) 
    (k0 : J l mX12_fillsSeen (jZ0 8 G (pV φ)) G 0 0 11 [.ref 112, .null, .int x2, .int 0, .null] [] (wI μ 112 59 x1)) :
    J l mX12_fillsSeen (jZ0 8 G (pV φ)) G 0 0 4 [.ref 112, .int x1, .int x2, .null, .null] [] μ := by
  refine j_aload_n dX12_fillsSeen_4 rfl rfl ?_
  refine j_iload_n dX12_fillsSeen_5 rfl rfl ?_
  refine j_putI (ci := 12) (N := 80) (f := 59) (T := TX12) dX12_fillsSeen_6 rfl (hG 112 (17, 80) rfl) rfl (by decide) fl_X12_356 rfl rfl ?_
  refine j_iconst 0 dX12_fillsSeen_9 rfl (by decide) ?_
  refine j_istore_n (ls' := [.ref 112, .int x1, .int x2, .int 0, .null]) dX12_fillsSeen_10 rfl rfl (Nat.le_of_ble_eq_true rfl) rfl ?_
  refine j_forget (ls' := [.ref 112, .null, .int x2, .int 0, .null]) ⟨Or.inr rfl, Or.inl rfl, Or.inr rfl, Or.inr rfl, Or.inr rfl, trivial⟩ ?_
  exact k0 
theorem b_X12_fillsSeen_11 {l : Launch} {G : jG} {μ : jM} {φ : jM → Prop} {x2 x3 : Int32} (hG : gMM G) (hP : gNN μ) 
    (k0 : (x2 < (x3 : Int32)) → φ μ) 
    (k1 : (¬ (x2 < (x3 : Int32))) → J l mX12_fillsSeen (jZ0 8 G (pV φ)) G 0 0 19 [.ref 112, .null, .int x2, .int x3, .int 0] [] μ) :
    J l mX12_fillsSeen (jZ0 8 G (pV φ)) G 0 0 11 [.ref 112, .null, .int x2, .int x3, .null] [] μ := by
  refine j_iload_n dX12_fillsSeen_11 rfl rfl ?_
  refine j_iload_n dX12_fillsSeen_12 rfl rfl ?_
  refine j_icmp_gt 155 dX12_fillsSeen_13 rfl (by decide) (fun c0 => ?_) (fun c0 => ?_)
  · skip
    exact j_vret dX12_fillsSeen_155 rfl (k0 c0)
  · skip
    refine j_iconst 0 dX12_fillsSeen_16 rfl (by decide) ?_
    refine j_istore (ls' := [.ref 112, .null, .int x2, .int x3, .int 0]) dX12_fillsSeen_17 rfl (Nat.le_of_ble_eq_true rfl) rfl ?_
    exact k1 c0
theorem b_X12_fillsSeen_19 {l : Launch} {G : jG} {μ : jM} {φ : jM → Prop} {x2 x3 x4 : Int32} (hG : gMM G) (hP : gNN μ) 
    (k0 : (12 ≤ (x4 : Int32)) → J l mX12_fillsSeen (jZ0 8 G (pV φ)) G 0 0 48 [.ref 112, .null, .int x2, .int x3, .int 0] [] μ) 
    (o0 : (¬ (12 ≤ (x4 : Int32))) → vp_in ((12 * x3) + x4) 372) 
    (k1 : (¬ (12 ≤ (x4 : Int32))) → J l mX12_fillsSeen (jZ0 8 G (pV φ)) G 0 0 19 [.ref 112, .null, .int x2, .int x3, .int (x4 + 1)] [] (wI μ 162 (Int32.toNatClampNeg ((12 * x3) + x4)) (vp_nar .boolean 0))) :
    J l mX12_fillsSeen (jZ0 8 G (pV φ)) G 0 0 19 [.ref 112, .null, .int x2, .int x3, .int x4] [] μ := by
  refine j_iload dX12_fillsSeen_19 rfl rfl ?_
  refine j_bipush 12 dX12_fillsSeen_21 rfl (by decide) ?_
  refine j_icmp_ge 45 dX12_fillsSeen_23 rfl (by decide) (fun c0 => ?_) (fun c0 => ?_)
  · skip
    refine j_iconst 0 dX12_fillsSeen_45 rfl (by decide) ?_
    refine j_istore (ls' := [.ref 112, .null, .int x2, .int x3, .int 0]) dX12_fillsSeen_46 rfl (Nat.le_of_ble_eq_true rfl) rfl ?_
    exact k0 c0
  · skip
    refine j_aload_n dX12_fillsSeen_26 rfl rfl ?_
    refine j_getR (ci := 12) (N := 80) (f := 75) (T := TX12) 162 dX12_fillsSeen_27 rfl (hG 112 (17, 80) rfl) rfl (by decide) fl_X12_167 rfl (hP 112 75 162 rfl) ?_
    refine j_bipush 12 dX12_fillsSeen_30 rfl (by decide) ?_
    refine j_iload_n dX12_fillsSeen_32 rfl rfl ?_
    refine j_imul dX12_fillsSeen_33 rfl ?_
    refine j_iload dX12_fillsSeen_34 rfl rfl ?_
    refine j_iadd dX12_fillsSeen_36 rfl ?_
    refine j_iconst 0 dX12_fillsSeen_37 rfl (by decide) ?_
    refine j_zast' (j := (Int32.toNatClampNeg ((12 * x3) + x4))) dX12_fillsSeen_38 rfl (hG 162 (2, 372) rfl) (o0 c0) rfl ?_
    refine j_iinc (x4 + 1) (ls' := [.ref 112, .null, .int x2, .int x3, .int (x4 + 1)]) dX12_fillsSeen_39 rfl rfl rfl (Nat.le_of_ble_eq_true rfl) rfl ?_
    refine j_goto 19 dX12_fillsSeen_42 (by decide) ?_
    exact k1 c0
theorem b_X12_fillsSeen_48 {l : Launch} {G : jG} {μ : jM} {φ : jM → Prop} {x2 x3 x4 : Int32} {ψ0 : jM → Prop} (hG : gMM G) (hP : gNN μ) 
    (o0 : vp_in (μ.1 112 18) 2) 
    (e0 : ((μ.1 123 (Int32.toNatClampNeg (μ.1 112 18))) ≤ (x4 : Int32)) → jC0 l mX12_nightGoes 7 G [.ref 112] μ (pV ψ0)) 
    (k0 : ((μ.1 123 (Int32.toNatClampNeg (μ.1 112 18))) ≤ (x4 : Int32)) → ∀ μ', ψ0 μ' → J l mX12_fillsSeen (jZ0 8 G (pV φ)) G 0 0 89 [.ref 112, .null, .int x2, .int x3, .null] [] μ') 
    (o1 : (¬ ((μ.1 123 (Int32.toNatClampNeg (μ.1 112 18))) ≤ (x4 : Int32))) → vp_in (12 + x4) 68) 
    (o2 : (¬ ((μ.1 123 (Int32.toNatClampNeg (μ.1 112 18))) ≤ (x4 : Int32))) → vp_in x4 12) 
    (k1 : (¬ ((μ.1 123 (Int32.toNatClampNeg (μ.1 112 18))) ≤ (x4 : Int32))) → J l mX12_fillsSeen (jZ0 8 G (pV φ)) G 0 0 48 [.ref 112, .null, .int x2, .int x3, .int (x4 + 1)] [] (wI μ 163 (Int32.toNatClampNeg x4) (μ.1 152 (Int32.toNatClampNeg (12 + x4))))) :
    J l mX12_fillsSeen (jZ0 8 G (pV φ)) G 0 0 48 [.ref 112, .null, .int x2, .int x3, .int x4] [] μ := by
  refine j_iload dX12_fillsSeen_48 rfl rfl ?_
  refine j_aload_n dX12_fillsSeen_50 rfl rfl ?_
  refine j_getR (ci := 12) (N := 80) (f := 24) (T := TX12) 123 dX12_fillsSeen_51 rfl (hG 112 (17, 80) rfl) rfl (by decide) fl_X12_49 rfl (hP 112 24 123 rfl) ?_
  refine j_aload_n dX12_fillsSeen_54 rfl rfl ?_
  refine j_getI (ci := 12) (N := 80) (f := 18) (T := TX12) dX12_fillsSeen_55 rfl (hG 112 (17, 80) rfl) rfl (by decide) fl_X12_263 rfl ?_
  refine j_iald' (j := (Int32.toNatClampNeg (μ.1 112 18))) dX12_fillsSeen_58 rfl (hG 123 (0, 2) rfl) o0 rfl ?_
  refine j_icmp_ge 85 dX12_fillsSeen_59 rfl (by decide) (fun c0 => ?_) (fun c0 => ?_)
  · skip
    refine j_aload_n dX12_fillsSeen_85 rfl rfl ?_
    refine j_cV (as := []) (rest := []) dX12_fillsSeen_86 rfl vw_X12_424 (hG 112 (17, 80) rfl) rfl ⟨Nat.le_of_ble_eq_true rfl, Nat.le_of_ble_eq_true rfl⟩ rfl rfl (fun _ _ => Nat.le_of_ble_eq_true rfl) (e0 c0) (fun r μ' hr => ?_)
    obtain ⟨rfl, hr⟩ := hr
    refine j_forget (ls' := [.ref 112, .null, .int x2, .int x3, .null]) ⟨Or.inr rfl, Or.inr rfl, Or.inr rfl, Or.inr rfl, Or.inl rfl, trivial⟩ ?_
    exact k0 c0 μ' hr
  · skip
    refine j_aload_n dX12_fillsSeen_62 rfl rfl ?_
    refine j_getR (ci := 12) (N := 80) (f := 76) (T := TX12) 163 dX12_fillsSeen_63 rfl (hG 112 (17, 80) rfl) rfl (by decide) fl_X12_170 rfl (hP 112 76 163 rfl) ?_
    refine j_iload dX12_fillsSeen_66 rfl rfl ?_
    refine j_aload_n dX12_fillsSeen_68 rfl rfl ?_
    refine j_getR (ci := 12) (N := 80) (f := 57) (T := TX12) 152 dX12_fillsSeen_69 rfl (hG 112 (17, 80) rfl) rfl (by decide) fl_X12_137 rfl (hP 112 57 152 rfl) ?_
    refine j_bipush 12 dX12_fillsSeen_72 rfl (by decide) ?_
    refine j_iload dX12_fillsSeen_74 rfl rfl ?_
    refine j_iadd dX12_fillsSeen_76 rfl ?_
    refine j_iald' (j := (Int32.toNatClampNeg (12 + x4))) dX12_fillsSeen_77 rfl (hG 152 (0, 68) rfl) (o1 c0) rfl ?_
    refine j_iast' (j := (Int32.toNatClampNeg x4)) dX12_fillsSeen_78 rfl (hG 163 (0, 12) rfl) (o2 c0) rfl ?_
    refine j_iinc (x4 + 1) (ls' := [.ref 112, .null, .int x2, .int x3, .int (x4 + 1)]) dX12_fillsSeen_79 rfl rfl rfl (Nat.le_of_ble_eq_true rfl) rfl ?_
    refine j_goto 48 dX12_fillsSeen_82 (by decide) ?_
    exact k1 c0
theorem b_X12_fillsSeen_89 {l : Launch} {G : jG} {μ : jM} {φ : jM → Prop} {x2 x3 : Int32} (hG : gMM G) (hP : gNN μ) 
    (k0 : J l mX12_fillsSeen (jZ0 8 G (pV φ)) G 0 0 92 [.ref 112, .null, .int x2, .int x3, .int 0] [] μ) :
    J l mX12_fillsSeen (jZ0 8 G (pV φ)) G 0 0 89 [.ref 112, .null, .int x2, .int x3, .null] [] μ := by
  refine j_iconst 0 dX12_fillsSeen_89 rfl (by decide) ?_
  refine j_istore (ls' := [.ref 112, .null, .int x2, .int x3, .int 0]) dX12_fillsSeen_90 rfl (Nat.le_of_ble_eq_true rfl) rfl ?_
  exact k0 
theorem b_X12_fillsSeen_92 {l : Launch} {G : jG} {μ : jM} {φ : jM → Prop} {x2 x3 x4 : Int32} (hG : gMM G) (hP : gNN μ) 
    (o0 : vp_in (μ.1 112 18) 2) 
    (k0 : ((μ.1 123 (Int32.toNatClampNeg (μ.1 112 18))) ≤ (x4 : Int32)) → J l mX12_fillsSeen (jZ0 8 G (pV φ)) G 0 0 11 [.ref 112, .null, .int x2, .int (x3 + 1), .null] [] μ) 
    (o1 : (¬ ((μ.1 123 (Int32.toNatClampNeg (μ.1 112 18))) ≤ (x4 : Int32))) → vp_in (12 + x4) 68) 
    (o2 : (¬ ((μ.1 123 (Int32.toNatClampNeg (μ.1 112 18))) ≤ (x4 : Int32))) → vp_in x4 12) 
    (o3 : (¬ ((μ.1 123 (Int32.toNatClampNeg (μ.1 112 18))) ≤ (x4 : Int32))) → ((μ.1 152 (Int32.toNatClampNeg (12 + x4))) ≤ ((μ.1 163 (Int32.toNatClampNeg x4)) : Int32)) → vp_in ((12 * x3) + x4) 372) 
    (k1 : (¬ ((μ.1 123 (Int32.toNatClampNeg (μ.1 112 18))) ≤ (x4 : Int32))) → ((μ.1 152 (Int32.toNatClampNeg (12 + x4))) ≤ ((μ.1 163 (Int32.toNatClampNeg x4)) : Int32)) → J l mX12_fillsSeen (jZ0 8 G (pV φ)) G 0 0 92 [.ref 112, .null, .int x2, .int x3, .int (x4 + 1)] [] (wI μ 162 (Int32.toNatClampNeg ((12 * x3) + x4)) (vp_nar .boolean 0))) 
    (o4 : (¬ ((μ.1 123 (Int32.toNatClampNeg (μ.1 112 18))) ≤ (x4 : Int32))) → (¬ ((μ.1 152 (Int32.toNatClampNeg (12 + x4))) ≤ ((μ.1 163 (Int32.toNatClampNeg x4)) : Int32))) → vp_in ((12 * x3) + x4) 372) 
    (k2 : (¬ ((μ.1 123 (Int32.toNatClampNeg (μ.1 112 18))) ≤ (x4 : Int32))) → (¬ ((μ.1 152 (Int32.toNatClampNeg (12 + x4))) ≤ ((μ.1 163 (Int32.toNatClampNeg x4)) : Int32))) → J l mX12_fillsSeen (jZ0 8 G (pV φ)) G 0 0 92 [.ref 112, .null, .int x2, .int x3, .int (x4 + 1)] [] (wI μ 162 (Int32.toNatClampNeg ((12 * x3) + x4)) (vp_nar .boolean 1))) :
    J l mX12_fillsSeen (jZ0 8 G (pV φ)) G 0 0 92 [.ref 112, .null, .int x2, .int x3, .int x4] [] μ := by
  refine j_iload dX12_fillsSeen_92 rfl rfl ?_
  refine j_aload_n dX12_fillsSeen_94 rfl rfl ?_
  refine j_getR (ci := 12) (N := 80) (f := 24) (T := TX12) 123 dX12_fillsSeen_95 rfl (hG 112 (17, 80) rfl) rfl (by decide) fl_X12_49 rfl (hP 112 24 123 rfl) ?_
  refine j_aload_n dX12_fillsSeen_98 rfl rfl ?_
  refine j_getI (ci := 12) (N := 80) (f := 18) (T := TX12) dX12_fillsSeen_99 rfl (hG 112 (17, 80) rfl) rfl (by decide) fl_X12_263 rfl ?_
  refine j_iald' (j := (Int32.toNatClampNeg (μ.1 112 18))) dX12_fillsSeen_102 rfl (hG 123 (0, 2) rfl) o0 rfl ?_
  refine j_icmp_ge 149 dX12_fillsSeen_103 rfl (by decide) (fun c0 => ?_) (fun c0 => ?_)
  · skip
    refine j_iinc (x3 + 1) (ls' := [.ref 112, .null, .int x2, .int (x3 + 1), .int x4]) dX12_fillsSeen_149 rfl rfl rfl (Nat.le_of_ble_eq_true rfl) rfl ?_
    refine j_goto 11 dX12_fillsSeen_152 (by decide) ?_
    refine j_forget (ls' := [.ref 112, .null, .int x2, .int (x3 + 1), .null]) ⟨Or.inr rfl, Or.inr rfl, Or.inr rfl, Or.inr rfl, Or.inl rfl, trivial⟩ ?_
    exact k0 c0
  · skip
    refine j_aload_n dX12_fillsSeen_106 rfl rfl ?_
    refine j_getR (ci := 12) (N := 80) (f := 75) (T := TX12) 162 dX12_fillsSeen_107 rfl (hG 112 (17, 80) rfl) rfl (by decide) fl_X12_167 rfl (hP 112 75 162 rfl) ?_
    refine j_bipush 12 dX12_fillsSeen_110 rfl (by decide) ?_
    refine j_iload_n dX12_fillsSeen_112 rfl rfl ?_
    refine j_imul dX12_fillsSeen_113 rfl ?_
    refine j_iload dX12_fillsSeen_114 rfl rfl ?_
    refine j_iadd dX12_fillsSeen_116 rfl ?_
    refine j_aload_n dX12_fillsSeen_117 rfl rfl ?_
    refine j_getR (ci := 12) (N := 80) (f := 57) (T := TX12) 152 dX12_fillsSeen_118 rfl (hG 112 (17, 80) rfl) rfl (by decide) fl_X12_137 rfl (hP 112 57 152 rfl) ?_
    refine j_bipush 12 dX12_fillsSeen_121 rfl (by decide) ?_
    refine j_iload dX12_fillsSeen_123 rfl rfl ?_
    refine j_iadd dX12_fillsSeen_125 rfl ?_
    refine j_iald' (j := (Int32.toNatClampNeg (12 + x4))) dX12_fillsSeen_126 rfl (hG 152 (0, 68) rfl) (o1 c0) rfl ?_
    refine j_aload_n dX12_fillsSeen_127 rfl rfl ?_
    refine j_getR (ci := 12) (N := 80) (f := 76) (T := TX12) 163 dX12_fillsSeen_128 rfl (hG 112 (17, 80) rfl) rfl (by decide) fl_X12_170 rfl (hP 112 76 163 rfl) ?_
    refine j_iload dX12_fillsSeen_131 rfl rfl ?_
    refine j_iald' (j := (Int32.toNatClampNeg x4)) dX12_fillsSeen_133 rfl (hG 163 (0, 12) rfl) (o2 c0) rfl ?_
    refine j_icmp_le 141 dX12_fillsSeen_134 rfl (by decide) (fun c1 => ?_) (fun c1 => ?_)
    · skip
      refine j_iconst 0 dX12_fillsSeen_141 rfl (by decide) ?_
      refine j_zast' (j := (Int32.toNatClampNeg ((12 * x3) + x4))) dX12_fillsSeen_142 rfl (hG 162 (2, 372) rfl) (o3 c0 c1) rfl ?_
      refine j_iinc (x4 + 1) (ls' := [.ref 112, .null, .int x2, .int x3, .int (x4 + 1)]) dX12_fillsSeen_143 rfl rfl rfl (Nat.le_of_ble_eq_true rfl) rfl ?_
      refine j_goto 92 dX12_fillsSeen_146 (by decide) ?_
      exact k1 c0 c1
    · skip
      refine j_iconst 1 dX12_fillsSeen_137 rfl (by decide) ?_
      refine j_goto 142 dX12_fillsSeen_138 (by decide) ?_
      refine j_zast' (j := (Int32.toNatClampNeg ((12 * x3) + x4))) dX12_fillsSeen_142 rfl (hG 162 (2, 372) rfl) (o4 c0 c1) rfl ?_
      refine j_iinc (x4 + 1) (ls' := [.ref 112, .null, .int x2, .int x3, .int (x4 + 1)]) dX12_fillsSeen_143 rfl rfl rfl (Nat.le_of_ble_eq_true rfl) rfl ?_
      refine j_goto 92 dX12_fillsSeen_146 (by decide) ?_
      exact k2 c0 c1
theorem b_X12_lastTold_0 {l : Launch} {G : jG} {μ : jM} {φ : Int32 → jM → Prop} {x1 : Int32} (hG : gMM G) (hP : gNN μ) 
    (k0 : J l mX12_lastTold (jZ0 0 G (pI φ)) G 0 0 4 [.ref 112, .int x1, .int (-1), .int 0] [] μ) :
    J l mX12_lastTold (jZ0 0 G (pI φ)) G 0 0 0 [.ref 112, .int x1, .null, .null] [] μ := by
  refine j_iconst (-1) dX12_lastTold_0 rfl (by decide) ?_
  refine j_istore_n (ls' := [.ref 112, .int x1, .int (-1), .null]) dX12_lastTold_1 rfl rfl (Nat.le_of_ble_eq_true rfl) rfl ?_
  refine j_iconst 0 dX12_lastTold_2 rfl (by decide) ?_
  refine j_istore_n (ls' := [.ref 112, .int x1, .int (-1), .int 0]) dX12_lastTold_3 rfl rfl (Nat.le_of_ble_eq_true rfl) rfl ?_
  exact k0 
theorem b_X12_lastTold_4 {l : Launch} {G : jG} {μ : jM} {φ : Int32 → jM → Prop} {x1 x2 x3 : Int32} (hG : gMM G) (hP : gNN μ) 
    (k0 : (x1 ≤ (x3 : Int32)) → φ x2 μ) 
    (o0 : (¬ (x1 ≤ (x3 : Int32))) → vp_in x3 20) 
    (k1 : (¬ (x1 ≤ (x3 : Int32))) → ((μ.1 160 (Int32.toNatClampNeg x3)) ≤ (x2 : Int32)) → J l mX12_lastTold (jZ0 0 G (pI φ)) G 0 0 4 [.ref 112, .int x1, .int x2, .int (x3 + 1)] [] μ) 
    (k2 : (¬ (x1 ≤ (x3 : Int32))) → (¬ ((μ.1 160 (Int32.toNatClampNeg x3)) ≤ (x2 : Int32))) → J l mX12_lastTold (jZ0 0 G (pI φ)) G 0 0 4 [.ref 112, .int x1, .int (μ.1 160 (Int32.toNatClampNeg x3)), .int (x3 + 1)] [] μ) :
    J l mX12_lastTold (jZ0 0 G (pI φ)) G 0 0 4 [.ref 112, .int x1, .int x2, .int x3] [] μ := by
  refine j_iload_n dX12_lastTold_4 rfl rfl ?_
  refine j_iload_n dX12_lastTold_5 rfl rfl ?_
  refine j_icmp_ge 32 dX12_lastTold_6 rfl (by decide) (fun c0 => ?_) (fun c0 => ?_)
  · skip
    refine j_iload_n dX12_lastTold_32 rfl rfl ?_
    exact j_iret dX12_lastTold_33 rfl (k0 c0)
  · skip
    refine j_aload_n dX12_lastTold_9 rfl rfl ?_
    refine j_getR (ci := 12) (N := 80) (f := 73) (T := TX12) 160 dX12_lastTold_10 rfl (hG 112 (17, 80) rfl) rfl (by decide) fl_X12_161 rfl (hP 112 73 160 rfl) ?_
    refine j_iload_n dX12_lastTold_13 rfl rfl ?_
    refine j_iald' (j := (Int32.toNatClampNeg x3)) dX12_lastTold_14 rfl (hG 160 (0, 20) rfl) (o0 c0) rfl ?_
    refine j_iload_n dX12_lastTold_15 rfl rfl ?_
    refine j_icmp_le 26 dX12_lastTold_16 rfl (by decide) (fun c1 => ?_) (fun c1 => ?_)
    · skip
      refine j_iinc (x3 + 1) (ls' := [.ref 112, .int x1, .int x2, .int (x3 + 1)]) dX12_lastTold_26 rfl rfl rfl (Nat.le_of_ble_eq_true rfl) rfl ?_
      refine j_goto 4 dX12_lastTold_29 (by decide) ?_
      exact k1 c0 c1
    · skip
      refine j_aload_n dX12_lastTold_19 rfl rfl ?_
      refine j_getR (ci := 12) (N := 80) (f := 73) (T := TX12) 160 dX12_lastTold_20 rfl (hG 112 (17, 80) rfl) rfl (by decide) fl_X12_161 rfl (hP 112 73 160 rfl) ?_
      refine j_iload_n dX12_lastTold_23 rfl rfl ?_
      refine j_iald' (j := (Int32.toNatClampNeg x3)) dX12_lastTold_24 rfl (hG 160 (0, 20) rfl) (o0 c0) rfl ?_
      refine j_istore_n (ls' := [.ref 112, .int x1, .int (μ.1 160 (Int32.toNatClampNeg x3)), .int x3]) dX12_lastTold_25 rfl rfl (Nat.le_of_ble_eq_true rfl) rfl ?_
      refine j_iinc (x3 + 1) (ls' := [.ref 112, .int x1, .int (μ.1 160 (Int32.toNatClampNeg x3)), .int (x3 + 1)]) dX12_lastTold_26 rfl rfl rfl (Nat.le_of_ble_eq_true rfl) rfl ?_
      refine j_goto 4 dX12_lastTold_29 (by decide) ?_
      exact k2 c0 c1
theorem b_X12_isSo_0 {l : Launch} {G : jG} {μ : jM} {φ : Int32 → jM → Prop} {x1 : Int32} (hG : gMM G) (hP : gNN μ) 
    (k0 : J l mX12_isSo (jZ0 0 G (pI φ)) G 0 0 2 [.ref 112, .int x1, .int 0] [] μ) :
    J l mX12_isSo (jZ0 0 G (pI φ)) G 0 0 0 [.ref 112, .int x1, .null] [] μ := by
  refine j_iconst 0 dX12_isSo_0 rfl (by decide) ?_
  refine j_istore_n (ls' := [.ref 112, .int x1, .int 0]) dX12_isSo_1 rfl rfl (Nat.le_of_ble_eq_true rfl) rfl ?_
  exact k0 
theorem b_X12_isSo_2 {l : Launch} {G : jG} {μ : jM} {φ : Int32 → jM → Prop} {x1 x2 : Int32} (hG : gMM G) (hP : gNN μ) 
    (k0 : (x1 ≤ (x2 : Int32)) → φ 1 μ) 
    (o0 : (¬ (x1 ≤ (x2 : Int32))) → vp_in x2 20) 
    (o1 : (¬ (x1 ≤ (x2 : Int32))) → vp_in ((12 * (μ.1 160 (Int32.toNatClampNeg x2))) + (μ.1 159 (Int32.toNatClampNeg x2))) 372) 
    (k1 : (¬ (x1 ≤ (x2 : Int32))) → ((μ.1 162 (Int32.toNatClampNeg ((12 * (μ.1 160 (Int32.toNatClampNeg x2))) + (μ.1 159 (Int32.toNatClampNeg x2))))) = ((μ.1 161 (Int32.toNatClampNeg x2)) : Int32)) → J l mX12_isSo (jZ0 0 G (pI φ)) G 0 0 2 [.ref 112, .int x1, .int (x2 + 1)] [] μ) 
    (k2 : (¬ (x1 ≤ (x2 : Int32))) → (¬ ((μ.1 162 (Int32.toNatClampNeg ((12 * (μ.1 160 (Int32.toNatClampNeg x2))) + (μ.1 159 (Int32.toNatClampNeg x2))))) = ((μ.1 161 (Int32.toNatClampNeg x2)) : Int32))) → φ 0 μ) :
    J l mX12_isSo (jZ0 0 G (pI φ)) G 0 0 2 [.ref 112, .int x1, .int x2] [] μ := by
  refine j_iload_n dX12_isSo_2 rfl rfl ?_
  refine j_iload_n dX12_isSo_3 rfl rfl ?_
  refine j_icmp_ge 45 dX12_isSo_4 rfl (by decide) (fun c0 => ?_) (fun c0 => ?_)
  · skip
    refine j_iconst 1 dX12_isSo_45 rfl (by decide) ?_
    exact j_zret dX12_isSo_46 rfl (by decide) (k0 c0)
  · skip
    refine j_aload_n dX12_isSo_7 rfl rfl ?_
    refine j_getR (ci := 12) (N := 80) (f := 75) (T := TX12) 162 dX12_isSo_8 rfl (hG 112 (17, 80) rfl) rfl (by decide) fl_X12_167 rfl (hP 112 75 162 rfl) ?_
    refine j_bipush 12 dX12_isSo_11 rfl (by decide) ?_
    refine j_aload_n dX12_isSo_13 rfl rfl ?_
    refine j_getR (ci := 12) (N := 80) (f := 73) (T := TX12) 160 dX12_isSo_14 rfl (hG 112 (17, 80) rfl) rfl (by decide) fl_X12_161 rfl (hP 112 73 160 rfl) ?_
    refine j_iload_n dX12_isSo_17 rfl rfl ?_
    refine j_iald' (j := (Int32.toNatClampNeg x2)) dX12_isSo_18 rfl (hG 160 (0, 20) rfl) (o0 c0) rfl ?_
    refine j_imul dX12_isSo_19 rfl ?_
    refine j_aload_n dX12_isSo_20 rfl rfl ?_
    refine j_getR (ci := 12) (N := 80) (f := 72) (T := TX12) 159 dX12_isSo_21 rfl (hG 112 (17, 80) rfl) rfl (by decide) fl_X12_158 rfl (hP 112 72 159 rfl) ?_
    refine j_iload_n dX12_isSo_24 rfl rfl ?_
    refine j_iald' (j := (Int32.toNatClampNeg x2)) dX12_isSo_25 rfl (hG 159 (0, 20) rfl) (o0 c0) rfl ?_
    refine j_iadd dX12_isSo_26 rfl ?_
    refine j_zald' (j := (Int32.toNatClampNeg ((12 * (μ.1 160 (Int32.toNatClampNeg x2))) + (μ.1 159 (Int32.toNatClampNeg x2))))) dX12_isSo_27 rfl (hG 162 (2, 372) rfl) (o1 c0) rfl ?_
    refine j_aload_n dX12_isSo_28 rfl rfl ?_
    refine j_getR (ci := 12) (N := 80) (f := 74) (T := TX12) 161 dX12_isSo_29 rfl (hG 112 (17, 80) rfl) rfl (by decide) fl_X12_164 rfl (hP 112 74 161 rfl) ?_
    refine j_iload_n dX12_isSo_32 rfl rfl ?_
    refine j_zald' (j := (Int32.toNatClampNeg x2)) dX12_isSo_33 rfl (hG 161 (2, 20) rfl) (o0 c0) rfl ?_
    refine j_icmp_eq 39 dX12_isSo_34 rfl (by decide) (fun c1 => ?_) (fun c1 => ?_)
    · skip
      refine j_iinc (x2 + 1) (ls' := [.ref 112, .int x1, .int (x2 + 1)]) dX12_isSo_39 rfl rfl rfl (Nat.le_of_ble_eq_true rfl) rfl ?_
      refine j_goto 2 dX12_isSo_42 (by decide) ?_
      exact k1 c0 c1
    · skip
      refine j_iconst 0 dX12_isSo_37 rfl (by decide) ?_
      exact j_zret dX12_isSo_38 rfl (by decide) (k2 c0 c1)
theorem b_X12_who_0 {l : Launch} {G : jG} {μ : jM} {φ : Int32 → jM → Prop} {x1 x2 : Int32} {ψ0 : Int32 → jM → Prop} (hG : gMM G) (hP : gNN μ) 
    (e0 : jC0 l mX12_in 0 G [.int x1, .int 0, .int (μ.1 112 71)] μ (pI ψ0)) 
    (k0 : ∀ v μ', ψ0 v μ' → J l mX12_who (jZ0 9 G (pI φ)) G 0 0 9 [.ref 112, .int x1, .int x2, .null, .null, .null] [.int v] μ') :
    J l mX12_who (jZ0 9 G (pI φ)) G 0 0 0 [.ref 112, .int x1, .int x2, .null, .null, .null] [] μ := by
  refine j_iload_n dX12_who_0 rfl rfl ?_
  refine j_iconst 0 dX12_who_1 rfl (by decide) ?_
  refine j_aload_n dX12_who_2 rfl rfl ?_
  refine j_getI (ci := 12) (N := 80) (f := 71) (T := TX12) dX12_who_3 rfl (hG 112 (17, 80) rfl) rfl (by decide) fl_X12_284 rfl ?_
  refine j_cS (as := [.int x1, .int 0, .int (μ.1 112 71)]) (rest := []) dX12_who_6 rfl vw_X12_349 ⟨Nat.le_of_ble_eq_true rfl, Nat.le_of_ble_eq_true rfl⟩ rfl rfl (fun _ _ => Nat.le_of_ble_eq_true rfl) (e0 ) (fun r μ' hr => ?_)
  obtain ⟨v, rfl, hr⟩ := hr
  exact k0  v μ' hr
theorem b_X12_who_9 {l : Launch} {G : jG} {μ : jM} {φ : Int32 → jM → Prop} {x1 x2 z0 : Int32} {ψ1 : Int32 → jM → Prop} (hG : gMM G) (hP : gNN μ) 
    (k0 : (z0 = (0 : Int32)) → φ (-1) μ) 
    (e1 : (¬ (z0 = (0 : Int32))) → ((-1) ≤ (x2 : Int32)) → jC0 l mX12_lastTold 0 G [.ref 112, .int x1] μ (pI ψ1)) 
    (k1 : (¬ (z0 = (0 : Int32))) → ((-1) ≤ (x2 : Int32)) → ∀ v μ', ψ1 v μ' → J l mX12_who (jZ0 9 G (pI φ)) G 0 0 24 [.ref 112, .int x1, .int x2, .null, .null, .null] [.int v] μ') 
    (k2 : (¬ (z0 = (0 : Int32))) → (¬ ((-1) ≤ (x2 : Int32))) → φ (-1) μ) :
    J l mX12_who (jZ0 9 G (pI φ)) G 0 0 9 [.ref 112, .int x1, .int x2, .null, .null, .null] [.int z0] μ := by
  refine j_if_eq 17 dX12_who_9 rfl (by decide) (fun c0 => ?_) (fun c0 => ?_)
  · skip
    refine j_iconst (-1) dX12_who_17 rfl (by decide) ?_
    exact j_iret dX12_who_18 rfl (k0 c0)
  · skip
    refine j_iload_n dX12_who_12 rfl rfl ?_
    refine j_iconst (-1) dX12_who_13 rfl (by decide) ?_
    refine j_icmp_ge 19 dX12_who_14 rfl (by decide) (fun c1 => ?_) (fun c1 => ?_)
    · skip
      refine j_aload_n dX12_who_19 rfl rfl ?_
      refine j_iload_n dX12_who_20 rfl rfl ?_
      refine j_cV (as := [.int x1]) (rest := []) dX12_who_21 rfl vw_X12_481 (hG 112 (17, 80) rfl) rfl ⟨Nat.le_of_ble_eq_true rfl, Nat.le_of_ble_eq_true rfl⟩ rfl rfl (fun _ _ => Nat.le_of_ble_eq_true rfl) (e1 c0 c1) (fun r μ' hr => ?_)
      obtain ⟨v, rfl, hr⟩ := hr
      exact k1 c0 c1 v μ' hr
    · skip
      refine j_iconst (-1) dX12_who_17 rfl (by decide) ?_
      exact j_iret dX12_who_18 rfl (k2 c0 c1)
theorem b_X12_who_24 {l : Launch} {G : jG} {μ : jM} {φ : Int32 → jM → Prop} {x1 x2 z0 : Int32} (hG : gMM G) (hP : gNN μ) 
    (k0 : J l mX12_who (jZ0 9 G (pI φ)) G 0 0 31 [.ref 112, .int x1, .int x2, .int z0, .int 0, .int 0] [] μ) :
    J l mX12_who (jZ0 9 G (pI φ)) G 0 0 24 [.ref 112, .int x1, .int x2, .null, .null, .null] [.int z0] μ := by
  refine j_istore_n (ls' := [.ref 112, .int x1, .int x2, .int z0, .null, .null]) dX12_who_24 rfl rfl (Nat.le_of_ble_eq_true rfl) rfl ?_
  refine j_iconst 0 dX12_who_25 rfl (by decide) ?_
  refine j_istore (ls' := [.ref 112, .int x1, .int x2, .int z0, .int 0, .null]) dX12_who_26 rfl (Nat.le_of_ble_eq_true rfl) rfl ?_
  refine j_iconst 0 dX12_who_28 rfl (by decide) ?_
  refine j_istore (ls' := [.ref 112, .int x1, .int x2, .int z0, .int 0, .int 0]) dX12_who_29 rfl (Nat.le_of_ble_eq_true rfl) rfl ?_
  exact k0 
theorem b_X12_who_31 {l : Launch} {G : jG} {μ : jM} {φ : Int32 → jM → Prop} {x1 x2 x3 x4 x5 : Int32} {ψ2 : jM → Prop} (hG : gMM G) (hP : gNN μ) 
    (o0 : vp_in (μ.1 112 18) 2) 
    (k0 : ((1 <<< ((μ.1 129 (Int32.toNatClampNeg (μ.1 112 18))) &&& 31)) ≤ (x5 : Int32)) → (¬ x2 = ((-1) : Int32)) → φ (-1) μ) 
    (k1 : ((1 <<< ((μ.1 129 (Int32.toNatClampNeg (μ.1 112 18))) &&& 31)) ≤ (x5 : Int32)) → (x2 = ((-1) : Int32)) → φ x4 μ) 
    (e2 : (¬ ((1 <<< ((μ.1 129 (Int32.toNatClampNeg (μ.1 112 18))) &&& 31)) ≤ (x5 : Int32))) → jC0 l mX12_fillsSeen 8 G [.ref 112, .int x5, .int x3] μ (pV ψ2)) 
    (k2 : (¬ ((1 <<< ((μ.1 129 (Int32.toNatClampNeg (μ.1 112 18))) &&& 31)) ≤ (x5 : Int32))) → ∀ μ', ψ2 μ' → J l mX12_who (jZ0 9 G (pI φ)) G 0 0 54 [.ref 112, .int x1, .int x2, .int x3, .int x4, .int x5] [] μ') :
    J l mX12_who (jZ0 9 G (pI φ)) G 0 0 31 [.ref 112, .int x1, .int x2, .int x3, .int x4, .int x5] [] μ := by
  refine j_iload dX12_who_31 rfl rfl ?_
  refine j_iconst 1 dX12_who_33 rfl (by decide) ?_
  refine j_aload_n dX12_who_34 rfl rfl ?_
  refine j_getR (ci := 12) (N := 80) (f := 30) (T := TX12) 129 dX12_who_35 rfl (hG 112 (17, 80) rfl) rfl (by decide) fl_X12_68 rfl (hP 112 30 129 rfl) ?_
  refine j_aload_n dX12_who_38 rfl rfl ?_
  refine j_getI (ci := 12) (N := 80) (f := 18) (T := TX12) dX12_who_39 rfl (hG 112 (17, 80) rfl) rfl (by decide) fl_X12_263 rfl ?_
  refine j_iald' (j := (Int32.toNatClampNeg (μ.1 112 18))) dX12_who_42 rfl (hG 129 (0, 2) rfl) o0 rfl ?_
  refine j_ishl dX12_who_43 rfl ?_
  refine j_icmp_ge 83 dX12_who_44 rfl (by decide) (fun c0 => ?_) (fun c0 => ?_)
  · skip
    refine j_iload_n dX12_who_83 rfl rfl ?_
    refine j_iconst (-1) dX12_who_84 rfl (by decide) ?_
    refine j_icmp_ne 93 dX12_who_85 rfl (by decide) (fun c1 => ?_) (fun c1 => ?_)
    · skip
      refine j_iconst (-1) dX12_who_93 rfl (by decide) ?_
      exact j_iret dX12_who_94 rfl (k0 c0 c1)
    · skip
      refine j_iload dX12_who_88 rfl rfl ?_
      refine j_goto 94 dX12_who_90 (by decide) ?_
      exact j_iret dX12_who_94 rfl (k1 c0 c1)
  · skip
    refine j_aload_n dX12_who_47 rfl rfl ?_
    refine j_iload dX12_who_48 rfl rfl ?_
    refine j_iload_n dX12_who_50 rfl rfl ?_
    refine j_cV (as := [.int x5, .int x3]) (rest := []) dX12_who_51 rfl vw_X12_484 (hG 112 (17, 80) rfl) rfl ⟨Nat.le_of_ble_eq_true rfl, Nat.le_of_ble_eq_true rfl⟩ rfl rfl (fun _ _ => Nat.le_of_ble_eq_true rfl) (e2 c0) (fun r μ' hr => ?_)
    obtain ⟨rfl, hr⟩ := hr
    exact k2 c0 μ' hr
theorem b_X12_who_54 {l : Launch} {G : jG} {μ : jM} {φ : Int32 → jM → Prop} {x1 x2 x3 x4 x5 : Int32} {ψ0 : Int32 → jM → Prop} (hG : gMM G) (hP : gNN μ) 
    (e0 : jC0 l mX12_isSo 0 G [.ref 112, .int x1] μ (pI ψ0)) 
    (k0 : ∀ v μ', ψ0 v μ' → J l mX12_who (jZ0 9 G (pI φ)) G 0 0 59 [.ref 112, .int x1, .int x2, .int x3, .int x4, .int x5] [.int v] μ') :
    J l mX12_who (jZ0 9 G (pI φ)) G 0 0 54 [.ref 112, .int x1, .int x2, .int x3, .int x4, .int x5] [] μ := by
  refine j_aload_n dX12_who_54 rfl rfl ?_
  refine j_iload_n dX12_who_55 rfl rfl ?_
  refine j_cV (as := [.int x1]) (rest := []) dX12_who_56 rfl vw_X12_487 (hG 112 (17, 80) rfl) rfl ⟨Nat.le_of_ble_eq_true rfl, Nat.le_of_ble_eq_true rfl⟩ rfl rfl (fun _ _ => Nat.le_of_ble_eq_true rfl) (e0 ) (fun r μ' hr => ?_)
  obtain ⟨v, rfl, hr⟩ := hr
  exact k0  v μ' hr
theorem b_X12_who_59 {l : Launch} {G : jG} {μ : jM} {φ : Int32 → jM → Prop} {x1 x2 x3 x4 x5 z0 : Int32} (hG : gMM G) (hP : gNN μ) 
    (k0 : (¬ z0 = (0 : Int32)) → (¬ x4 = (x2 : Int32)) → J l mX12_who (jZ0 9 G (pI φ)) G 0 0 31 [.ref 112, .int x1, .int x2, .int x3, .int (x4 + 1), .int (x5 + 1)] [] μ) 
    (k1 : (¬ z0 = (0 : Int32)) → (x4 = (x2 : Int32)) → φ x5 μ) 
    (k2 : (z0 = (0 : Int32)) → J l mX12_who (jZ0 9 G (pI φ)) G 0 0 31 [.ref 112, .int x1, .int x2, .int x3, .int x4, .int (x5 + 1)] [] μ) :
    J l mX12_who (jZ0 9 G (pI φ)) G 0 0 59 [.ref 112, .int x1, .int x2, .int x3, .int x4, .int x5] [.int z0] μ := by
  refine j_if_ne 65 dX12_who_59 rfl (by decide) (fun c0 => ?_) (fun c0 => ?_)
  · skip
    refine j_iload dX12_who_65 rfl rfl ?_
    refine j_iload_n dX12_who_67 rfl rfl ?_
    refine j_icmp_ne 74 dX12_who_68 rfl (by decide) (fun c1 => ?_) (fun c1 => ?_)
    · skip
      refine j_iinc (x4 + 1) (ls' := [.ref 112, .int x1, .int x2, .int x3, .int (x4 + 1), .int x5]) dX12_who_74 rfl rfl rfl (Nat.le_of_ble_eq_true rfl) rfl ?_
      refine j_iinc (x5 + 1) (ls' := [.ref 112, .int x1, .int x2, .int x3, .int (x4 + 1), .int (x5 + 1)]) dX12_who_77 rfl rfl rfl (Nat.le_of_ble_eq_true rfl) rfl ?_
      refine j_goto 31 dX12_who_80 (by decide) ?_
      exact k0 c0 c1
    · skip
      refine j_iload dX12_who_71 rfl rfl ?_
      exact j_iret dX12_who_73 rfl (k1 c0 c1)
  · skip
    refine j_goto 77 dX12_who_62 (by decide) ?_
    refine j_iinc (x5 + 1) (ls' := [.ref 112, .int x1, .int x2, .int x3, .int x4, .int (x5 + 1)]) dX12_who_77 rfl rfl rfl (Nat.le_of_ble_eq_true rfl) rfl ?_
    refine j_goto 31 dX12_who_80 (by decide) ?_
    exact k2 c0
theorem b_X12_watch_0 {l : Launch} {G : jG} {μ : jM} {φ : Int32 → jM → Prop} {x1 x2 : Int32} {ψ0 : Int32 → jM → Prop} (hG : gMM G) (hP : gNN μ) 
    (e0 : jC0 l mX12_in 0 G [.int x1, .int 0, .int (μ.1 112 71)] μ (pI ψ0)) 
    (k0 : ∀ v μ', ψ0 v μ' → J l mX12_watch (jZ0 9 G (pI φ)) G 0 0 9 [.ref 112, .int x1, .int x2, .null, .null, .null, .null, .null, .null] [.int v] μ') :
    J l mX12_watch (jZ0 9 G (pI φ)) G 0 0 0 [.ref 112, .int x1, .int x2, .null, .null, .null, .null, .null, .null] [] μ := by
  refine j_iload_n dX12_watch_0 rfl rfl ?_
  refine j_iconst 0 dX12_watch_1 rfl (by decide) ?_
  refine j_aload_n dX12_watch_2 rfl rfl ?_
  refine j_getI (ci := 12) (N := 80) (f := 71) (T := TX12) dX12_watch_3 rfl (hG 112 (17, 80) rfl) rfl (by decide) fl_X12_284 rfl ?_
  refine j_cS (as := [.int x1, .int 0, .int (μ.1 112 71)]) (rest := []) dX12_watch_6 rfl vw_X12_349 ⟨Nat.le_of_ble_eq_true rfl, Nat.le_of_ble_eq_true rfl⟩ rfl rfl (fun _ _ => Nat.le_of_ble_eq_true rfl) (e0 ) (fun r μ' hr => ?_)
  obtain ⟨v, rfl, hr⟩ := hr
  exact k0  v μ' hr
theorem b_X12_watch_9 {l : Launch} {G : jG} {μ : jM} {φ : Int32 → jM → Prop} {x1 x2 z0 : Int32} {ψ1 : Int32 → jM → Prop} (hG : gMM G) (hP : gNN μ) 
    (k0 : (z0 = (0 : Int32)) → φ (-1) μ) 
    (e1 : (¬ (z0 = (0 : Int32))) → jC0 l mX12_in 0 G [.int x2, .int 0, .int 30] μ (pI ψ1)) 
    (k1 : (¬ (z0 = (0 : Int32))) → ∀ v μ', ψ1 v μ' → J l mX12_watch (jZ0 9 G (pI φ)) G 0 0 19 [.ref 112, .int x1, .int x2, .null, .null, .null, .null, .null, .null] [.int v] μ') :
    J l mX12_watch (jZ0 9 G (pI φ)) G 0 0 9 [.ref 112, .int x1, .int x2, .null, .null, .null, .null, .null, .null] [.int z0] μ := by
  refine j_if_eq 22 dX12_watch_9 rfl (by decide) (fun c0 => ?_) (fun c0 => ?_)
  · skip
    refine j_iconst (-1) dX12_watch_22 rfl (by decide) ?_
    exact j_iret dX12_watch_23 rfl (k0 c0)
  · skip
    refine j_iload_n dX12_watch_12 rfl rfl ?_
    refine j_iconst 0 dX12_watch_13 rfl (by decide) ?_
    refine j_bipush 30 dX12_watch_14 rfl (by decide) ?_
    refine j_cS (as := [.int x2, .int 0, .int 30]) (rest := []) dX12_watch_16 rfl vw_X12_349 ⟨Nat.le_of_ble_eq_true rfl, Nat.le_of_ble_eq_true rfl⟩ rfl rfl (fun _ _ => Nat.le_of_ble_eq_true rfl) (e1 c0) (fun r μ' hr => ?_)
    obtain ⟨v, rfl, hr⟩ := hr
    exact k1 c0 v μ' hr
theorem b_X12_watch_19 {l : Launch} {G : jG} {μ : jM} {φ : Int32 → jM → Prop} {x1 x2 z0 : Int32} (hG : gMM G) (hP : gNN μ) 
    (k0 : (¬ z0 = (0 : Int32)) → J l mX12_watch (jZ0 9 G (pI φ)) G 0 0 26 [.ref 112, .int x1, .int x2, .int 0, .null, .null, .null, .null, .null] [] μ) 
    (k1 : (z0 = (0 : Int32)) → φ (-1) μ) :
    J l mX12_watch (jZ0 9 G (pI φ)) G 0 0 19 [.ref 112, .int x1, .int x2, .null, .null, .null, .null, .null, .null] [.int z0] μ := by
  refine j_if_ne 24 dX12_watch_19 rfl (by decide) (fun c0 => ?_) (fun c0 => ?_)
  · skip
    refine j_iconst 0 dX12_watch_24 rfl (by decide) ?_
    refine j_istore_n (ls' := [.ref 112, .int x1, .int x2, .int 0, .null, .null, .null, .null, .null]) dX12_watch_25 rfl rfl (Nat.le_of_ble_eq_true rfl) rfl ?_
    exact k0 c0
  · skip
    refine j_iconst (-1) dX12_watch_22 rfl (by decide) ?_
    exact j_iret dX12_watch_23 rfl (k1 c0)
theorem b_X12_watch_26 {l : Launch} {G : jG} {μ : jM} {φ : Int32 → jM → Prop} {x1 x2 x3 : Int32} {ψ0 : Int32 → jM → Prop} (hG : gMM G) (hP : gNN μ) 
    (e0 : (12 ≤ (x3 : Int32)) → jC0 l mX12_lastTold 0 G [.ref 112, .int x1] μ (pI ψ0)) 
    (k0 : (12 ≤ (x3 : Int32)) → ∀ v μ', ψ0 v μ' → J l mX12_watch (jZ0 9 G (pI φ)) G 0 0 50 [.ref 112, .int x1, .int x2, .null, .null, .null, .null, .null, .null] [.int v] μ') 
    (o0 : (¬ (12 ≤ (x3 : Int32))) → vp_in x3 12) 
    (k1 : (¬ (12 ≤ (x3 : Int32))) → J l mX12_watch (jZ0 9 G (pI φ)) G 0 0 26 [.ref 112, .int x1, .int x2, .int (x3 + 1), .null, .null, .null, .null, .null] [] (wI μ 164 (Int32.toNatClampNeg x3) 0)) :
    J l mX12_watch (jZ0 9 G (pI φ)) G 0 0 26 [.ref 112, .int x1, .int x2, .int x3, .null, .null, .null, .null, .null] [] μ := by
  refine j_iload_n dX12_watch_26 rfl rfl ?_
  refine j_bipush 12 dX12_watch_27 rfl (by decide) ?_
  refine j_icmp_ge 45 dX12_watch_29 rfl (by decide) (fun c0 => ?_) (fun c0 => ?_)
  · skip
    refine j_aload_n dX12_watch_45 rfl rfl ?_
    refine j_iload_n dX12_watch_46 rfl rfl ?_
    refine j_cV (as := [.int x1]) (rest := []) dX12_watch_47 rfl vw_X12_481 (hG 112 (17, 80) rfl) rfl ⟨Nat.le_of_ble_eq_true rfl, Nat.le_of_ble_eq_true rfl⟩ rfl rfl (fun _ _ => Nat.le_of_ble_eq_true rfl) (e0 c0) (fun r μ' hr => ?_)
    obtain ⟨v, rfl, hr⟩ := hr
    refine j_forget (ls' := [.ref 112, .int x1, .int x2, .null, .null, .null, .null, .null, .null]) ⟨Or.inr rfl, Or.inr rfl, Or.inr rfl, Or.inl rfl, Or.inr rfl, Or.inr rfl, Or.inr rfl, Or.inr rfl, Or.inr rfl, trivial⟩ ?_
    exact k0 c0 v μ' hr
  · skip
    refine j_aload_n dX12_watch_32 rfl rfl ?_
    refine j_getR (ci := 12) (N := 80) (f := 77) (T := TX12) 164 dX12_watch_33 rfl (hG 112 (17, 80) rfl) rfl (by decide) fl_X12_173 rfl (hP 112 77 164 rfl) ?_
    refine j_iload_n dX12_watch_36 rfl rfl ?_
    refine j_iconst 0 dX12_watch_37 rfl (by decide) ?_
    refine j_iast' (j := (Int32.toNatClampNeg x3)) dX12_watch_38 rfl (hG 164 (0, 12) rfl) (o0 c0) rfl ?_
    refine j_iinc (x3 + 1) (ls' := [.ref 112, .int x1, .int x2, .int (x3 + 1), .null, .null, .null, .null, .null]) dX12_watch_39 rfl rfl rfl (Nat.le_of_ble_eq_true rfl) rfl ?_
    refine j_goto 26 dX12_watch_42 (by decide) ?_
    exact k1 c0
theorem b_X12_watch_50 {l : Launch} {G : jG} {μ : jM} {φ : Int32 → jM → Prop} {x1 x2 z0 : Int32} {ψ1 : Int32 → jM → Prop} (hG : gMM G) (hP : gNN μ) 
    (k0 : (z0 ≤ (x2 : Int32)) → J l mX12_watch (jZ0 9 G (pI φ)) G 0 0 70 [.ref 112, .int x1, .int x2, .int x2, .int 0, .int 0, .null, .null, .null] [] μ) 
    (e1 : (¬ (z0 ≤ (x2 : Int32))) → jC0 l mX12_lastTold 0 G [.ref 112, .int x1] μ (pI ψ1)) 
    (k1 : (¬ (z0 ≤ (x2 : Int32))) → ∀ v μ', ψ1 v μ' → J l mX12_watch (jZ0 9 G (pI φ)) G 0 0 59 [.ref 112, .int x1, .int x2, .null, .null, .null, .null, .null, .null] [.int v] μ') :
    J l mX12_watch (jZ0 9 G (pI φ)) G 0 0 50 [.ref 112, .int x1, .int x2, .null, .null, .null, .null, .null, .null] [.int z0] μ := by
  refine j_iload_n dX12_watch_50 rfl rfl ?_
  refine j_icmp_le 62 dX12_watch_51 rfl (by decide) (fun c0 => ?_) (fun c0 => ?_)
  · skip
    refine j_iload_n dX12_watch_62 rfl rfl ?_
    refine j_istore_n (ls' := [.ref 112, .int x1, .int x2, .int x2, .null, .null, .null, .null, .null]) dX12_watch_63 rfl rfl (Nat.le_of_ble_eq_true rfl) rfl ?_
    refine j_iconst 0 dX12_watch_64 rfl (by decide) ?_
    refine j_istore (ls' := [.ref 112, .int x1, .int x2, .int x2, .int 0, .null, .null, .null, .null]) dX12_watch_65 rfl (Nat.le_of_ble_eq_true rfl) rfl ?_
    refine j_iconst 0 dX12_watch_67 rfl (by decide) ?_
    refine j_istore (ls' := [.ref 112, .int x1, .int x2, .int x2, .int 0, .int 0, .null, .null, .null]) dX12_watch_68 rfl (Nat.le_of_ble_eq_true rfl) rfl ?_
    exact k0 c0
  · skip
    refine j_aload_n dX12_watch_54 rfl rfl ?_
    refine j_iload_n dX12_watch_55 rfl rfl ?_
    refine j_cV (as := [.int x1]) (rest := []) dX12_watch_56 rfl vw_X12_481 (hG 112 (17, 80) rfl) rfl ⟨Nat.le_of_ble_eq_true rfl, Nat.le_of_ble_eq_true rfl⟩ rfl rfl (fun _ _ => Nat.le_of_ble_eq_true rfl) (e1 c0) (fun r μ' hr => ?_)
    obtain ⟨v, rfl, hr⟩ := hr
    exact k1 c0 v μ' hr
theorem b_X12_watch_59 {l : Launch} {G : jG} {μ : jM} {φ : Int32 → jM → Prop} {x1 x2 z0 : Int32} (hG : gMM G) (hP : gNN μ) 
    (k0 : J l mX12_watch (jZ0 9 G (pI φ)) G 0 0 70 [.ref 112, .int x1, .int x2, .int z0, .int 0, .int 0, .null, .null, .null] [] μ) :
    J l mX12_watch (jZ0 9 G (pI φ)) G 0 0 59 [.ref 112, .int x1, .int x2, .null, .null, .null, .null, .null, .null] [.int z0] μ := by
  refine j_goto 63 dX12_watch_59 (by decide) ?_
  refine j_istore_n (ls' := [.ref 112, .int x1, .int x2, .int z0, .null, .null, .null, .null, .null]) dX12_watch_63 rfl rfl (Nat.le_of_ble_eq_true rfl) rfl ?_
  refine j_iconst 0 dX12_watch_64 rfl (by decide) ?_
  refine j_istore (ls' := [.ref 112, .int x1, .int x2, .int z0, .int 0, .null, .null, .null, .null]) dX12_watch_65 rfl (Nat.le_of_ble_eq_true rfl) rfl ?_
  refine j_iconst 0 dX12_watch_67 rfl (by decide) ?_
  refine j_istore (ls' := [.ref 112, .int x1, .int x2, .int z0, .int 0, .int 0, .null, .null, .null]) dX12_watch_68 rfl (Nat.le_of_ble_eq_true rfl) rfl ?_
  exact k0 
theorem b_X12_watch_70 {l : Launch} {G : jG} {μ : jM} {φ : Int32 → jM → Prop} {x1 x2 x3 x4 x5 : Int32} {ψ1 : jM → Prop} (hG : gMM G) (hP : gNN μ) 
    (o0 : vp_in (μ.1 112 18) 2) 
    (k0 : ((1 <<< ((μ.1 129 (Int32.toNatClampNeg (μ.1 112 18))) &&& 31)) ≤ (x5 : Int32)) → J l mX12_watch (jZ0 9 G (pI φ)) G 0 0 172 [.ref 112, .null, .null, .null, .int x4, .int (-2), .int 0, .int 0, .null] [] μ) 
    (e1 : (¬ ((1 <<< ((μ.1 129 (Int32.toNatClampNeg (μ.1 112 18))) &&& 31)) ≤ (x5 : Int32))) → jC0 l mX12_fillsSeen 8 G [.ref 112, .int x5, .int x3] μ (pV ψ1)) 
    (k1 : (¬ ((1 <<< ((μ.1 129 (Int32.toNatClampNeg (μ.1 112 18))) &&& 31)) ≤ (x5 : Int32))) → ∀ μ', ψ1 μ' → J l mX12_watch (jZ0 9 G (pI φ)) G 0 0 93 [.ref 112, .int x1, .int x2, .int x3, .int x4, .int x5, .null, .null, .null] [] μ') :
    J l mX12_watch (jZ0 9 G (pI φ)) G 0 0 70 [.ref 112, .int x1, .int x2, .int x3, .int x4, .int x5, .null, .null, .null] [] μ := by
  refine j_iload dX12_watch_70 rfl rfl ?_
  refine j_iconst 1 dX12_watch_72 rfl (by decide) ?_
  refine j_aload_n dX12_watch_73 rfl rfl ?_
  refine j_getR (ci := 12) (N := 80) (f := 30) (T := TX12) 129 dX12_watch_74 rfl (hG 112 (17, 80) rfl) rfl (by decide) fl_X12_68 rfl (hP 112 30 129 rfl) ?_
  refine j_aload_n dX12_watch_77 rfl rfl ?_
  refine j_getI (ci := 12) (N := 80) (f := 18) (T := TX12) dX12_watch_78 rfl (hG 112 (17, 80) rfl) rfl (by decide) fl_X12_263 rfl ?_
  refine j_iald' (j := (Int32.toNatClampNeg (μ.1 112 18))) dX12_watch_81 rfl (hG 129 (0, 2) rfl) o0 rfl ?_
  refine j_ishl dX12_watch_82 rfl ?_
  refine j_icmp_ge 162 dX12_watch_83 rfl (by decide) (fun c0 => ?_) (fun c0 => ?_)
  · skip
    refine j_bipush (-2) dX12_watch_162 rfl (by decide) ?_
    refine j_istore (ls' := [.ref 112, .int x1, .int x2, .int x3, .int x4, .int (-2), .null, .null, .null]) dX12_watch_164 rfl (Nat.le_of_ble_eq_true rfl) rfl ?_
    refine j_iconst 0 dX12_watch_166 rfl (by decide) ?_
    refine j_istore (ls' := [.ref 112, .int x1, .int x2, .int x3, .int x4, .int (-2), .int 0, .null, .null]) dX12_watch_167 rfl (Nat.le_of_ble_eq_true rfl) rfl ?_
    refine j_iconst 0 dX12_watch_169 rfl (by decide) ?_
    refine j_istore (ls' := [.ref 112, .int x1, .int x2, .int x3, .int x4, .int (-2), .int 0, .int 0, .null]) dX12_watch_170 rfl (Nat.le_of_ble_eq_true rfl) rfl ?_
    refine j_forget (ls' := [.ref 112, .null, .null, .null, .int x4, .int (-2), .int 0, .int 0, .null]) ⟨Or.inr rfl, Or.inl rfl, Or.inl rfl, Or.inl rfl, Or.inr rfl, Or.inr rfl, Or.inr rfl, Or.inr rfl, Or.inr rfl, trivial⟩ ?_
    exact k0 c0
  · skip
    refine j_aload_n dX12_watch_86 rfl rfl ?_
    refine j_iload dX12_watch_87 rfl rfl ?_
    refine j_iload_n dX12_watch_89 rfl rfl ?_
    refine j_cV (as := [.int x5, .int x3]) (rest := []) dX12_watch_90 rfl vw_X12_484 (hG 112 (17, 80) rfl) rfl ⟨Nat.le_of_ble_eq_true rfl, Nat.le_of_ble_eq_true rfl⟩ rfl rfl (fun _ _ => Nat.le_of_ble_eq_true rfl) (e1 c0) (fun r μ' hr => ?_)
    obtain ⟨rfl, hr⟩ := hr
    exact k1 c0 μ' hr
theorem b_X12_watch_93 {l : Launch} {G : jG} {μ : jM} {φ : Int32 → jM → Prop} {x1 x2 x3 x4 x5 : Int32} {ψ0 : Int32 → jM → Prop} (hG : gMM G) (hP : gNN μ) 
    (e0 : jC0 l mX12_isSo 0 G [.ref 112, .int x1] μ (pI ψ0)) 
    (k0 : ∀ v μ', ψ0 v μ' → J l mX12_watch (jZ0 9 G (pI φ)) G 0 0 98 [.ref 112, .int x1, .int x2, .int x3, .int x4, .int x5, .null, .null, .null] [.int v] μ') :
    J l mX12_watch (jZ0 9 G (pI φ)) G 0 0 93 [.ref 112, .int x1, .int x2, .int x3, .int x4, .int x5, .null, .null, .null] [] μ := by
  refine j_aload_n dX12_watch_93 rfl rfl ?_
  refine j_iload_n dX12_watch_94 rfl rfl ?_
  refine j_cV (as := [.int x1]) (rest := []) dX12_watch_95 rfl vw_X12_487 (hG 112 (17, 80) rfl) rfl ⟨Nat.le_of_ble_eq_true rfl, Nat.le_of_ble_eq_true rfl⟩ rfl rfl (fun _ _ => Nat.le_of_ble_eq_true rfl) (e0 ) (fun r μ' hr => ?_)
  obtain ⟨v, rfl, hr⟩ := hr
  exact k0  v μ' hr
theorem b_X12_watch_98 {l : Launch} {G : jG} {μ : jM} {φ : Int32 → jM → Prop} {x1 x2 x3 x4 x5 z0 : Int32} (hG : gMM G) (hP : gNN μ) 
    (k0 : (¬ z0 = (0 : Int32)) → J l mX12_watch (jZ0 9 G (pI φ)) G 0 0 110 [.ref 112, .int x1, .int x2, .int x3, .int (x4 + 1), .int x5, .int 0, .null, .null] [] μ) 
    (k1 : (z0 = (0 : Int32)) → J l mX12_watch (jZ0 9 G (pI φ)) G 0 0 70 [.ref 112, .int x1, .int x2, .int x3, .int x4, .int (x5 + 1), .null, .null, .null] [] μ) :
    J l mX12_watch (jZ0 9 G (pI φ)) G 0 0 98 [.ref 112, .int x1, .int x2, .int x3, .int x4, .int x5, .null, .null, .null] [.int z0] μ := by
  refine j_if_ne 104 dX12_watch_98 rfl (by decide) (fun c0 => ?_) (fun c0 => ?_)
  · skip
    refine j_iinc (x4 + 1) (ls' := [.ref 112, .int x1, .int x2, .int x3, .int (x4 + 1), .int x5, .null, .null, .null]) dX12_watch_104 rfl rfl rfl (Nat.le_of_ble_eq_true rfl) rfl ?_
    refine j_iconst 0 dX12_watch_107 rfl (by decide) ?_
    refine j_istore (ls' := [.ref 112, .int x1, .int x2, .int x3, .int (x4 + 1), .int x5, .int 0, .null, .null]) dX12_watch_108 rfl (Nat.le_of_ble_eq_true rfl) rfl ?_
    exact k0 c0
  · skip
    refine j_goto 156 dX12_watch_101 (by decide) ?_
    refine j_iinc (x5 + 1) (ls' := [.ref 112, .int x1, .int x2, .int x3, .int x4, .int (x5 + 1), .null, .null, .null]) dX12_watch_156 rfl rfl rfl (Nat.le_of_ble_eq_true rfl) rfl ?_
    refine j_goto 70 dX12_watch_159 (by decide) ?_
    exact k1 c0
theorem b_X12_watch_110 {l : Launch} {G : jG} {μ : jM} {φ : Int32 → jM → Prop} {x1 x2 x3 x4 x5 x6 : Int32} (hG : gMM G) (hP : gNN μ) 
    (o0 : vp_in (μ.1 112 18) 2) 
    (k0 : ((μ.1 123 (Int32.toNatClampNeg (μ.1 112 18))) ≤ (x6 : Int32)) → J l mX12_watch (jZ0 9 G (pI φ)) G 0 0 70 [.ref 112, .int x1, .int x2, .int x3, .int x4, .int (x5 + 1), .null, .null, .null] [] μ) 
    (o1 : (¬ ((μ.1 123 (Int32.toNatClampNeg (μ.1 112 18))) ≤ (x6 : Int32))) → vp_in ((12 * x2) + x6) 372) 
    (k1 : (¬ ((μ.1 123 (Int32.toNatClampNeg (μ.1 112 18))) ≤ (x6 : Int32))) → ((μ.1 162 (Int32.toNatClampNeg ((12 * x2) + x6))) = (0 : Int32)) → J l mX12_watch (jZ0 9 G (pI φ)) G 0 0 110 [.ref 112, .int x1, .int x2, .int x3, .int x4, .int x5, .int (x6 + 1), .null, .null] [] μ) 
    (o2 : (¬ ((μ.1 123 (Int32.toNatClampNeg (μ.1 112 18))) ≤ (x6 : Int32))) → (¬ ((μ.1 162 (Int32.toNatClampNeg ((12 * x2) + x6))) = (0 : Int32))) → vp_in x6 12) 
    (k2 : (¬ ((μ.1 123 (Int32.toNatClampNeg (μ.1 112 18))) ≤ (x6 : Int32))) → (¬ ((μ.1 162 (Int32.toNatClampNeg ((12 * x2) + x6))) = (0 : Int32))) → J l mX12_watch (jZ0 9 G (pI φ)) G 0 0 110 [.ref 112, .int x1, .int x2, .int x3, .int x4, .int x5, .int (x6 + 1), .null, .null] [] (wI μ 164 (Int32.toNatClampNeg x6) ((μ.1 164 (Int32.toNatClampNeg x6)) + 1))) :
    J l mX12_watch (jZ0 9 G (pI φ)) G 0 0 110 [.ref 112, .int x1, .int x2, .int x3, .int x4, .int x5, .int x6, .null, .null] [] μ := by
  refine j_iload dX12_watch_110 rfl rfl ?_
  refine j_aload_n dX12_watch_112 rfl rfl ?_
  refine j_getR (ci := 12) (N := 80) (f := 24) (T := TX12) 123 dX12_watch_113 rfl (hG 112 (17, 80) rfl) rfl (by decide) fl_X12_49 rfl (hP 112 24 123 rfl) ?_
  refine j_aload_n dX12_watch_116 rfl rfl ?_
  refine j_getI (ci := 12) (N := 80) (f := 18) (T := TX12) dX12_watch_117 rfl (hG 112 (17, 80) rfl) rfl (by decide) fl_X12_263 rfl ?_
  refine j_iald' (j := (Int32.toNatClampNeg (μ.1 112 18))) dX12_watch_120 rfl (hG 123 (0, 2) rfl) o0 rfl ?_
  refine j_icmp_ge 156 dX12_watch_121 rfl (by decide) (fun c0 => ?_) (fun c0 => ?_)
  · skip
    refine j_iinc (x5 + 1) (ls' := [.ref 112, .int x1, .int x2, .int x3, .int x4, .int (x5 + 1), .int x6, .null, .null]) dX12_watch_156 rfl rfl rfl (Nat.le_of_ble_eq_true rfl) rfl ?_
    refine j_goto 70 dX12_watch_159 (by decide) ?_
    refine j_forget (ls' := [.ref 112, .int x1, .int x2, .int x3, .int x4, .int (x5 + 1), .null, .null, .null]) ⟨Or.inr rfl, Or.inr rfl, Or.inr rfl, Or.inr rfl, Or.inr rfl, Or.inr rfl, Or.inl rfl, Or.inr rfl, Or.inr rfl, trivial⟩ ?_
    exact k0 c0
  · skip
    refine j_aload_n dX12_watch_124 rfl rfl ?_
    refine j_getR (ci := 12) (N := 80) (f := 75) (T := TX12) 162 dX12_watch_125 rfl (hG 112 (17, 80) rfl) rfl (by decide) fl_X12_167 rfl (hP 112 75 162 rfl) ?_
    refine j_bipush 12 dX12_watch_128 rfl (by decide) ?_
    refine j_iload_n dX12_watch_130 rfl rfl ?_
    refine j_imul dX12_watch_131 rfl ?_
    refine j_iload dX12_watch_132 rfl rfl ?_
    refine j_iadd dX12_watch_134 rfl ?_
    refine j_zald' (j := (Int32.toNatClampNeg ((12 * x2) + x6))) dX12_watch_135 rfl (hG 162 (2, 372) rfl) (o1 c0) rfl ?_
    refine j_if_eq 150 dX12_watch_136 rfl (by decide) (fun c1 => ?_) (fun c1 => ?_)
    · skip
      refine j_iinc (x6 + 1) (ls' := [.ref 112, .int x1, .int x2, .int x3, .int x4, .int x5, .int (x6 + 1), .null, .null]) dX12_watch_150 rfl rfl rfl (Nat.le_of_ble_eq_true rfl) rfl ?_
      refine j_goto 110 dX12_watch_153 (by decide) ?_
      exact k1 c0 c1
    · skip
      refine j_aload_n dX12_watch_139 rfl rfl ?_
      refine j_getR (ci := 12) (N := 80) (f := 77) (T := TX12) 164 dX12_watch_140 rfl (hG 112 (17, 80) rfl) rfl (by decide) fl_X12_173 rfl (hP 112 77 164 rfl) ?_
      refine j_iload dX12_watch_143 rfl rfl ?_
      refine j_dup2 dX12_watch_145 rfl (fun _ _ => rfl) (fun _ _ => rfl) ?_
      refine j_iald' (j := (Int32.toNatClampNeg x6)) dX12_watch_146 rfl (hG 164 (0, 12) rfl) (o2 c0 c1) rfl ?_
      refine j_iconst 1 dX12_watch_147 rfl (by decide) ?_
      refine j_iadd dX12_watch_148 rfl ?_
      refine j_iast' (j := (Int32.toNatClampNeg x6)) dX12_watch_149 rfl (hG 164 (0, 12) rfl) (o2 c0 c1) rfl ?_
      refine j_iinc (x6 + 1) (ls' := [.ref 112, .int x1, .int x2, .int x3, .int x4, .int x5, .int (x6 + 1), .null, .null]) dX12_watch_150 rfl rfl rfl (Nat.le_of_ble_eq_true rfl) rfl ?_
      refine j_goto 110 dX12_watch_153 (by decide) ?_
      exact k2 c0 c1
theorem b_X12_watch_172 {l : Launch} {G : jG} {μ : jM} {φ : Int32 → jM → Prop} {x4 x5 x6 x7 : Int32} {ψ1 : Int32 → jM → Prop} (hG : gMM G) (hP : gNN μ) 
    (o0 : vp_in (μ.1 112 18) 2) 
    (k0 : ((μ.1 123 (Int32.toNatClampNeg (μ.1 112 18))) ≤ (x7 : Int32)) → φ x5 μ) 
    (e1 : (¬ ((μ.1 123 (Int32.toNatClampNeg (μ.1 112 18))) ≤ (x7 : Int32))) → jC0 l mX12_overField 0 G [.ref 112, .int x7] μ (pI ψ1)) 
    (k1 : (¬ ((μ.1 123 (Int32.toNatClampNeg (μ.1 112 18))) ≤ (x7 : Int32))) → ∀ v μ', ψ1 v μ' → J l mX12_watch (jZ0 9 G (pI φ)) G 0 0 192 [.ref 112, .null, .null, .null, .int x4, .int x5, .int x6, .int x7, .null] [.int v] μ') :
    J l mX12_watch (jZ0 9 G (pI φ)) G 0 0 172 [.ref 112, .null, .null, .null, .int x4, .int x5, .int x6, .int x7, .null] [] μ := by
  refine j_iload dX12_watch_172 rfl rfl ?_
  refine j_aload_n dX12_watch_174 rfl rfl ?_
  refine j_getR (ci := 12) (N := 80) (f := 24) (T := TX12) 123 dX12_watch_175 rfl (hG 112 (17, 80) rfl) rfl (by decide) fl_X12_49 rfl (hP 112 24 123 rfl) ?_
  refine j_aload_n dX12_watch_178 rfl rfl ?_
  refine j_getI (ci := 12) (N := 80) (f := 18) (T := TX12) dX12_watch_179 rfl (hG 112 (17, 80) rfl) rfl (by decide) fl_X12_263 rfl ?_
  refine j_iald' (j := (Int32.toNatClampNeg (μ.1 112 18))) dX12_watch_182 rfl (hG 123 (0, 2) rfl) o0 rfl ?_
  refine j_icmp_ge 269 dX12_watch_183 rfl (by decide) (fun c0 => ?_) (fun c0 => ?_)
  · skip
    refine j_iload dX12_watch_269 rfl rfl ?_
    exact j_iret dX12_watch_271 rfl (k0 c0)
  · skip
    refine j_aload_n dX12_watch_186 rfl rfl ?_
    refine j_iload dX12_watch_187 rfl rfl ?_
    refine j_cV (as := [.int x7]) (rest := []) dX12_watch_189 rfl vw_X12_391 (hG 112 (17, 80) rfl) rfl ⟨Nat.le_of_ble_eq_true rfl, Nat.le_of_ble_eq_true rfl⟩ rfl rfl (fun _ _ => Nat.le_of_ble_eq_true rfl) (e1 c0) (fun r μ' hr => ?_)
    obtain ⟨v, rfl, hr⟩ := hr
    exact k1 c0 v μ' hr
theorem b_X12_watch_192 {l : Launch} {G : jG} {μ : jM} {φ : Int32 → jM → Prop} {x4 x5 x6 x7 z0 : Int32} (hG : gMM G) (hP : gNN μ) 
    (o0 : (¬ z0 = (0 : Int32)) → vp_in x7 12) 
    (k0 : (¬ z0 = (0 : Int32)) → ((μ.1 164 (Int32.toNatClampNeg x7)) ≤ ((x4 - (μ.1 164 (Int32.toNatClampNeg x7))) : Int32)) → (x5 < (0 : Int32)) → J l mX12_watch (jZ0 9 G (pI φ)) G 0 0 172 [.ref 112, .null, .null, .null, .int x4, .int x7, .int (x4 - (μ.1 164 (Int32.toNatClampNeg x7))), .int (x7 + 1), .null] [] μ) 
    (k1 : (¬ z0 = (0 : Int32)) → ((μ.1 164 (Int32.toNatClampNeg x7)) ≤ ((x4 - (μ.1 164 (Int32.toNatClampNeg x7))) : Int32)) → (¬ (x5 < (0 : Int32))) → ((x4 - (μ.1 164 (Int32.toNatClampNeg x7))) < (x6 : Int32)) → J l mX12_watch (jZ0 9 G (pI φ)) G 0 0 172 [.ref 112, .null, .null, .null, .int x4, .int x7, .int (x4 - (μ.1 164 (Int32.toNatClampNeg x7))), .int (x7 + 1), .null] [] μ) 
    (k2 : (¬ z0 = (0 : Int32)) → ((μ.1 164 (Int32.toNatClampNeg x7)) ≤ ((x4 - (μ.1 164 (Int32.toNatClampNeg x7))) : Int32)) → (¬ (x5 < (0 : Int32))) → (¬ ((x4 - (μ.1 164 (Int32.toNatClampNeg x7))) < (x6 : Int32))) → J l mX12_watch (jZ0 9 G (pI φ)) G 0 0 172 [.ref 112, .null, .null, .null, .int x4, .int x5, .int x6, .int (x7 + 1), .null] [] μ) 
    (k3 : (¬ z0 = (0 : Int32)) → (¬ ((μ.1 164 (Int32.toNatClampNeg x7)) ≤ ((x4 - (μ.1 164 (Int32.toNatClampNeg x7))) : Int32))) → (x5 < (0 : Int32)) → J l mX12_watch (jZ0 9 G (pI φ)) G 0 0 172 [.ref 112, .null, .null, .null, .int x4, .int x7, .int (μ.1 164 (Int32.toNatClampNeg x7)), .int (x7 + 1), .null] [] μ) 
    (k4 : (¬ z0 = (0 : Int32)) → (¬ ((μ.1 164 (Int32.toNatClampNeg x7)) ≤ ((x4 - (μ.1 164 (Int32.toNatClampNeg x7))) : Int32))) → (¬ (x5 < (0 : Int32))) → ((μ.1 164 (Int32.toNatClampNeg x7)) < (x6 : Int32)) → J l mX12_watch (jZ0 9 G (pI φ)) G 0 0 172 [.ref 112, .null, .null, .null, .int x4, .int x7, .int (μ.1 164 (Int32.toNatClampNeg x7)), .int (x7 + 1), .null] [] μ) 
    (k5 : (¬ z0 = (0 : Int32)) → (¬ ((μ.1 164 (Int32.toNatClampNeg x7)) ≤ ((x4 - (μ.1 164 (Int32.toNatClampNeg x7))) : Int32))) → (¬ (x5 < (0 : Int32))) → (¬ ((μ.1 164 (Int32.toNatClampNeg x7)) < (x6 : Int32))) → J l mX12_watch (jZ0 9 G (pI φ)) G 0 0 172 [.ref 112, .null, .null, .null, .int x4, .int x5, .int x6, .int (x7 + 1), .null] [] μ) 
    (k6 : (z0 = (0 : Int32)) → J l mX12_watch (jZ0 9 G (pI φ)) G 0 0 172 [.ref 112, .null, .null, .null, .int x4, .int x5, .int x6, .int (x7 + 1), .null] [] μ) :
    J l mX12_watch (jZ0 9 G (pI φ)) G 0 0 192 [.ref 112, .null, .null, .null, .int x4, .int x5, .int x6, .int x7, .null] [.int z0] μ := by
  refine j_if_ne 198 dX12_watch_192 rfl (by decide) (fun c0 => ?_) (fun c0 => ?_)
  · skip
    refine j_aload_n dX12_watch_198 rfl rfl ?_
    refine j_getR (ci := 12) (N := 80) (f := 77) (T := TX12) 164 dX12_watch_199 rfl (hG 112 (17, 80) rfl) rfl (by decide) fl_X12_173 rfl (hP 112 77 164 rfl) ?_
    refine j_iload dX12_watch_202 rfl rfl ?_
    refine j_iald' (j := (Int32.toNatClampNeg x7)) dX12_watch_204 rfl (hG 164 (0, 12) rfl) (o0 c0) rfl ?_
    refine j_iload dX12_watch_205 rfl rfl ?_
    refine j_aload_n dX12_watch_207 rfl rfl ?_
    refine j_getR (ci := 12) (N := 80) (f := 77) (T := TX12) 164 dX12_watch_208 rfl (hG 112 (17, 80) rfl) rfl (by decide) fl_X12_173 rfl (hP 112 77 164 rfl) ?_
    refine j_iload dX12_watch_211 rfl rfl ?_
    refine j_iald' (j := (Int32.toNatClampNeg x7)) dX12_watch_213 rfl (hG 164 (0, 12) rfl) (o0 c0) rfl ?_
    refine j_isub dX12_watch_214 rfl ?_
    refine j_icmp_le 228 dX12_watch_215 rfl (by decide) (fun c1 => ?_) (fun c1 => ?_)
    · skip
      refine j_iload dX12_watch_228 rfl rfl ?_
      refine j_aload_n dX12_watch_230 rfl rfl ?_
      refine j_getR (ci := 12) (N := 80) (f := 77) (T := TX12) 164 dX12_watch_231 rfl (hG 112 (17, 80) rfl) rfl (by decide) fl_X12_173 rfl (hP 112 77 164 rfl) ?_
      refine j_iload dX12_watch_234 rfl rfl ?_
      refine j_iald' (j := (Int32.toNatClampNeg x7)) dX12_watch_236 rfl (hG 164 (0, 12) rfl) (o0 c0) rfl ?_
      refine j_isub dX12_watch_237 rfl ?_
      refine j_istore (ls' := [.ref 112, .null, .null, .null, .int x4, .int x5, .int x6, .int x7, .int (x4 - (μ.1 164 (Int32.toNatClampNeg x7)))]) dX12_watch_238 rfl (Nat.le_of_ble_eq_true rfl) rfl ?_
      refine j_iload dX12_watch_240 rfl rfl ?_
      refine j_if_lt 255 dX12_watch_242 rfl (by decide) (fun c2 => ?_) (fun c2 => ?_)
      · skip
        refine j_iload dX12_watch_255 rfl rfl ?_
        refine j_istore (ls' := [.ref 112, .null, .null, .null, .int x4, .int x7, .int x6, .int x7, .int (x4 - (μ.1 164 (Int32.toNatClampNeg x7)))]) dX12_watch_257 rfl (Nat.le_of_ble_eq_true rfl) rfl ?_
        refine j_iload dX12_watch_259 rfl rfl ?_
        refine j_istore (ls' := [.ref 112, .null, .null, .null, .int x4, .int x7, .int (x4 - (μ.1 164 (Int32.toNatClampNeg x7))), .int x7, .int (x4 - (μ.1 164 (Int32.toNatClampNeg x7)))]) dX12_watch_261 rfl (Nat.le_of_ble_eq_true rfl) rfl ?_
        refine j_iinc (x7 + 1) (ls' := [.ref 112, .null, .null, .null, .int x4, .int x7, .int (x4 - (μ.1 164 (Int32.toNatClampNeg x7))), .int (x7 + 1), .int (x4 - (μ.1 164 (Int32.toNatClampNeg x7)))]) dX12_watch_263 rfl rfl rfl (Nat.le_of_ble_eq_true rfl) rfl ?_
        refine j_goto 172 dX12_watch_266 (by decide) ?_
        refine j_forget (ls' := [.ref 112, .null, .null, .null, .int x4, .int x7, .int (x4 - (μ.1 164 (Int32.toNatClampNeg x7))), .int (x7 + 1), .null]) ⟨Or.inr rfl, Or.inr rfl, Or.inr rfl, Or.inr rfl, Or.inr rfl, Or.inr rfl, Or.inr rfl, Or.inr rfl, Or.inl rfl, trivial⟩ ?_
        exact k0 c0 c1 c2
      · skip
        refine j_iload dX12_watch_245 rfl rfl ?_
        refine j_iload dX12_watch_247 rfl rfl ?_
        refine j_icmp_lt 255 dX12_watch_249 rfl (by decide) (fun c3 => ?_) (fun c3 => ?_)
        · skip
          refine j_iload dX12_watch_255 rfl rfl ?_
          refine j_istore (ls' := [.ref 112, .null, .null, .null, .int x4, .int x7, .int x6, .int x7, .int (x4 - (μ.1 164 (Int32.toNatClampNeg x7)))]) dX12_watch_257 rfl (Nat.le_of_ble_eq_true rfl) rfl ?_
          refine j_iload dX12_watch_259 rfl rfl ?_
          refine j_istore (ls' := [.ref 112, .null, .null, .null, .int x4, .int x7, .int (x4 - (μ.1 164 (Int32.toNatClampNeg x7))), .int x7, .int (x4 - (μ.1 164 (Int32.toNatClampNeg x7)))]) dX12_watch_261 rfl (Nat.le_of_ble_eq_true rfl) rfl ?_
          refine j_iinc (x7 + 1) (ls' := [.ref 112, .null, .null, .null, .int x4, .int x7, .int (x4 - (μ.1 164 (Int32.toNatClampNeg x7))), .int (x7 + 1), .int (x4 - (μ.1 164 (Int32.toNatClampNeg x7)))]) dX12_watch_263 rfl rfl rfl (Nat.le_of_ble_eq_true rfl) rfl ?_
          refine j_goto 172 dX12_watch_266 (by decide) ?_
          refine j_forget (ls' := [.ref 112, .null, .null, .null, .int x4, .int x7, .int (x4 - (μ.1 164 (Int32.toNatClampNeg x7))), .int (x7 + 1), .null]) ⟨Or.inr rfl, Or.inr rfl, Or.inr rfl, Or.inr rfl, Or.inr rfl, Or.inr rfl, Or.inr rfl, Or.inr rfl, Or.inl rfl, trivial⟩ ?_
          exact k1 c0 c1 c2 c3
        · skip
          refine j_goto 263 dX12_watch_252 (by decide) ?_
          refine j_iinc (x7 + 1) (ls' := [.ref 112, .null, .null, .null, .int x4, .int x5, .int x6, .int (x7 + 1), .int (x4 - (μ.1 164 (Int32.toNatClampNeg x7)))]) dX12_watch_263 rfl rfl rfl (Nat.le_of_ble_eq_true rfl) rfl ?_
          refine j_goto 172 dX12_watch_266 (by decide) ?_
          refine j_forget (ls' := [.ref 112, .null, .null, .null, .int x4, .int x5, .int x6, .int (x7 + 1), .null]) ⟨Or.inr rfl, Or.inr rfl, Or.inr rfl, Or.inr rfl, Or.inr rfl, Or.inr rfl, Or.inr rfl, Or.inr rfl, Or.inl rfl, trivial⟩ ?_
          exact k2 c0 c1 c2 c3
    · skip
      refine j_aload_n dX12_watch_218 rfl rfl ?_
      refine j_getR (ci := 12) (N := 80) (f := 77) (T := TX12) 164 dX12_watch_219 rfl (hG 112 (17, 80) rfl) rfl (by decide) fl_X12_173 rfl (hP 112 77 164 rfl) ?_
      refine j_iload dX12_watch_222 rfl rfl ?_
      refine j_iald' (j := (Int32.toNatClampNeg x7)) dX12_watch_224 rfl (hG 164 (0, 12) rfl) (o0 c0) rfl ?_
      refine j_goto 238 dX12_watch_225 (by decide) ?_
      refine j_istore (ls' := [.ref 112, .null, .null, .null, .int x4, .int x5, .int x6, .int x7, .int (μ.1 164 (Int32.toNatClampNeg x7))]) dX12_watch_238 rfl (Nat.le_of_ble_eq_true rfl) rfl ?_
      refine j_iload dX12_watch_240 rfl rfl ?_
      refine j_if_lt 255 dX12_watch_242 rfl (by decide) (fun c4 => ?_) (fun c4 => ?_)
      · skip
        refine j_iload dX12_watch_255 rfl rfl ?_
        refine j_istore (ls' := [.ref 112, .null, .null, .null, .int x4, .int x7, .int x6, .int x7, .int (μ.1 164 (Int32.toNatClampNeg x7))]) dX12_watch_257 rfl (Nat.le_of_ble_eq_true rfl) rfl ?_
        refine j_iload dX12_watch_259 rfl rfl ?_
        refine j_istore (ls' := [.ref 112, .null, .null, .null, .int x4, .int x7, .int (μ.1 164 (Int32.toNatClampNeg x7)), .int x7, .int (μ.1 164 (Int32.toNatClampNeg x7))]) dX12_watch_261 rfl (Nat.le_of_ble_eq_true rfl) rfl ?_
        refine j_iinc (x7 + 1) (ls' := [.ref 112, .null, .null, .null, .int x4, .int x7, .int (μ.1 164 (Int32.toNatClampNeg x7)), .int (x7 + 1), .int (μ.1 164 (Int32.toNatClampNeg x7))]) dX12_watch_263 rfl rfl rfl (Nat.le_of_ble_eq_true rfl) rfl ?_
        refine j_goto 172 dX12_watch_266 (by decide) ?_
        refine j_forget (ls' := [.ref 112, .null, .null, .null, .int x4, .int x7, .int (μ.1 164 (Int32.toNatClampNeg x7)), .int (x7 + 1), .null]) ⟨Or.inr rfl, Or.inr rfl, Or.inr rfl, Or.inr rfl, Or.inr rfl, Or.inr rfl, Or.inr rfl, Or.inr rfl, Or.inl rfl, trivial⟩ ?_
        exact k3 c0 c1 c4
      · skip
        refine j_iload dX12_watch_245 rfl rfl ?_
        refine j_iload dX12_watch_247 rfl rfl ?_
        refine j_icmp_lt 255 dX12_watch_249 rfl (by decide) (fun c5 => ?_) (fun c5 => ?_)
        · skip
          refine j_iload dX12_watch_255 rfl rfl ?_
          refine j_istore (ls' := [.ref 112, .null, .null, .null, .int x4, .int x7, .int x6, .int x7, .int (μ.1 164 (Int32.toNatClampNeg x7))]) dX12_watch_257 rfl (Nat.le_of_ble_eq_true rfl) rfl ?_
          refine j_iload dX12_watch_259 rfl rfl ?_
          refine j_istore (ls' := [.ref 112, .null, .null, .null, .int x4, .int x7, .int (μ.1 164 (Int32.toNatClampNeg x7)), .int x7, .int (μ.1 164 (Int32.toNatClampNeg x7))]) dX12_watch_261 rfl (Nat.le_of_ble_eq_true rfl) rfl ?_
          refine j_iinc (x7 + 1) (ls' := [.ref 112, .null, .null, .null, .int x4, .int x7, .int (μ.1 164 (Int32.toNatClampNeg x7)), .int (x7 + 1), .int (μ.1 164 (Int32.toNatClampNeg x7))]) dX12_watch_263 rfl rfl rfl (Nat.le_of_ble_eq_true rfl) rfl ?_
          refine j_goto 172 dX12_watch_266 (by decide) ?_
          refine j_forget (ls' := [.ref 112, .null, .null, .null, .int x4, .int x7, .int (μ.1 164 (Int32.toNatClampNeg x7)), .int (x7 + 1), .null]) ⟨Or.inr rfl, Or.inr rfl, Or.inr rfl, Or.inr rfl, Or.inr rfl, Or.inr rfl, Or.inr rfl, Or.inr rfl, Or.inl rfl, trivial⟩ ?_
          exact k4 c0 c1 c4 c5
        · skip
          refine j_goto 263 dX12_watch_252 (by decide) ?_
          refine j_iinc (x7 + 1) (ls' := [.ref 112, .null, .null, .null, .int x4, .int x5, .int x6, .int (x7 + 1), .int (μ.1 164 (Int32.toNatClampNeg x7))]) dX12_watch_263 rfl rfl rfl (Nat.le_of_ble_eq_true rfl) rfl ?_
          refine j_goto 172 dX12_watch_266 (by decide) ?_
          refine j_forget (ls' := [.ref 112, .null, .null, .null, .int x4, .int x5, .int x6, .int (x7 + 1), .null]) ⟨Or.inr rfl, Or.inr rfl, Or.inr rfl, Or.inr rfl, Or.inr rfl, Or.inr rfl, Or.inr rfl, Or.inr rfl, Or.inl rfl, trivial⟩ ?_
          exact k5 c0 c1 c4 c5
  · skip
    refine j_goto 263 dX12_watch_195 (by decide) ?_
    refine j_iinc (x7 + 1) (ls' := [.ref 112, .null, .null, .null, .int x4, .int x5, .int x6, .int (x7 + 1), .null]) dX12_watch_263 rfl rfl rfl (Nat.le_of_ble_eq_true rfl) rfl ?_
    refine j_goto 172 dX12_watch_266 (by decide) ?_
    exact k6 c0
theorem b_X12_hold_0 {l : Launch} {G : jG} {μ : jM} {φ : Int32 → jM → Prop} {x1 : Int32} {ψ0 : Int32 → jM → Prop} (hG : gMM G) (hP : gNN μ) 
    (e0 : jC0 l mX12_in 0 G [.int x1, .int 0, .int 2] μ (pI ψ0)) 
    (k0 : ∀ v μ', ψ0 v μ' → J l mX12_hold (jZ0 1 G (pI φ)) G 0 0 6 [.ref 112, .int x1, .null] [.int v] μ') :
    J l mX12_hold (jZ0 1 G (pI φ)) G 0 0 0 [.ref 112, .int x1, .null] [] μ := by
  refine j_iload_n dX12_hold_0 rfl rfl ?_
  refine j_iconst 0 dX12_hold_1 rfl (by decide) ?_
  refine j_iconst 2 dX12_hold_2 rfl (by decide) ?_
  refine j_cS (as := [.int x1, .int 0, .int 2]) (rest := []) dX12_hold_3 rfl vw_X12_349 ⟨Nat.le_of_ble_eq_true rfl, Nat.le_of_ble_eq_true rfl⟩ rfl rfl (fun _ _ => Nat.le_of_ble_eq_true rfl) (e0 ) (fun r μ' hr => ?_)
  obtain ⟨v, rfl, hr⟩ := hr
  exact k0  v μ' hr
theorem b_X12_hold_6 {l : Launch} {G : jG} {μ : jM} {φ : Int32 → jM → Prop} {x1 z0 : Int32} (hG : gMM G) (hP : gNN μ) 
    (o0 : (¬ z0 = (0 : Int32)) → vp_in x1 3) 
    (k0 : (¬ z0 = (0 : Int32)) → J l mX12_hold (jZ0 1 G (pI φ)) G 0 0 20 [.ref 112, .int x1, .int 0] [] (wI μ 165 (Int32.toNatClampNeg x1) (vp_nar .boolean 1))) 
    (k1 : (z0 = (0 : Int32)) → φ 0 μ) :
    J l mX12_hold (jZ0 1 G (pI φ)) G 0 0 6 [.ref 112, .int x1, .null] [.int z0] μ := by
  refine j_if_ne 11 dX12_hold_6 rfl (by decide) (fun c0 => ?_) (fun c0 => ?_)
  · skip
    refine j_aload_n dX12_hold_11 rfl rfl ?_
    refine j_getR (ci := 12) (N := 80) (f := 78) (T := TX12) 165 dX12_hold_12 rfl (hG 112 (17, 80) rfl) rfl (by decide) fl_X12_176 rfl (hP 112 78 165 rfl) ?_
    refine j_iload_n dX12_hold_15 rfl rfl ?_
    refine j_iconst 1 dX12_hold_16 rfl (by decide) ?_
    refine j_zast' (j := (Int32.toNatClampNeg x1)) dX12_hold_17 rfl (hG 165 (2, 3) rfl) (o0 c0) rfl ?_
    refine j_iconst 0 dX12_hold_18 rfl (by decide) ?_
    refine j_istore_n (ls' := [.ref 112, .int x1, .int 0]) dX12_hold_19 rfl rfl (Nat.le_of_ble_eq_true rfl) rfl ?_
    exact k0 c0
  · skip
    refine j_iconst 0 dX12_hold_9 rfl (by decide) ?_
    exact j_zret dX12_hold_10 rfl (by decide) (k1 c0)
theorem b_X12_hold_20 {l : Launch} {G : jG} {μ : jM} {φ : Int32 → jM → Prop} {x1 x2 : Int32} (hG : gMM G) (hP : gNN μ) 
    (k0 : (68 ≤ (x2 : Int32)) → φ 1 μ) 
    (o0 : (¬ (68 ≤ (x2 : Int32))) → vp_in x2 68) 
    (o1 : (¬ (68 ≤ (x2 : Int32))) → vp_in ((68 * x1) + x2) 204) 
    (k1 : (¬ (68 ≤ (x2 : Int32))) → J l mX12_hold (jZ0 1 G (pI φ)) G 0 0 20 [.ref 112, .int x1, .int (x2 + 1)] [] (wI μ 166 (Int32.toNatClampNeg ((68 * x1) + x2)) (μ.1 151 (Int32.toNatClampNeg x2)))) :
    J l mX12_hold (jZ0 1 G (pI φ)) G 0 0 20 [.ref 112, .int x1, .int x2] [] μ := by
  refine j_iload_n dX12_hold_20 rfl rfl ?_
  refine j_bipush 68 dX12_hold_21 rfl (by decide) ?_
  refine j_icmp_ge 49 dX12_hold_23 rfl (by decide) (fun c0 => ?_) (fun c0 => ?_)
  · skip
    refine j_iconst 1 dX12_hold_49 rfl (by decide) ?_
    exact j_zret dX12_hold_50 rfl (by decide) (k0 c0)
  · skip
    refine j_aload_n dX12_hold_26 rfl rfl ?_
    refine j_getR (ci := 12) (N := 80) (f := 79) (T := TX12) 166 dX12_hold_27 rfl (hG 112 (17, 80) rfl) rfl (by decide) fl_X12_179 rfl (hP 112 79 166 rfl) ?_
    refine j_bipush 68 dX12_hold_30 rfl (by decide) ?_
    refine j_iload_n dX12_hold_32 rfl rfl ?_
    refine j_imul dX12_hold_33 rfl ?_
    refine j_iload_n dX12_hold_34 rfl rfl ?_
    refine j_iadd dX12_hold_35 rfl ?_
    refine j_aload_n dX12_hold_36 rfl rfl ?_
    refine j_getR (ci := 12) (N := 80) (f := 56) (T := TX12) 151 dX12_hold_37 rfl (hG 112 (17, 80) rfl) rfl (by decide) fl_X12_134 rfl (hP 112 56 151 rfl) ?_
    refine j_iload_n dX12_hold_40 rfl rfl ?_
    refine j_iald' (j := (Int32.toNatClampNeg x2)) dX12_hold_41 rfl (hG 151 (0, 68) rfl) (o0 c0) rfl ?_
    refine j_iast' (j := (Int32.toNatClampNeg ((68 * x1) + x2))) dX12_hold_42 rfl (hG 166 (0, 204) rfl) (o1 c0) rfl ?_
    refine j_iinc (x2 + 1) (ls' := [.ref 112, .int x1, .int (x2 + 1)]) dX12_hold_43 rfl rfl rfl (Nat.le_of_ble_eq_true rfl) rfl ?_
    refine j_goto 20 dX12_hold_46 (by decide) ?_
    exact k1 c0
theorem b_X12_restore_0 {l : Launch} {G : jG} {μ : jM} {φ : Int32 → jM → Prop} {x1 : Int32} {ψ0 : Int32 → jM → Prop} (hG : gMM G) (hP : gNN μ) 
    (e0 : jC0 l mX12_in 0 G [.int x1, .int 0, .int 2] μ (pI ψ0)) 
    (k0 : ∀ v μ', ψ0 v μ' → J l mX12_restore (jZ0 1 G (pI φ)) G 0 0 6 [.ref 112, .int x1, .null] [.int v] μ') :
    J l mX12_restore (jZ0 1 G (pI φ)) G 0 0 0 [.ref 112, .int x1, .null] [] μ := by
  refine j_iload_n dX12_restore_0 rfl rfl ?_
  refine j_iconst 0 dX12_restore_1 rfl (by decide) ?_
  refine j_iconst 2 dX12_restore_2 rfl (by decide) ?_
  refine j_cS (as := [.int x1, .int 0, .int 2]) (rest := []) dX12_restore_3 rfl vw_X12_349 ⟨Nat.le_of_ble_eq_true rfl, Nat.le_of_ble_eq_true rfl⟩ rfl rfl (fun _ _ => Nat.le_of_ble_eq_true rfl) (e0 ) (fun r μ' hr => ?_)
  obtain ⟨v, rfl, hr⟩ := hr
  exact k0  v μ' hr
theorem b_X12_restore_6 {l : Launch} {G : jG} {μ : jM} {φ : Int32 → jM → Prop} {x1 z0 : Int32} (hG : gMM G) (hP : gNN μ) 
    (k0 : (z0 = (0 : Int32)) → φ 0 μ) 
    (o0 : (¬ (z0 = (0 : Int32))) → vp_in x1 3) 
    (k1 : (¬ (z0 = (0 : Int32))) → (¬ (μ.1 165 (Int32.toNatClampNeg x1)) = (0 : Int32)) → J l mX12_restore (jZ0 1 G (pI φ)) G 0 0 22 [.ref 112, .int x1, .int 0] [] μ) 
    (k2 : (¬ (z0 = (0 : Int32))) → ((μ.1 165 (Int32.toNatClampNeg x1)) = (0 : Int32)) → φ 0 μ) :
    J l mX12_restore (jZ0 1 G (pI φ)) G 0 0 6 [.ref 112, .int x1, .null] [.int z0] μ := by
  refine j_if_eq 18 dX12_restore_6 rfl (by decide) (fun c0 => ?_) (fun c0 => ?_)
  · skip
    refine j_iconst 0 dX12_restore_18 rfl (by decide) ?_
    exact j_zret dX12_restore_19 rfl (by decide) (k0 c0)
  · skip
    refine j_aload_n dX12_restore_9 rfl rfl ?_
    refine j_getR (ci := 12) (N := 80) (f := 78) (T := TX12) 165 dX12_restore_10 rfl (hG 112 (17, 80) rfl) rfl (by decide) fl_X12_176 rfl (hP 112 78 165 rfl) ?_
    refine j_iload_n dX12_restore_13 rfl rfl ?_
    refine j_zald' (j := (Int32.toNatClampNeg x1)) dX12_restore_14 rfl (hG 165 (2, 3) rfl) (o0 c0) rfl ?_
    refine j_if_ne 20 dX12_restore_15 rfl (by decide) (fun c1 => ?_) (fun c1 => ?_)
    · skip
      refine j_iconst 0 dX12_restore_20 rfl (by decide) ?_
      refine j_istore_n (ls' := [.ref 112, .int x1, .int 0]) dX12_restore_21 rfl rfl (Nat.le_of_ble_eq_true rfl) rfl ?_
      exact k1 c0 c1
    · skip
      refine j_iconst 0 dX12_restore_18 rfl (by decide) ?_
      exact j_zret dX12_restore_19 rfl (by decide) (k2 c0 c1)
theorem b_X12_restore_22 {l : Launch} {G : jG} {μ : jM} {φ : Int32 → jM → Prop} {x1 x2 : Int32} (hG : gMM G) (hP : gNN μ) 
    (k0 : (68 ≤ (x2 : Int32)) → φ 1 (wI μ 112 66 0)) 
    (o0 : (¬ (68 ≤ (x2 : Int32))) → vp_in ((68 * x1) + x2) 204) 
    (o1 : (¬ (68 ≤ (x2 : Int32))) → vp_in x2 68) 
    (k1 : (¬ (68 ≤ (x2 : Int32))) → J l mX12_restore (jZ0 1 G (pI φ)) G 0 0 22 [.ref 112, .int x1, .int (x2 + 1)] [] (wI μ 151 (Int32.toNatClampNeg x2) (μ.1 166 (Int32.toNatClampNeg ((68 * x1) + x2))))) :
    J l mX12_restore (jZ0 1 G (pI φ)) G 0 0 22 [.ref 112, .int x1, .int x2] [] μ := by
  refine j_iload_n dX12_restore_22 rfl rfl ?_
  refine j_bipush 68 dX12_restore_23 rfl (by decide) ?_
  refine j_icmp_ge 51 dX12_restore_25 rfl (by decide) (fun c0 => ?_) (fun c0 => ?_)
  · skip
    refine j_aload_n dX12_restore_51 rfl rfl ?_
    refine j_iconst 0 dX12_restore_52 rfl (by decide) ?_
    refine j_putI (ci := 12) (N := 80) (f := 66) (T := TX12) dX12_restore_53 rfl (hG 112 (17, 80) rfl) rfl (by decide) fl_X12_281 rfl rfl ?_
    refine j_iconst 1 dX12_restore_56 rfl (by decide) ?_
    exact j_zret dX12_restore_57 rfl (by decide) (k0 c0)
  · skip
    refine j_aload_n dX12_restore_28 rfl rfl ?_
    refine j_getR (ci := 12) (N := 80) (f := 56) (T := TX12) 151 dX12_restore_29 rfl (hG 112 (17, 80) rfl) rfl (by decide) fl_X12_134 rfl (hP 112 56 151 rfl) ?_
    refine j_iload_n dX12_restore_32 rfl rfl ?_
    refine j_aload_n dX12_restore_33 rfl rfl ?_
    refine j_getR (ci := 12) (N := 80) (f := 79) (T := TX12) 166 dX12_restore_34 rfl (hG 112 (17, 80) rfl) rfl (by decide) fl_X12_179 rfl (hP 112 79 166 rfl) ?_
    refine j_bipush 68 dX12_restore_37 rfl (by decide) ?_
    refine j_iload_n dX12_restore_39 rfl rfl ?_
    refine j_imul dX12_restore_40 rfl ?_
    refine j_iload_n dX12_restore_41 rfl rfl ?_
    refine j_iadd dX12_restore_42 rfl ?_
    refine j_iald' (j := (Int32.toNatClampNeg ((68 * x1) + x2))) dX12_restore_43 rfl (hG 166 (0, 204) rfl) (o0 c0) rfl ?_
    refine j_iast' (j := (Int32.toNatClampNeg x2)) dX12_restore_44 rfl (hG 151 (0, 68) rfl) (o1 c0) rfl ?_
    refine j_iinc (x2 + 1) (ls' := [.ref 112, .int x1, .int (x2 + 1)]) dX12_restore_45 rfl rfl rfl (Nat.le_of_ble_eq_true rfl) rfl ?_
    refine j_goto 22 dX12_restore_48 (by decide) ?_
    exact k1 c0
theorem b_X12_count_0 {l : Launch} {G : jG} {μ : jM} {φ : Int32 → jM → Prop} {x1 : Int32} {ψ0 : jM → Prop} (hG : gMM G) (hP : gNN μ) 
    (e0 : jC0 l mX12_copies 1 G [.ref 112] μ (pV ψ0)) 
    (k0 : ∀ μ', ψ0 μ' → J l mX12_count (jZ0 4 G (pI φ)) G 0 0 4 [.ref 112, .int x1] [] μ') :
    J l mX12_count (jZ0 4 G (pI φ)) G 0 0 0 [.ref 112, .int x1] [] μ := by
  refine j_aload_n dX12_count_0 rfl rfl ?_
  refine j_cV (as := []) (rest := []) dX12_count_1 rfl vw_X12_430 (hG 112 (17, 80) rfl) rfl ⟨Nat.le_of_ble_eq_true rfl, Nat.le_of_ble_eq_true rfl⟩ rfl rfl (fun _ _ => Nat.le_of_ble_eq_true rfl) (e0 ) (fun r μ' hr => ?_)
  obtain ⟨rfl, hr⟩ := hr
  exact k0  μ' hr
theorem b_X12_count_4 {l : Launch} {G : jG} {μ : jM} {φ : Int32 → jM → Prop} {x1 : Int32} {ψ7 : Int32 → jM → Prop} {ψ13 : Int32 → jM → Prop} (hG : gMM G) (hP : gNN μ) 
    (o0 : (x1 = (0 : Int32)) → vp_in (μ.1 112 18) 2) 
    (k0 : (x1 = (0 : Int32)) → φ (μ.1 122 (Int32.toNatClampNeg (μ.1 112 18))) μ) 
    (o1 : (¬ x1 = (0 : Int32)) → (x1 = (1 : Int32)) → vp_in (μ.1 112 18) 2) 
    (k1 : (¬ x1 = (0 : Int32)) → (x1 = (1 : Int32)) → φ (μ.1 123 (Int32.toNatClampNeg (μ.1 112 18))) μ) 
    (o2 : (¬ x1 = (0 : Int32)) → (¬ x1 = (1 : Int32)) → (x1 = (2 : Int32)) → vp_in (μ.1 112 18) 2) 
    (k2 : (¬ x1 = (0 : Int32)) → (¬ x1 = (1 : Int32)) → (x1 = (2 : Int32)) → φ (μ.1 129 (Int32.toNatClampNeg (μ.1 112 18))) μ) 
    (k3 : (¬ x1 = (0 : Int32)) → (¬ x1 = (1 : Int32)) → (¬ x1 = (2 : Int32)) → (x1 = (3 : Int32)) → φ (μ.1 152 67) μ) 
    (k4 : (¬ x1 = (0 : Int32)) → (¬ x1 = (1 : Int32)) → (¬ x1 = (2 : Int32)) → (¬ x1 = (3 : Int32)) → (x1 = (4 : Int32)) → φ (μ.1 152 65) μ) 
    (k5 : (¬ x1 = (0 : Int32)) → (¬ x1 = (1 : Int32)) → (¬ x1 = (2 : Int32)) → (¬ x1 = (3 : Int32)) → (¬ x1 = (4 : Int32)) → (x1 = (5 : Int32)) → φ (μ.1 152 66) μ) 
    (k6 : (¬ x1 = (0 : Int32)) → (¬ x1 = (1 : Int32)) → (¬ x1 = (2 : Int32)) → (¬ x1 = (3 : Int32)) → (¬ x1 = (4 : Int32)) → (¬ x1 = (5 : Int32)) → (x1 = (6 : Int32)) → φ (μ.1 152 64) μ) 
    (e7 : (¬ x1 = (0 : Int32)) → (¬ x1 = (1 : Int32)) → (¬ x1 = (2 : Int32)) → (¬ x1 = (3 : Int32)) → (¬ x1 = (4 : Int32)) → (¬ x1 = (5 : Int32)) → (¬ x1 = (6 : Int32)) → (x1 = (7 : Int32)) → jC0 l mX12_isFoggy 1 G [.ref 112] μ (pI ψ7)) 
    (k7 : (¬ x1 = (0 : Int32)) → (¬ x1 = (1 : Int32)) → (¬ x1 = (2 : Int32)) → (¬ x1 = (3 : Int32)) → (¬ x1 = (4 : Int32)) → (¬ x1 = (5 : Int32)) → (¬ x1 = (6 : Int32)) → (x1 = (7 : Int32)) → ∀ v μ', ψ7 v μ' → J l mX12_count (jZ0 4 G (pI φ)) G 0 0 138 [.null, .null] [.int v] μ') 
    (k8 : (¬ x1 = (0 : Int32)) → (¬ x1 = (1 : Int32)) → (¬ x1 = (2 : Int32)) → (¬ x1 = (3 : Int32)) → (¬ x1 = (4 : Int32)) → (¬ x1 = (5 : Int32)) → (¬ x1 = (6 : Int32)) → (¬ x1 = (7 : Int32)) → (x1 = (8 : Int32)) → φ (μ.1 112 2) μ) 
    (k9 : (¬ x1 = (0 : Int32)) → (¬ x1 = (1 : Int32)) → (¬ x1 = (2 : Int32)) → (¬ x1 = (3 : Int32)) → (¬ x1 = (4 : Int32)) → (¬ x1 = (5 : Int32)) → (¬ x1 = (6 : Int32)) → (¬ x1 = (7 : Int32)) → (¬ x1 = (8 : Int32)) → (x1 = (9 : Int32)) → φ (μ.1 112 66) μ) 
    (k10 : (¬ x1 = (0 : Int32)) → (¬ x1 = (1 : Int32)) → (¬ x1 = (2 : Int32)) → (¬ x1 = (3 : Int32)) → (¬ x1 = (4 : Int32)) → (¬ x1 = (5 : Int32)) → (¬ x1 = (6 : Int32)) → (¬ x1 = (7 : Int32)) → (¬ x1 = (8 : Int32)) → (¬ x1 = (9 : Int32)) → (x1 = (10 : Int32)) → φ (μ.1 112 71) μ) 
    (k11 : (¬ x1 = (0 : Int32)) → (¬ x1 = (1 : Int32)) → (¬ x1 = (2 : Int32)) → (¬ x1 = (3 : Int32)) → (¬ x1 = (4 : Int32)) → (¬ x1 = (5 : Int32)) → (¬ x1 = (6 : Int32)) → (¬ x1 = (7 : Int32)) → (¬ x1 = (8 : Int32)) → (¬ x1 = (9 : Int32)) → (¬ x1 = (10 : Int32)) → (x1 = (11 : Int32)) → ((μ.1 165 0) = (0 : Int32)) → J l mX12_count (jZ0 4 G (pI φ)) G 0 0 176 [.ref 112, .null] [.int 0] μ) 
    (k12 : (¬ x1 = (0 : Int32)) → (¬ x1 = (1 : Int32)) → (¬ x1 = (2 : Int32)) → (¬ x1 = (3 : Int32)) → (¬ x1 = (4 : Int32)) → (¬ x1 = (5 : Int32)) → (¬ x1 = (6 : Int32)) → (¬ x1 = (7 : Int32)) → (¬ x1 = (8 : Int32)) → (¬ x1 = (9 : Int32)) → (¬ x1 = (10 : Int32)) → (x1 = (11 : Int32)) → (¬ ((μ.1 165 0) = (0 : Int32))) → J l mX12_count (jZ0 4 G (pI φ)) G 0 0 176 [.ref 112, .null] [.int 1] μ) 
    (e13 : (¬ x1 = (0 : Int32)) → (¬ x1 = (1 : Int32)) → (¬ x1 = (2 : Int32)) → (¬ x1 = (3 : Int32)) → (¬ x1 = (4 : Int32)) → (¬ x1 = (5 : Int32)) → (¬ x1 = (6 : Int32)) → (¬ x1 = (7 : Int32)) → (¬ x1 = (8 : Int32)) → (¬ x1 = (9 : Int32)) → (¬ x1 = (10 : Int32)) → (¬ x1 = (11 : Int32)) → (x1 = (12 : Int32)) → jC0 l mX12_downNow 3 G [.ref 112] μ (pI ψ13)) 
    (k13 : (¬ x1 = (0 : Int32)) → (¬ x1 = (1 : Int32)) → (¬ x1 = (2 : Int32)) → (¬ x1 = (3 : Int32)) → (¬ x1 = (4 : Int32)) → (¬ x1 = (5 : Int32)) → (¬ x1 = (6 : Int32)) → (¬ x1 = (7 : Int32)) → (¬ x1 = (8 : Int32)) → (¬ x1 = (9 : Int32)) → (¬ x1 = (10 : Int32)) → (¬ x1 = (11 : Int32)) → (x1 = (12 : Int32)) → ∀ v μ', ψ13 v μ' → J l mX12_count (jZ0 4 G (pI φ)) G 0 0 211 [.null, .null] [.int v] μ') 
    (k14 : (¬ x1 = (0 : Int32)) → (¬ x1 = (1 : Int32)) → (¬ x1 = (2 : Int32)) → (¬ x1 = (3 : Int32)) → (¬ x1 = (4 : Int32)) → (¬ x1 = (5 : Int32)) → (¬ x1 = (6 : Int32)) → (¬ x1 = (7 : Int32)) → (¬ x1 = (8 : Int32)) → (¬ x1 = (9 : Int32)) → (¬ x1 = (10 : Int32)) → (¬ x1 = (11 : Int32)) → (¬ x1 = (12 : Int32)) → φ (-1) μ) :
    J l mX12_count (jZ0 4 G (pI φ)) G 0 0 4 [.ref 112, .int x1] [] μ := by
  refine j_iload_n dX12_count_4 rfl rfl ?_
  by_cases c0 : x1 = (0 : Int32)
  · skip
    refine j_tableIn (off := 67) 72 dX12_count_5 (sw_1 c0 (by decide)) (sw_2 c0 (by decide)) (sw_3 c0 (by decide)) (by decide) ?_
    refine j_aload_n dX12_count_72 rfl rfl ?_
    refine j_getR (ci := 12) (N := 80) (f := 23) (T := TX12) 122 dX12_count_73 rfl (hG 112 (17, 80) rfl) rfl (by decide) fl_X12_46 rfl (hP 112 23 122 rfl) ?_
    refine j_aload_n dX12_count_76 rfl rfl ?_
    refine j_getI (ci := 12) (N := 80) (f := 18) (T := TX12) dX12_count_77 rfl (hG 112 (17, 80) rfl) rfl (by decide) fl_X12_263 rfl ?_
    refine j_iald' (j := (Int32.toNatClampNeg (μ.1 112 18))) dX12_count_80 rfl (hG 122 (0, 2) rfl) (o0 c0) rfl ?_
    exact j_iret dX12_count_81 rfl (k0 c0)
  by_cases c1 : x1 = (1 : Int32)
  · skip
    refine j_tableIn (off := 77) 82 dX12_count_5 (sw_1 c1 (by decide)) (sw_2 c1 (by decide)) (sw_3 c1 (by decide)) (by decide) ?_
    refine j_aload_n dX12_count_82 rfl rfl ?_
    refine j_getR (ci := 12) (N := 80) (f := 24) (T := TX12) 123 dX12_count_83 rfl (hG 112 (17, 80) rfl) rfl (by decide) fl_X12_49 rfl (hP 112 24 123 rfl) ?_
    refine j_aload_n dX12_count_86 rfl rfl ?_
    refine j_getI (ci := 12) (N := 80) (f := 18) (T := TX12) dX12_count_87 rfl (hG 112 (17, 80) rfl) rfl (by decide) fl_X12_263 rfl ?_
    refine j_iald' (j := (Int32.toNatClampNeg (μ.1 112 18))) dX12_count_90 rfl (hG 123 (0, 2) rfl) (o1 c0 c1) rfl ?_
    exact j_iret dX12_count_91 rfl (k1 c0 c1)
  by_cases c2 : x1 = (2 : Int32)
  · skip
    refine j_tableIn (off := 87) 92 dX12_count_5 (sw_1 c2 (by decide)) (sw_2 c2 (by decide)) (sw_3 c2 (by decide)) (by decide) ?_
    refine j_aload_n dX12_count_92 rfl rfl ?_
    refine j_getR (ci := 12) (N := 80) (f := 30) (T := TX12) 129 dX12_count_93 rfl (hG 112 (17, 80) rfl) rfl (by decide) fl_X12_68 rfl (hP 112 30 129 rfl) ?_
    refine j_aload_n dX12_count_96 rfl rfl ?_
    refine j_getI (ci := 12) (N := 80) (f := 18) (T := TX12) dX12_count_97 rfl (hG 112 (17, 80) rfl) rfl (by decide) fl_X12_263 rfl ?_
    refine j_iald' (j := (Int32.toNatClampNeg (μ.1 112 18))) dX12_count_100 rfl (hG 129 (0, 2) rfl) (o2 c0 c1 c2) rfl ?_
    exact j_iret dX12_count_101 rfl (k2 c0 c1 c2)
  by_cases c3 : x1 = (3 : Int32)
  · skip
    refine j_tableIn (off := 97) 102 dX12_count_5 (sw_1 c3 (by decide)) (sw_2 c3 (by decide)) (sw_3 c3 (by decide)) (by decide) ?_
    refine j_aload_n dX12_count_102 rfl rfl ?_
    refine j_getR (ci := 12) (N := 80) (f := 57) (T := TX12) 152 dX12_count_103 rfl (hG 112 (17, 80) rfl) rfl (by decide) fl_X12_137 rfl (hP 112 57 152 rfl) ?_
    refine j_bipush 67 dX12_count_106 rfl (by decide) ?_
    refine j_iald' (j := 67) dX12_count_108 rfl (hG 152 (0, 68) rfl) (vpK (by decide)) (by decide) ?_
    exact j_iret dX12_count_109 rfl (k3 c0 c1 c2 c3)
  by_cases c4 : x1 = (4 : Int32)
  · skip
    refine j_tableIn (off := 105) 110 dX12_count_5 (sw_1 c4 (by decide)) (sw_2 c4 (by decide)) (sw_3 c4 (by decide)) (by decide) ?_
    refine j_aload_n dX12_count_110 rfl rfl ?_
    refine j_getR (ci := 12) (N := 80) (f := 57) (T := TX12) 152 dX12_count_111 rfl (hG 112 (17, 80) rfl) rfl (by decide) fl_X12_137 rfl (hP 112 57 152 rfl) ?_
    refine j_bipush 65 dX12_count_114 rfl (by decide) ?_
    refine j_iald' (j := 65) dX12_count_116 rfl (hG 152 (0, 68) rfl) (vpK (by decide)) (by decide) ?_
    exact j_iret dX12_count_117 rfl (k4 c0 c1 c2 c3 c4)
  by_cases c5 : x1 = (5 : Int32)
  · skip
    refine j_tableIn (off := 113) 118 dX12_count_5 (sw_1 c5 (by decide)) (sw_2 c5 (by decide)) (sw_3 c5 (by decide)) (by decide) ?_
    refine j_aload_n dX12_count_118 rfl rfl ?_
    refine j_getR (ci := 12) (N := 80) (f := 57) (T := TX12) 152 dX12_count_119 rfl (hG 112 (17, 80) rfl) rfl (by decide) fl_X12_137 rfl (hP 112 57 152 rfl) ?_
    refine j_bipush 66 dX12_count_122 rfl (by decide) ?_
    refine j_iald' (j := 66) dX12_count_124 rfl (hG 152 (0, 68) rfl) (vpK (by decide)) (by decide) ?_
    exact j_iret dX12_count_125 rfl (k5 c0 c1 c2 c3 c4 c5)
  by_cases c6 : x1 = (6 : Int32)
  · skip
    refine j_tableIn (off := 121) 126 dX12_count_5 (sw_1 c6 (by decide)) (sw_2 c6 (by decide)) (sw_3 c6 (by decide)) (by decide) ?_
    refine j_aload_n dX12_count_126 rfl rfl ?_
    refine j_getR (ci := 12) (N := 80) (f := 57) (T := TX12) 152 dX12_count_127 rfl (hG 112 (17, 80) rfl) rfl (by decide) fl_X12_137 rfl (hP 112 57 152 rfl) ?_
    refine j_bipush 64 dX12_count_130 rfl (by decide) ?_
    refine j_iald' (j := 64) dX12_count_132 rfl (hG 152 (0, 68) rfl) (vpK (by decide)) (by decide) ?_
    exact j_iret dX12_count_133 rfl (k6 c0 c1 c2 c3 c4 c5 c6)
  by_cases c7 : x1 = (7 : Int32)
  · skip
    refine j_tableIn (off := 129) 134 dX12_count_5 (sw_1 c7 (by decide)) (sw_2 c7 (by decide)) (sw_3 c7 (by decide)) (by decide) ?_
    refine j_aload_n dX12_count_134 rfl rfl ?_
    refine j_cV (as := []) (rest := []) dX12_count_135 rfl vw_X12_372 (hG 112 (17, 80) rfl) rfl ⟨Nat.le_of_ble_eq_true rfl, Nat.le_of_ble_eq_true rfl⟩ rfl rfl (fun _ _ => Nat.le_of_ble_eq_true rfl) (e7 c0 c1 c2 c3 c4 c5 c6 c7) (fun r μ' hr => ?_)
    obtain ⟨v, rfl, hr⟩ := hr
    refine j_forget (ls' := [.null, .null]) ⟨Or.inl rfl, Or.inl rfl, trivial⟩ ?_
    exact k7 c0 c1 c2 c3 c4 c5 c6 c7 v μ' hr
  by_cases c8 : x1 = (8 : Int32)
  · skip
    refine j_tableIn (off := 142) 147 dX12_count_5 (sw_1 c8 (by decide)) (sw_2 c8 (by decide)) (sw_3 c8 (by decide)) (by decide) ?_
    refine j_aload_n dX12_count_147 rfl rfl ?_
    refine j_getI (ci := 12) (N := 80) (f := 2) (T := TX12) dX12_count_148 rfl (hG 112 (17, 80) rfl) rfl (by decide) fl_X12_196 rfl ?_
    exact j_iret dX12_count_151 rfl (k8 c0 c1 c2 c3 c4 c5 c6 c7 c8)
  by_cases c9 : x1 = (9 : Int32)
  · skip
    refine j_tableIn (off := 147) 152 dX12_count_5 (sw_1 c9 (by decide)) (sw_2 c9 (by decide)) (sw_3 c9 (by decide)) (by decide) ?_
    refine j_aload_n dX12_count_152 rfl rfl ?_
    refine j_getI (ci := 12) (N := 80) (f := 66) (T := TX12) dX12_count_153 rfl (hG 112 (17, 80) rfl) rfl (by decide) fl_X12_281 rfl ?_
    exact j_iret dX12_count_156 rfl (k9 c0 c1 c2 c3 c4 c5 c6 c7 c8 c9)
  by_cases c10 : x1 = (10 : Int32)
  · skip
    refine j_tableIn (off := 152) 157 dX12_count_5 (sw_1 c10 (by decide)) (sw_2 c10 (by decide)) (sw_3 c10 (by decide)) (by decide) ?_
    refine j_aload_n dX12_count_157 rfl rfl ?_
    refine j_getI (ci := 12) (N := 80) (f := 71) (T := TX12) dX12_count_158 rfl (hG 112 (17, 80) rfl) rfl (by decide) fl_X12_284 rfl ?_
    exact j_iret dX12_count_161 rfl (k10 c0 c1 c2 c3 c4 c5 c6 c7 c8 c9 c10)
  by_cases c11 : x1 = (11 : Int32)
  · skip
    refine j_tableIn (off := 157) 162 dX12_count_5 (sw_1 c11 (by decide)) (sw_2 c11 (by decide)) (sw_3 c11 (by decide)) (by decide) ?_
    refine j_aload_n dX12_count_162 rfl rfl ?_
    refine j_getR (ci := 12) (N := 80) (f := 78) (T := TX12) 165 dX12_count_163 rfl (hG 112 (17, 80) rfl) rfl (by decide) fl_X12_176 rfl (hP 112 78 165 rfl) ?_
    refine j_iconst 0 dX12_count_166 rfl (by decide) ?_
    refine j_zald' (j := 0) dX12_count_167 rfl (hG 165 (2, 3) rfl) (vpK (by decide)) (by decide) ?_
    refine j_if_eq 175 dX12_count_168 rfl (by decide) (fun c12 => ?_) (fun c12 => ?_)
    · skip
      refine j_iconst 0 dX12_count_175 rfl (by decide) ?_
      refine j_forget (ls' := [.ref 112, .null]) ⟨Or.inr rfl, Or.inl rfl, trivial⟩ ?_
      exact k11 c0 c1 c2 c3 c4 c5 c6 c7 c8 c9 c10 c11 c12
    · skip
      refine j_iconst 1 dX12_count_171 rfl (by decide) ?_
      refine j_goto 176 dX12_count_172 (by decide) ?_
      refine j_forget (ls' := [.ref 112, .null]) ⟨Or.inr rfl, Or.inl rfl, trivial⟩ ?_
      exact k12 c0 c1 c2 c3 c4 c5 c6 c7 c8 c9 c10 c11 c12
  by_cases c13 : x1 = (12 : Int32)
  · skip
    refine j_tableIn (off := 202) 207 dX12_count_5 (sw_1 c13 (by decide)) (sw_2 c13 (by decide)) (sw_3 c13 (by decide)) (by decide) ?_
    refine j_aload_n dX12_count_207 rfl rfl ?_
    refine j_cV (as := []) (rest := []) dX12_count_208 rfl vw_X12_475 (hG 112 (17, 80) rfl) rfl ⟨Nat.le_of_ble_eq_true rfl, Nat.le_of_ble_eq_true rfl⟩ rfl rfl (fun _ _ => Nat.le_of_ble_eq_true rfl) (e13 c0 c1 c2 c3 c4 c5 c6 c7 c8 c9 c10 c11 c13) (fun r μ' hr => ?_)
    obtain ⟨v, rfl, hr⟩ := hr
    refine j_forget (ls' := [.null, .null]) ⟨Or.inl rfl, Or.inl rfl, trivial⟩ ?_
    exact k13 c0 c1 c2 c3 c4 c5 c6 c7 c8 c9 c10 c11 c13 v μ' hr
  refine j_tableOut 212 dX12_count_5 (sw_o [0, 1, 2, 3, 4, 5, 6, 7, 8, 9, 10, 11, 12] (by decide) ⟨c0, c1, c2, c3, c4, c5, c6, c7, c8, c9, c10, c11, c13, trivial⟩) (by decide) ?_
  refine j_iconst (-1) dX12_count_212 rfl (by decide) ?_
  exact j_iret dX12_count_213 rfl (k14 c0 c1 c2 c3 c4 c5 c6 c7 c8 c9 c10 c11 c13)
theorem b_X12_count_138 {l : Launch} {G : jG} {μ : jM} {φ : Int32 → jM → Prop} {z0 : Int32} (hG : gMM G) (hP : gNN μ) 
    (k0 : (z0 = (0 : Int32)) → J l mX12_count (jZ0 4 G (pI φ)) G 0 0 146 [.null, .null] [.int 0] μ) 
    (k1 : (¬ (z0 = (0 : Int32))) → J l mX12_count (jZ0 4 G (pI φ)) G 0 0 146 [.null, .null] [.int 1] μ) :
    J l mX12_count (jZ0 4 G (pI φ)) G 0 0 138 [.null, .null] [.int z0] μ := by
  refine j_if_eq 145 dX12_count_138 rfl (by decide) (fun c0 => ?_) (fun c0 => ?_)
  · skip
    refine j_iconst 0 dX12_count_145 rfl (by decide) ?_
    exact k0 c0
  · skip
    refine j_iconst 1 dX12_count_141 rfl (by decide) ?_
    refine j_goto 146 dX12_count_142 (by decide) ?_
    exact k1 c0
theorem b_X12_count_146 {l : Launch} {G : jG} {μ : jM} {φ : Int32 → jM → Prop} {z0 : Int32} (hG : gMM G) (hP : gNN μ) 
    (k0 : φ z0 μ) :
    J l mX12_count (jZ0 4 G (pI φ)) G 0 0 146 [.null, .null] [.int z0] μ := by
  exact j_iret dX12_count_146 rfl (k0 )
theorem b_X12_count_176 {l : Launch} {G : jG} {μ : jM} {φ : Int32 → jM → Prop} {z0 : Int32} (hG : gMM G) (hP : gNN μ) 
    (k0 : ((μ.1 165 1) = (0 : Int32)) → J l mX12_count (jZ0 4 G (pI φ)) G 0 0 190 [.ref 112, .null] [.int 0, .int z0] μ) 
    (k1 : (¬ ((μ.1 165 1) = (0 : Int32))) → J l mX12_count (jZ0 4 G (pI φ)) G 0 0 190 [.ref 112, .null] [.int 1, .int z0] μ) :
    J l mX12_count (jZ0 4 G (pI φ)) G 0 0 176 [.ref 112, .null] [.int z0] μ := by
  refine j_aload_n dX12_count_176 rfl rfl ?_
  refine j_getR (ci := 12) (N := 80) (f := 78) (T := TX12) 165 dX12_count_177 rfl (hG 112 (17, 80) rfl) rfl (by decide) fl_X12_176 rfl (hP 112 78 165 rfl) ?_
  refine j_iconst 1 dX12_count_180 rfl (by decide) ?_
  refine j_zald' (j := 1) dX12_count_181 rfl (hG 165 (2, 3) rfl) (vpK (by decide)) (by decide) ?_
  refine j_if_eq 189 dX12_count_182 rfl (by decide) (fun c0 => ?_) (fun c0 => ?_)
  · skip
    refine j_iconst 0 dX12_count_189 rfl (by decide) ?_
    exact k0 c0
  · skip
    refine j_iconst 1 dX12_count_185 rfl (by decide) ?_
    refine j_goto 190 dX12_count_186 (by decide) ?_
    exact k1 c0
theorem b_X12_count_190 {l : Launch} {G : jG} {μ : jM} {φ : Int32 → jM → Prop} {z0 z1 : Int32} (hG : gMM G) (hP : gNN μ) 
    (k0 : ((μ.1 165 2) = (0 : Int32)) → J l mX12_count (jZ0 4 G (pI φ)) G 0 0 205 [.null, .null] [.int 0, .int (z1 + z0)] μ) 
    (k1 : (¬ ((μ.1 165 2) = (0 : Int32))) → J l mX12_count (jZ0 4 G (pI φ)) G 0 0 205 [.null, .null] [.int 1, .int (z1 + z0)] μ) :
    J l mX12_count (jZ0 4 G (pI φ)) G 0 0 190 [.ref 112, .null] [.int z0, .int z1] μ := by
  refine j_iadd dX12_count_190 rfl ?_
  refine j_aload_n dX12_count_191 rfl rfl ?_
  refine j_getR (ci := 12) (N := 80) (f := 78) (T := TX12) 165 dX12_count_192 rfl (hG 112 (17, 80) rfl) rfl (by decide) fl_X12_176 rfl (hP 112 78 165 rfl) ?_
  refine j_iconst 2 dX12_count_195 rfl (by decide) ?_
  refine j_zald' (j := 2) dX12_count_196 rfl (hG 165 (2, 3) rfl) (vpK (by decide)) (by decide) ?_
  refine j_if_eq 204 dX12_count_197 rfl (by decide) (fun c0 => ?_) (fun c0 => ?_)
  · skip
    refine j_iconst 0 dX12_count_204 rfl (by decide) ?_
    refine j_forget (ls' := [.null, .null]) ⟨Or.inl rfl, Or.inr rfl, trivial⟩ ?_
    exact k0 c0
  · skip
    refine j_iconst 1 dX12_count_200 rfl (by decide) ?_
    refine j_goto 205 dX12_count_201 (by decide) ?_
    refine j_forget (ls' := [.null, .null]) ⟨Or.inl rfl, Or.inr rfl, trivial⟩ ?_
    exact k1 c0
theorem b_X12_count_205 {l : Launch} {G : jG} {μ : jM} {φ : Int32 → jM → Prop} {z0 z1 : Int32} (hG : gMM G) (hP : gNN μ) 
    (k0 : φ (z1 + z0) μ) :
    J l mX12_count (jZ0 4 G (pI φ)) G 0 0 205 [.null, .null] [.int z0, .int z1] μ := by
  refine j_iadd dX12_count_205 rfl ?_
  exact j_iret dX12_count_206 rfl (k0 )
theorem b_X12_count_211 {l : Launch} {G : jG} {μ : jM} {φ : Int32 → jM → Prop} {z0 : Int32} (hG : gMM G) (hP : gNN μ) 
    (k0 : φ z0 μ) :
    J l mX12_count (jZ0 4 G (pI φ)) G 0 0 211 [.null, .null] [.int z0] μ := by
  exact j_iret dX12_count_211 rfl (k0 )
